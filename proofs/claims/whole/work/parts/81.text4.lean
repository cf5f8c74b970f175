/-! the reference's numbers, names and lines -/
def St (M : Mem) (b : Nat → Nat) (n p : Nat) : Prop := (tBad b n p → M 0 8 = 1 ∧ M 0 9 = nI (tF b n p)) ∧ (¬ tBad b n p → M 0 8 = 0 ∧ M 0 10 = nI (tB b n p) ∧ M 0 11 = nI (tF b n p) ∧ M 0 12 = nI (tS b n p) ∧ (tS b n p = 2 → M 0 13 = nI (tV b n p)))
theorem stp.st {M M' : Mem} {b : Nat → Nat} {n p : Nat} (h : stp M M' b n p) (hp : p ≤ n) : St M' b n p := by
  obtain ⟨z, h10, h11, h12, h13, hb, hg⟩ := h
  obtain ⟨g1, g2, g3⟩ := tB_le (b := b) hp
  refine ⟨hb, fun nb => ⟨(hg nb).1, h10, h11, h12, fun s => ?_⟩⟩
  have g := g3 (by omega)
  rw [h13 s]
  unfold v2 tV
  rw [if_neg (by omega)]
theorem St.cg {M M' : Mem} {b : Nat → Nat} {n p : Nat} (h : St M b n p) (e : ∀ k, 8 ≤ k → k < 14 → M' 0 k = M 0 k) : St M' b n p := by
  unfold St
  rw [e 8 (by omega) (by omega), e 9 (by omega) (by omega), e 10 (by omega) (by omega), e 11 (by omega) (by omega), e 12 (by omega) (by omega), e 13 (by omega) (by omega)]
  exact h
theorem nI_nz {f : Nat} (h : 1 ≤ f) (h2 : f < 2 ^ 31) : ¬ nI f = 0 := fun e => by
  have := (nI_eq (b := 0) h2 (by omega)).mp e
  omega
theorem nI_np {f : Nat} (h : 1 ≤ f) (h2 : f < 2 ^ 31) : ¬ nI f ≤ 0 := fun e => by
  rw [i32_le, nI_toInt h2] at e
  have : (0 : Int32).toInt = 0 := rfl
  omega
theorem m_stepB {M : Mem} {f : Nat} {Q : Mem → Prop} (h8 : M 0 8 = nI f) (h : 1 ≤ f) (h2 : f ≤ 9) (q : Q M) : w_X8_step M Q := by
  unfold w_X8_step
  rw [h8]
  exact ⟨fun z => absurd z (nI_np h (by omega)), fun _ => q⟩
theorem m_47B {M : Mem} {f : Nat} {x : Int32} {Q : Int32 → Mem → Prop} (h8 : M 0 8 = nI f) (h : 1 ≤ f) (h2 : f ≤ 9) (q : Q x M) : w_X8_number_47 x M Q := by
  unfold w_X8_number_47
  refine m_stepB h8 h h2 ?_
  rw [h8, if_neg (nI_nz h (by omega))]
  exact q
theorem m_numB {M : Mem} {f : Nat} {x y : Int32} {Q : Int32 → Mem → Prop} (h8 : M 0 8 = nI f) (h : 1 ≤ f) (h2 : f ≤ 9) (q : Q x M) : w_X8_number x y M Q := by
  have nz := nI_nz h (show f < 2 ^ 31 by omega)
  have r := m_47B h8 h h2 q
  unfold w_X8_number w_X8_number_20
  rw [h8]
  exact ⟨fun z => absurd z nz, fun _ => ⟨fun z => absurd z nz, fun _ => r⟩⟩
theorem m_fail {M : Mem} {f pl : Nat} {Q : Mem → Prop} (h8 : M 0 8 = 0) (h11 : M 0 11 = nI pl) (q : ∀ M', zM M M' → M' 0 8 = nI f → M' 0 9 = nI pl → Q M') : w_X8_fails (nI f) M Q := by
  unfold w_X8_fails
  rw [h8]
  refine b0 ?_
  intro M2 e2 M3 e3
  refine q M3 (by rw [e3, e2]; exact (zM.rf.mu (by omega) (by omega)).mu (by omega) (by omega)) ?_ ?_
  · rw [e3, e2, mu_at, if_neg (by omega), mu_at, if_pos ⟨rfl, rfl⟩]
  · rw [e3, mu_at, if_pos ⟨rfl, rfl⟩, e2, mu_at, if_neg (by omega), h11]
theorem m_num {M : Mem} {n p lo hi : Nat} {b : Nat → Nat} {Q : Int32 → Mem → Prop} (t : TD M n b) (hp : p ≤ n) (s : St M b n p) (hl : lo < 1000) (hh : hi < 1000) (q : (nF b n p lo hi = 0 → ∀ M', zM M M' → St M' b n (tB b n p) → Q (nI (tV b n p)) M') ∧ (nF b n p lo hi ≠ 0 → ∀ M', zM M M' → M' 0 8 = nI (nF b n p lo hi) → M' 0 9 = nI (tF b n p) → Q (nI lo) M')) : w_X8_number (nI lo) (nI hi) M Q := by
  have s3 := tS_le (b := b) (n := n) (p := p)
  obtain ⟨g1, g2, -⟩ := tB_le (b := b) hp
  by_cases bd : tBad b n p
  · obtain ⟨e8, e9⟩ := s.1 bd
    have e : nF b n p lo hi = 1 := by unfold nF; rw [if_pos bd]
    exact m_numB (f := 1) e8 (by omega) (by omega) (q.2 (by omega) M zM.rf (by rw [e8, e]; rfl) e9)
  · obtain ⟨e8, e10, e11, e12, e13⟩ := s.2 bd
    unfold w_X8_number
    rw [e8, e12]
    refine b0 (pk_eq (tS b n p) 2 (fun z => ?_) (fun z => ?_))
    · have ev := e13 z
      have v := tV_lt (fun j hj => (t.2.2 j hj).1) hp z bd
      unfold w_X8_number_20
      rw [e8, ev]
      refine b0 (m_rng (v := tV b n p) (lo := lo) (hi := hi) (by omega) hl hh ⟨fun y => b1 ?_, fun y => b0 ?_⟩)
      · have e : nF b n p lo hi = 0 := by unfold nF; rw [if_neg bd, if_pos z, if_pos y]
        unfold w_X8_number_47
        rw [e8, if_pos rfl, ev]
        exact m_tok t g2 e8 e10 (fun M' h => q.1 e M' h.1 (h.st g2))
      · have e : nF b n p lo hi = 3 := by unfold nF; rw [if_neg bd, if_pos z, if_neg y]
        exact m_fail (f := 3) e8 e11 (fun M' z' a8 a9 => m_47B a8 (by omega) (by omega) (q.2 (by omega) M' z' (by rw [a8, e]) a9))
    · have e : nF b n p lo hi = 2 := by unfold nF; rw [if_neg bd, if_neg z]
      refine m_fail (f := 2) e8 e11 (fun M' z' a8 a9 => ?_)
      unfold w_X8_number_20
      rw [a8]
      exact ⟨fun u => absurd u (nI_nz (by omega) (by omega)), fun _ => m_47B a8 (by omega) (by omega) (q.2 (by omega) M' z' (by rw [a8, e]) a9)⟩
/-- the end of a line -/
def mEnd (M : Mem) (Q : Mem → Prop) : Prop := ((M 0 8) = 0 → ((M 0 12) = 3 → w_X8_readLine_94 M Q) ∧ (¬ (M 0 12) = 3 → w_X8_fails 2 M (fun M16 => w_X8_readLine_94 M16 Q))) ∧ (¬ (M 0 8) = 0 → w_X8_readLine_94 M Q)
theorem m_endB {M : Mem} {f : Nat} {Q : Mem → Prop} (h8 : M 0 8 = nI f) (h : 1 ≤ f) (h2 : f ≤ 9) (q : Q M) : mEnd M Q := by
  have r : w_X8_readLine_94 M Q := m_stepB h8 h h2 q
  unfold mEnd
  rw [h8]
  exact ⟨fun z => absurd z (nI_nz h (by omega)), fun _ => r⟩
theorem m_end {M : Mem} {n p : Nat} {b : Nat → Nat} {Q : Mem → Prop} (t : TD M n b) (hp : p ≤ n) (s : St M b n p) (q : (sF b n p = 0 → ∀ M', zM M M' → St M' b n (tB b n p) → Q M') ∧ (sF b n p ≠ 0 → ∀ M', zM M M' → M' 0 8 = nI (sF b n p) → M' 0 9 = nI (tF b n p) → Q M')) : mEnd M Q := by
  have s3 := tS_le (b := b) (n := n) (p := p)
  obtain ⟨g1, g2, -⟩ := tB_le (b := b) hp
  by_cases bd : tBad b n p
  · obtain ⟨e8, e9⟩ := s.1 bd
    have e : sF b n p = 1 := by unfold sF; rw [if_pos bd]
    exact m_endB (f := 1) e8 (by omega) (by omega) (q.2 (by omega) M zM.rf (by rw [e8, e]; rfl) e9)
  · obtain ⟨e8, e10, e11, e12, e13⟩ := s.2 bd
    unfold mEnd
    rw [e8, e12]
    refine b0 (pk_eq (tS b n p) 3 (fun z => ?_) (fun z => ?_))
    · have e : sF b n p = 0 := by unfold sF; rw [if_neg bd, if_pos z]
      exact m_tok t g2 e8 e10 (fun M' h => q.1 e M' h.1 (h.st g2))
    · have e : sF b n p = 2 := by unfold sF; rw [if_neg bd, if_neg z]
      exact m_fail (f := 2) e8 e11 (fun M' z' a8 a9 => m_stepB a8 (by omega) (by omega) (q.2 (by omega) M' z' (by rw [a8, e]) a9))
def yM (M M' : Mem) : Prop := (∀ a, a ≠ 0 → a ≠ 2 → M' a = M a) ∧ (∀ k, k ≠ 3 → k ≠ 4 → (k < 8 ∨ 14 ≤ k) → M' 0 k = M 0 k)
theorem yM.rf {M : Mem} : yM M M := ⟨fun _ _ _ => rfl, fun _ _ _ _ => rfl⟩
theorem yM.tr {M N K : Mem} (h : yM M N) (h2 : yM N K) : yM M K := ⟨fun a ha hb => (h2.1 a ha hb).trans (h.1 a ha hb), fun k ha hb hc => (h2.2 k ha hb hc).trans (h.2 k ha hb hc)⟩
theorem zM.y {M N : Mem} (h : zM M N) : yM M N := ⟨fun a ha _ => h.1 a ha, fun k _ _ hk => h.2 k hk⟩
theorem yM.mu2 {M N : Mem} {k : Nat} {v : Int32} (h : yM M N) : yM M (mu N 2 k v) := ⟨fun a ha hb => (mu_c hb).trans (h.1 a ha hb), fun j h3 h4 hj => by rw [mu_at, if_neg (by omega)]; exact h.2 j h3 h4 hj⟩
theorem yM.mu0 {M N : Mem} {k : Nat} {v : Int32} (h : yM M N) (hk : k = 3 ∨ k = 4) : yM M (mu N 0 k v) := ⟨fun a ha hb => (mu_c ha).trans (h.1 a ha hb), fun j h3 h4 hj => by rw [mu_at, if_neg (by omega)]; exact h.2 j h3 h4 hj⟩
theorem yM.td {M N : Mem} {n : Nat} {b : Nat → Nat} (h : yM M N) (t : TD M n b) : TD N n b := by
  unfold TD
  rw [h.2 6 (by omega) (by omega) (by omega), h.1 3 (by omega) (by omega)]
  exact t
def P2 (M : Mem) (D : Es) : Prop := (∀ i, i < 44 → M 2 i = nI (D i) - off i) ∧ M 0 3 = nI (D 44)
def NQ (M : Mem) (b : Nat → Nat) (n : Nat) (o : Nat × Nat) (p : Nat) (D : Es) (G : Int32) (Q : Mem → Prop) : Prop :=
  (o.1 = 0 → ∀ M', yM M M' → St M' b n p → P2 M' D → M' 0 4 = G → Q M') ∧ (o.1 ≠ 0 → ∀ M', yM M M' → M' 0 8 = nI o.1 → M' 0 9 = nI o.2 → Q M')
theorem NQ.bad {M M' : Mem} {b : Nat → Nat} {n : Nat} {o : Nat × Nat} {p f pl : Nat} {D : Es} {G : Int32} {Q : Mem → Prop} (h : NQ M b n o p D G Q) (e : o = (f, pl)) (hf : f ≠ 0) (c : yM M M') (h8 : M' 0 8 = nI f) (h9 : M' 0 9 = nI pl) : Q M' := by
  subst e
  exact h.2 hf M' c h8 h9
theorem NQ.on {M N : Mem} {b : Nat → Nat} {n : Nat} {o : Nat × Nat} {p : Nat} {D : Es} {G : Int32} {Q : Mem → Prop} (h : NQ M b n o p D G Q) (y : yM M N) : NQ N b n o p D G Q := ⟨fun a M' c => h.1 a M' (y.tr c), fun a M' c => h.2 a M' (y.tr c)⟩
theorem P2.z {M : Mem} {D : Es} (h : P2 M D) {i : Nat} (h1 : 12 ≤ i) (h2 : i < 44) : M 2 i = nI (D i) := by
  rw [h.1 i h2, off0 h1, sub0]
theorem j12 (t : Nat) : 12 + nI t = nI (12 + t) := nI_add 12 t
theorem j17 (t : Nat) : 17 + nI t = nI (17 + t) := nI_add 17 t
theorem j32 (t : Nat) : 32 + nI t = nI (32 + t) := nI_add 32 t
theorem j35 (t : Nat) : 35 + nI t = nI (35 + t) := nI_add 35 t
theorem j38 (t : Nat) : 38 + nI t = nI (38 + t) := nI_add 38 t
theorem j6 (t : Nat) : 6 + nI t = nI (6 + t) := nI_add 6 t
/-- what is written into the draft -/
def WD (D : Es) : Prop := WF D ∧ (∀ i, 22 ≤ i → i < 32 → D i = 0) ∧ D 42 = 0 ∧ D 43 = 0
theorem mu_s (M : Mem) (o k : Nat) (v : Int32) (j : Nat) : mu M o k v o j = if j = k then v else M o j := by
  rw [mu_at]
  by_cases h : j = k
  · rw [if_pos ⟨rfl, h⟩, if_pos h]
  · rw [if_neg (fun z => h z.2), if_neg h]
