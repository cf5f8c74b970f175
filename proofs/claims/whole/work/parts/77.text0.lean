/-! the tape and its tokens -/
def rn (b : Nat → Nat) (n lo hi : Nat) : Nat → Nat → Nat
  | 0, p => p
  | r + 1, p => if p < n ∧ lo ≤ b p ∧ b p ≤ hi then rn b n lo hi r (p + 1) else p
/-- the place behind a run -/
def rb (b : Nat → Nat) (n lo hi p : Nat) : Nat := rn b n lo hi (n - p) p
theorem rn_ge (b : Nat → Nat) (n lo hi : Nat) : ∀ r p, p ≤ rn b n lo hi r p
  | 0, p => Nat.le_refl _
  | r + 1, p => by
    show p ≤ (if p < n ∧ lo ≤ b p ∧ b p ≤ hi then rn b n lo hi r (p + 1) else p)
    have := rn_ge b n lo hi r (p + 1)
    split <;> omega
theorem rn_le (b : Nat → Nat) (n lo hi : Nat) : ∀ r p, p ≤ n → rn b n lo hi r p ≤ n
  | 0, p, h => h
  | r + 1, p, h => by
    show (if p < n ∧ lo ≤ b p ∧ b p ≤ hi then rn b n lo hi r (p + 1) else p) ≤ n
    split
    · next z => exact rn_le b n lo hi r (p + 1) (by omega)
    · exact h
theorem rb_go {b : Nat → Nat} {n lo hi p : Nat} (h : p < n ∧ lo ≤ b p ∧ b p ≤ hi) : rb b n lo hi p = rb b n lo hi (p + 1) := by
  unfold rb
  rw [show n - p = (n - (p + 1)) + 1 by omega]
  exact if_pos h
theorem rb_no {b : Nat → Nat} {n lo hi p : Nat} (h : ¬ (p < n ∧ lo ≤ b p ∧ b p ≤ hi)) : rb b n lo hi p = p := by
  unfold rb
  cases n - p with
  | zero => rfl
  | succ r => exact if_neg h
theorem rb_ge {b : Nat → Nat} {n lo hi p : Nat} : p ≤ rb b n lo hi p := rn_ge b n lo hi _ p
theorem rb_le {b : Nat → Nat} {n lo hi p : Nat} (h : p ≤ n) : rb b n lo hi p ≤ n := rn_le b n lo hi _ p h
/-- the tape in both -/
def TP (X M : Mem) (n : Nat) (b : Nat → Nat) : Prop := n ≤ 160 ∧ X 22 1 = nI n ∧ M 0 6 = nI n ∧ ∀ j, j < n → b j ≤ 127 ∧ X 23 j = nI (b j) ∧ M 3 j = nI (b j)
theorem RT.tp {X M : Mem} (h : RT X M) : ∃ n b, TP X M n b := by
  obtain ⟨n, hn, h1, h2, h3⟩ := h
  refine ⟨n, fun j => (X 23 j).toNatClampNeg, hn, h1, h2, fun j hj => ?_⟩
  obtain ⟨b, hb, e1, e2⟩ := h3 j hj
  have e : (X 23 j).toNatClampNeg = b := by rw [e1, nI_clamp (by omega)]
  simp only [e]
  exact ⟨hb, e1, e2⟩
/-- the class's tape -/
def TC (X : Mem) (n : Nat) (b : Nat → Nat) : Prop := n ≤ 160 ∧ X 22 1 = nI n ∧ ∀ j, j < n → b j ≤ 127 ∧ X 23 j = nI (b j)
theorem TC.cg {X X' : Mem} {n : Nat} {b : Nat → Nat} (h : TC X n b) (h22 : X' 22 = X 22) (h23 : X' 23 = X 23) : TC X' n b := by
  unfold TC
  rw [h22, h23]
  exact h
theorem w_behind {X : Mem} {n p lo hi : Nat} {b : Nat → Nat} {Q : Int32 → Prop} (t : TC X n b) (hp : p ≤ n) (hl : lo < 200) (hh : hi < 200) (q : Q (nI (rb b n lo hi p))) : w_X5_placeBehindAll (nI p) (nI lo) (nI hi) X Q := by
  obtain ⟨hn, t1, t2⟩ := t
  have main : ∀ r p, r + p = n → Q (nI (rb b n lo hi p)) → fu1 (w_X5_placeBehindAll_3 (nI lo) (nI hi) X Q) (r + 1) (nI p) := by
    intro r
    induction r with
    | zero =>
      intro p hp q
      rw [rb_no (by omega)] at q
      show w_X5_placeBehindAll_3 _ _ _ _ _ _
      unfold w_X5_placeBehindAll_3
      rw [t1]
      exact pk_le n p (fun _ => q) (fun z => by omega)
    | succ r ih =>
      intro p hp q
      show w_X5_placeBehindAll_3 (nI lo) (nI hi) X Q (fu1 (w_X5_placeBehindAll_3 (nI lo) (nI hi) X Q) (r + 1)) (nI p)
      generalize fu1 (w_X5_placeBehindAll_3 (nI lo) (nI hi) X Q) (r + 1) = K at ih ⊢
      obtain ⟨b1, b2⟩ := t2 p (by omega)
      unfold w_X5_placeBehindAll_3
      rw [t1, nI_clamp (by omega), b2]
      refine pk_le n p (fun z => by omega) (fun _ => ⟨vp_in_nI (by omega) (by omega), ?_⟩)
      refine pk_lt (b p) lo (fun z => ?_) (fun z1 => ⟨vp_in_nI (by omega) (by omega), pk_lt hi (b p) (fun z => ?_) (fun z2 => ?_)⟩)
      · rw [rb_no (by omega)] at q
        exact q
      · rw [rb_no (by omega)] at q
        exact q
      · rw [rb_go (by omega)] at q
        rw [nI_1]
        exact ih (p + 1) (by omega) q
  exact ⟨n - p + 1, main (n - p) p (by omega) q⟩
theorem w_betw {X : Mem} {n p lo hi : Nat} {b : Nat → Nat} {Q : Int32 → Prop} (t : TC X n b) (hp : p < 1000) (hl : lo < 200) (hh : hi < 200) (q : ((p < n ∧ lo ≤ b p ∧ b p ≤ hi) → Q 1) ∧ (¬ (p < n ∧ lo ≤ b p ∧ b p ≤ hi) → Q 0)) : w_X4_isBetween (nI p) (nI lo) (nI hi) X Q := by
  obtain ⟨hn, t1, t2⟩ := t
  unfold w_X4_isBetween
  rw [t1]
  refine ⟨fun z => absurd z (nI_pos (by omega)), fun _ => pk_le n p (fun z => q.2 (by omega)) (fun z => ?_)⟩
  obtain ⟨b1, b2⟩ := t2 p z
  rw [nI_clamp (by omega), b2]
  exact ⟨vp_in_nI (by omega) (by omega), pk_lt (b p) lo (fun z => q.2 (by omega)) (fun z1 => ⟨vp_in_nI (by omega) (by omega), pk_lt hi (b p) (fun z => q.2 (by omega)) (fun z2 => q.1 (by omega))⟩)⟩
/-- a token -/
def tF (b : Nat → Nat) (n p : Nat) : Nat := rb b n 32 32 p
def tS (b : Nat → Nat) (n p : Nat) : Nat := if n ≤ tF b n p then 0 else if 97 ≤ b (tF b n p) ∧ b (tF b n p) ≤ 122 then 1 else if 48 ≤ b (tF b n p) ∧ b (tF b n p) ≤ 57 then 2 else 3
def tB (b : Nat → Nat) (n p : Nat) : Nat := if n ≤ tF b n p then n else if 97 ≤ b (tF b n p) ∧ b (tF b n p) ≤ 122 then rb b n 97 122 (tF b n p) else if 48 ≤ b (tF b n p) ∧ b (tF b n p) ≤ 57 then rb b n 48 57 (tF b n p) else tF b n p + 1
def tV (b : Nat → Nat) (n p : Nat) : Nat := if tB b n p - tF b n p = 1 then b (tF b n p) - 48 else 10 * (b (tF b n p) - 48) + (b (tF b n p + 1) - 48)
abbrev tBad (b : Nat → Nat) (n p : Nat) : Prop := (tS b n p = 2 ∧ 2 < tB b n p - tF b n p) ∨ (tS b n p = 3 ∧ b (tF b n p) ≠ 59)
theorem tF_le {b : Nat → Nat} {n p : Nat} (h : p ≤ n) : p ≤ tF b n p ∧ tF b n p ≤ n := ⟨rb_ge, rb_le h⟩
theorem tB_le {b : Nat → Nat} {n p : Nat} (h : p ≤ n) : tF b n p ≤ tB b n p ∧ tB b n p ≤ n ∧ (tS b n p ≠ 0 → tF b n p < tB b n p) := by
  obtain ⟨h1, h2⟩ := tF_le (b := b) h
  unfold tB tS
  by_cases z : n ≤ tF b n p
  · rw [if_pos z, if_pos z]
    exact ⟨by omega, by omega, fun q => absurd rfl q⟩
  · rw [if_neg z, if_neg z]
    by_cases z1 : 97 ≤ b (tF b n p) ∧ b (tF b n p) ≤ 122
    · rw [if_pos z1, if_pos z1, rb_go (by omega)]
      have g1 := rb_ge (b := b) (n := n) (lo := 97) (hi := 122) (p := tF b n p + 1)
      have g2 := rb_le (b := b) (n := n) (lo := 97) (hi := 122) (p := tF b n p + 1) (by omega)
      exact ⟨by omega, by omega, fun _ => by omega⟩
    · rw [if_neg z1, if_neg z1]
      by_cases z2 : 48 ≤ b (tF b n p) ∧ b (tF b n p) ≤ 57
      · rw [if_pos z2, if_pos z2, rb_go (by omega)]
        have g1 := rb_ge (b := b) (n := n) (lo := 48) (hi := 57) (p := tF b n p + 1)
        have g2 := rb_le (b := b) (n := n) (lo := 48) (hi := 57) (p := tF b n p + 1) (by omega)
        exact ⟨by omega, by omega, fun _ => by omega⟩
      · rw [if_neg z2, if_neg z2]
        exact ⟨by omega, by omega, fun _ => by omega⟩
def kX (X X' : Mem) : Prop := ∀ a, a ≠ 24 → X' a = X a
theorem kX.rf {X : Mem} : kX X X := fun _ _ => rfl
theorem kX.tr {X Y Z : Mem} (h : kX X Y) (h2 : kX Y Z) : kX X Z := fun a ha => (h2 a ha).trans (h a ha)
theorem kX.mu {X Y : Mem} {k : Nat} {v : Int32} (h : kX X Y) : kX X (mu Y 24 k v) := fun a ha => (mu_c ha).trans (h a ha)
theorem kX.tc {X Y : Mem} {n : Nat} {b : Nat → Nat} (h : kX X Y) (t : TC X n b) : TC Y n b := t.cg (h 22 (by omega)) (h 23 (by omega))
theorem w_fig {X : Mem} {n f e : Nat} {b : Nat → Nat} {Q : Int32 → Mem → Prop} (t : TC X n b) (hf : f < e) (he : e ≤ n) (h2 : X 24 2 = nI f) (h3 : X 24 3 = nI e) (hd : ∀ j, f ≤ j → j < e → 48 ≤ b j ∧ b j ≤ 57) (q : (e - f ≤ 2 → ∀ X', kX X X' → (∀ k, k ≠ 4 → X' 24 k = X 24 k) → X' 24 4 = nI (if e - f = 1 then b f - 48 else 10 * (b f - 48) + (b (f + 1) - 48)) → Q 1 X') ∧ (2 < e - f → Q 0 X)) : w_X5_takeFigures X Q := by
  have hn := t.1
  unfold w_X5_takeFigures
  rw [h2, h3, nIs (by omega)]
  refine pk_le (e - f) 2 (fun z => ?_) (fun z => q.2 z)
  intro M2 e2
  have h22 : M2 24 2 = nI f := by rw [e2, mu_at, if_neg (by omega), h2]
  have h23 : M2 24 3 = nI e := by rw [e2, mu_at, if_neg (by omega), h3]
  have h24 : M2 24 4 = 0 := by rw [e2, mu_at, if_pos ⟨rfl, rfl⟩]
  have k2 : kX X M2 := by rw [e2]; exact kX.rf.mu
  have o2 : ∀ k, k ≠ 4 → M2 24 k = X 24 k := fun k hk => by rw [e2, mu_at, if_neg (by omega)]
  rw [h22]
  have stp : ∀ (N : Mem) (p v : Nat) (K : Int32 → Mem → Prop), kX X N → N 24 3 = nI e → N 24 4 = nI v → f ≤ p → p < e → (∀ N', N' = mu N 24 4 (nI (10 * v + (b p - 48))) → K (nI (p + 1)) N') → w_X5_takeFigures_25 Q K (nI p) N := by
    intro N p v K kN n3 n4 hfp hpe hK
    obtain ⟨b1, b2⟩ := (kN.tc t).2.2 p (by omega)
    have hb := hd p hfp hpe
    unfold w_X5_takeFigures_25
    rw [n3, (kN.tc t).2.1, nI_clamp (by omega), b2, n4, show nI v * 10 = nI (v * 10) from nIm v 10, nI_add, show nI (v * 10 + b p) - 48 = nI (v * 10 + b p - 48) from nIs (b := 48) (by omega), nI_1]
    refine pk_le e p (fun z => by omega) (fun _ => pk_le n p (fun z => by omega) (fun _ => ⟨vp_in_nI (by omega) (by omega), fun N' eN => hK N' ?_⟩))
    rw [eN]
    congr 2
    omega
  have fin : ∀ (N : Mem) (K : Int32 → Mem → Prop), N 24 3 = nI e → Q 1 N → w_X5_takeFigures_25 Q K (nI e) N := by
    intro N K n3 hQ
    unfold w_X5_takeFigures_25
    rw [n3]
    exact pk_le e e (fun _ => hQ) (fun z => by omega)
  refine ⟨3, ?_⟩
  refine stp M2 f 0 _ k2 h23 h24 (Nat.le_refl _) hf (fun N1 e1 => ?_)
  have k1 : kX X N1 := by rw [e1]; exact k2.mu
  have o1 : ∀ k, k ≠ 4 → N1 24 k = X 24 k := fun k hk => by rw [e1, mu_at, if_neg (by omega)]; exact o2 k hk
  have v1 : N1 24 4 = nI (b f - 48) := by rw [e1, mu_at, if_pos ⟨rfl, rfl⟩]; congr 1; omega
  by_cases z1 : e - f = 1
  · rw [show f + 1 = e by omega]
    refine fin N1 _ (by rw [o1 3 (by omega), h3]) (q.1 z N1 k1 o1 ?_)
    rw [if_pos z1]
    exact v1
  · refine stp N1 (f + 1) (b f - 48) _ k1 (by rw [o1 3 (by omega), h3]) v1 (by omega) (by omega) (fun N3 e3 => ?_)
    have k3 : kX X N3 := by rw [e3]; exact k1.mu
    have o3 : ∀ k, k ≠ 4 → N3 24 k = X 24 k := fun k hk => by rw [e3, mu_at, if_neg (by omega)]; exact o1 k hk
    rw [show f + 1 + 1 = e by omega]
    refine fin N3 _ (by rw [o3 3 (by omega), h3]) (q.1 z N3 k3 o3 ?_)
    rw [if_neg z1, e3, mu_at, if_pos ⟨rfl, rfl⟩]
theorem rb_all {b : Nat → Nat} {n lo hi : Nat} : ∀ r p, r + p = n → ∀ j, p ≤ j → j < rb b n lo hi p → lo ≤ b j ∧ b j ≤ hi := by
  intro r
  induction r with
  | zero =>
    intro p hp j h1 h2
    rw [rb_no (by omega)] at h2
    omega
  | succ r ih =>
    intro p hp j h1 h2
    by_cases z : p < n ∧ lo ≤ b p ∧ b p ≤ hi
    · by_cases y : j = p
      · subst y
        exact z.2
      · rw [rb_go z] at h2
        exact ih (p + 1) (by omega) j (by omega) h2
    · rw [rb_no z] at h2
      omega
theorem w_tok {X : Mem} {n p : Nat} {b : Nat → Nat} {Q : Int32 → Mem → Prop} (t : TC X n b) (hp : p ≤ n) (h3 : X 24 3 = nI p) (q : (¬ tBad b n p → ∀ X', kX X X' → X' 24 1 = nI (tS b n p) → X' 24 2 = nI (tF b n p) → X' 24 3 = nI (tB b n p) → X' 24 4 = (if tS b n p = 2 then nI (tV b n p) else X 24 4) → (∀ k, k = 5 ∨ k = 6 ∨ k = 7 → X' 24 k = X 24 k) → Q 1 X') ∧ (tBad b n p → ∀ X', kX X X' → X' 24 6 = 1 → X' 24 7 = nI (tF b n p) → Q 0 X')) : w_X5_readToken X Q := by
  have hn := t.1
  obtain ⟨f1, f2⟩ := tF_le (b := b) hp
  obtain ⟨g1, g2, g3⟩ := tB_le (b := b) hp
  unfold w_X5_readToken
  rw [h3]
  refine w_behind (lo := 32) (hi := 32) t hp (by omega) (by omega) ?_
  intro M2 e2
  have k2 : kX X M2 := by rw [e2]; exact kX.rf.mu
  have h2 : M2 24 2 = nI (tF b n p) := by rw [e2, mu_at, if_pos ⟨rfl, rfl⟩]; rfl
  have o2 : ∀ k, k ≠ 2 → M2 24 k = X 24 k := fun k hk => by rw [e2, mu_at, if_neg (by omega)]
  have t2 := k2.tc t
  rw [h2, t2.2.1]
  refine pk_lt (tF b n p) n (fun z => ?_) (fun z => ?_)
  · refine w_betw (lo := 97) (hi := 122) t2 (by omega) (by omega) (by omega) ⟨fun y => b1 ?_, fun y => b0 ?_⟩
    · have es : tS b n p = 1 := by unfold tS; rw [if_neg (by omega), if_pos (by omega)]
      have eb : tB b n p = rb b n 97 122 (tF b n p) := by unfold tB; rw [if_neg (by omega), if_pos (by omega)]
      refine w_behind (lo := 97) (hi := 122) t2 (by omega) (by omega) (by omega) ?_
      intro M25 e25 M26 e26
      refine q.1 (by unfold tBad; omega) M26 (by rw [e26, e25]; exact k2.mu.mu) ?_ ?_ ?_ ?_ (fun k hk => ?_)
      · rw [e26, mu_at, if_pos ⟨rfl, rfl⟩, es]; rfl
      · rw [e26, e25, mu_at, if_neg (by omega), mu_at, if_neg (by omega), h2]
      · rw [e26, e25, mu_at, if_neg (by omega), mu_at, if_pos ⟨rfl, rfl⟩, eb]
      · rw [e26, e25, mu_at, if_neg (by omega), mu_at, if_neg (by omega), o2 4 (by omega), if_neg (by omega)]
      · rw [e26, e25, mu_at, if_neg (by omega), mu_at, if_neg (by omega), o2 k (by omega)]
    · refine w_betw (lo := 48) (hi := 57) t2 (by omega) (by omega) (by omega) ⟨fun x => b1 ?_, fun x => b0 ?_⟩
      · have es : tS b n p = 2 := by unfold tS; rw [if_neg (by omega), if_neg (by omega), if_pos (by omega)]
        have eb : tB b n p = rb b n 48 57 (tF b n p) := by unfold tB; rw [if_neg (by omega), if_neg (by omega), if_pos (by omega)]
        refine w_behind (lo := 48) (hi := 57) t2 (by omega) (by omega) (by omega) ?_
        intro M16 e16 M17 e17
        rw [← eb] at e16
        have k17 : kX X M17 := by rw [e17, e16]; exact k2.mu.mu
        have a1 : M17 24 1 = nI 2 := by rw [e17, mu_at, if_pos ⟨rfl, rfl⟩]; rfl
        have a2 : M17 24 2 = nI (tF b n p) := by rw [e17, e16, mu_at, if_neg (by omega), mu_at, if_neg (by omega), h2]
        have a3 : M17 24 3 = nI (tB b n p) := by rw [e17, e16, mu_at, if_neg (by omega), mu_at, if_pos ⟨rfl, rfl⟩]
        have a4 : ∀ k, 4 ≤ k → M17 24 k = X 24 k := fun k hk => by rw [e17, e16, mu_at, if_neg (by omega), mu_at, if_neg (by omega), o2 k (by omega)]
        refine w_fig (k17.tc t) (g3 (by omega)) g2 a2 a3 (fun j h1 h2 => rb_all (n := n) (n - tF b n p) (tF b n p) (by omega) j h1 (by rw [← eb]; exact h2)) ⟨fun hl X' kx ox vx => b1 ?_, fun hl => b0 ?_⟩
        · refine q.1 (by unfold tBad; omega) X' (k17.tr kx) (by rw [ox 1 (by omega), a1, es]) (by rw [ox 2 (by omega), a2]) (by rw [ox 3 (by omega), a3]) ?_ (fun k hk => by rw [ox k (by omega), a4 k (by omega)])
          rw [if_pos es, vx]
          rfl
        · intro M1 e1 M3 e3
          refine b0 (q.2 (Or.inl ⟨es, hl⟩) M3 (by rw [e3, e1]; exact k17.mu.mu) ?_ ?_)
          · rw [e3, e1, mu_at, if_neg (by omega), mu_at, if_pos ⟨rfl, rfl⟩]
          · rw [e3, mu_at, if_pos ⟨rfl, rfl⟩, e1, mu_at, if_neg (by omega), a2]
      · have es : tS b n p = 3 := by unfold tS; rw [if_neg (by omega), if_neg (by omega), if_neg (by omega)]
        have eb : tB b n p = tF b n p + 1 := by unfold tB; rw [if_neg (by omega), if_neg (by omega), if_neg (by omega)]
        intro M8 e8 M9 e9
        rw [nI_1, ← eb] at e8
        have k9 : kX X M9 := by rw [e9, e8]; exact k2.mu.mu
        have a1 : M9 24 1 = nI 3 := by rw [e9, mu_at, if_pos ⟨rfl, rfl⟩]; rfl
        have a2 : M9 24 2 = nI (tF b n p) := by rw [e9, e8, mu_at, if_neg (by omega), mu_at, if_neg (by omega), h2]
        have a3 : M9 24 3 = nI (tB b n p) := by rw [e9, e8, mu_at, if_neg (by omega), mu_at, if_pos ⟨rfl, rfl⟩]
        have a4 : ∀ k, 4 ≤ k → M9 24 k = X 24 k := fun k hk => by rw [e9, e8, mu_at, if_neg (by omega), mu_at, if_neg (by omega), o2 k (by omega)]
        rw [a2]
        refine w_betw (lo := 59) (hi := 59) (k9.tc t) (by omega) (by omega) (by omega) ⟨fun v => b1 ?_, fun v => b0 ?_⟩
        · exact q.1 (by unfold tBad; omega) M9 k9 (by rw [a1, es]) a2 a3 (by rw [a4 4 (by omega), if_neg (by omega)]) (fun k hk => a4 k (by omega))
        · intro M1 e1 M3 e3
          refine b0 (q.2 (Or.inr ⟨es, by omega⟩) M3 (by rw [e3, e1]; exact k9.mu.mu) ?_ ?_)
          · rw [e3, e1, mu_at, if_neg (by omega), mu_at, if_pos ⟨rfl, rfl⟩]
          · rw [e3, mu_at, if_pos ⟨rfl, rfl⟩, e1, mu_at, if_neg (by omega), a2]
  · have en : tF b n p = n := by omega
    have es : tS b n p = 0 := by unfold tS; rw [if_pos (by omega)]
    have eb : tB b n p = n := by unfold tB; rw [if_pos (by omega)]
    intro M27 e27 M28 e28 M29 e29
    have c27 : M27 24 2 = nI n := by rw [e27, mu_at, if_pos ⟨rfl, rfl⟩]
    rw [c27] at e28
    refine q.1 (by unfold tBad; omega) M29 (by rw [e29, e28, e27]; exact k2.mu.mu.mu) ?_ ?_ ?_ ?_ (fun k hk => ?_)
    · rw [e29, mu_at, if_pos ⟨rfl, rfl⟩, es]; rfl
    · rw [e29, e28, mu_at, if_neg (by omega), mu_at, if_neg (by omega), c27, en]
    · rw [e29, e28, mu_at, if_neg (by omega), mu_at, if_pos ⟨rfl, rfl⟩, eb]
    · rw [e29, e28, e27, mu_at, if_neg (by omega), mu_at, if_neg (by omega), mu_at, if_neg (by omega), o2 4 (by omega), if_neg (by omega)]
    · rw [e29, e28, e27, mu_at, if_neg (by omega), mu_at, if_neg (by omega), mu_at, if_neg (by omega), o2 k (by omega)]
