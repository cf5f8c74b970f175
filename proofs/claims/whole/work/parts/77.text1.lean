/-! the reference's token -/
def TD (M : Mem) (n : Nat) (b : Nat → Nat) : Prop := n ≤ 160 ∧ M 0 6 = nI n ∧ ∀ j, j < n → b j ≤ 127 ∧ M 3 j = nI (b j)
def zM (M M' : Mem) : Prop := (∀ a, a ≠ 0 → M' a = M a) ∧ (∀ k, k < 8 ∨ 14 ≤ k → M' 0 k = M 0 k)
theorem zM.rf {M : Mem} : zM M M := ⟨fun _ _ => rfl, fun _ _ => rfl⟩
theorem zM.tr {M N K : Mem} (h : zM M N) (h2 : zM N K) : zM M K := ⟨fun a ha => (h2.1 a ha).trans (h.1 a ha), fun k hk => (h2.2 k hk).trans (h.2 k hk)⟩
theorem zM.mu {M N : Mem} {k : Nat} {v : Int32} (h : zM M N) (h1 : 8 ≤ k) (h2 : k < 14) : zM M (mu N 0 k v) := ⟨fun a ha => (mu_c ha).trans (h.1 a ha), fun j hj => by rw [mu_at, if_neg (by omega)]; exact h.2 j hj⟩
theorem zM.td {M N : Mem} {n : Nat} {b : Nat → Nat} (h : zM M N) (t : TD M n b) : TD N n b := by
  unfold TD
  rw [h.2 6 (by omega), h.1 3 (by omega)]
  exact t
theorem m_byte {M : Mem} {n p : Nat} {b : Nat → Nat} {Q : Int32 → Prop} (t : TD M n b) (hp : p < 1000) (q : (n ≤ p → Q (-4)) ∧ (p < n → Q (nI (b p)))) : w_X8_byteAt (nI p) M Q := by
  obtain ⟨hn, t1, t2⟩ := t
  unfold w_X8_byteAt
  rw [t1]
  refine pk_le n p (fun z => q.1 z) (fun z => ?_)
  rw [nI_clamp (by omega), (t2 p z).2]
  exact ⟨vp_in_nI (by omega) (by omega), q.2 z⟩
theorem n4n {n : Nat} : ∀ m, 0 ≤ m → m ≤ 1000 → (-4 : Int32) ≠ nI m := fun m _ h e => nI_nm4 (n := m) (by omega) e.symm
/-- a byte in a range, or none -/
theorem m_rng {M : Mem} {v lo hi : Nat} {y z : Int64} {Q : Int32 → Prop} (hv : v < 1000) (hl : lo < 1000) (hh : hi < 1000) (q : ((lo ≤ v ∧ v ≤ hi) → Q 1) ∧ (¬ (lo ≤ v ∧ v ≤ hi) → Q 0)) (hy : (nI lo).toInt64 = y := by rfl) (hz : (nI hi).toInt64 = z := by rfl) : w_X8_in (nI v).toInt64 y z M Q := by
  by_cases h : lo ≤ v ∧ v ≤ hi
  · exact m_in1 h.1 h.2 (by omega) (q.1 h) hy hz
  · exact m_in0 (fun m h1 h2 e => h (by have := (nI_eq (by omega) (by omega)).mp e; omega)) (by omega) (by omega) (q.2 h) hy hz
theorem m_rng4 {M : Mem} {lo hi : Nat} {y z : Int64} {Q : Int32 → Prop} (hl : lo < 1000) (hh : hi < 1000) (q : Q 0) (hy : (nI lo).toInt64 = y := by rfl) (hz : (nI hi).toInt64 = z := by rfl) : w_X8_in (-4 : Int32).toInt64 y z M Q :=
  m_in0 (fun m _ h2 => n4n (n := 0) m (by omega) (by omega)) (by omega) (by omega) q hy hz
/-- the token's number as the reference counts it: of its first two figures -/
def v2 (b : Nat → Nat) (f e : Nat) : Nat := if e - f = 0 then 0 else if e - f = 1 then b f - 48 else 10 * (b f - 48) + (b (f + 1) - 48)
/-- what a step leaves -/
def stp (M M' : Mem) (b : Nat → Nat) (n p : Nat) : Prop := zM M M' ∧ M' 0 10 = nI (tB b n p) ∧ M' 0 11 = nI (tF b n p) ∧ M' 0 12 = nI (tS b n p) ∧ (tS b n p = 2 → M' 0 13 = nI (v2 b (tF b n p) (tB b n p))) ∧ (tBad b n p → M' 0 8 = 1 ∧ M' 0 9 = nI (tF b n p)) ∧ (¬ tBad b n p → M' 0 8 = 0 ∧ M' 0 9 = M 0 9)
theorem m_tok {M : Mem} {n p : Nat} {b : Nat → Nat} {Q : Mem → Prop} (t : TD M n b) (hp : p ≤ n) (h8 : M 0 8 = 0) (h10 : M 0 10 = nI p) (q : ∀ M', stp M M' b n p → Q M') : w_X8_step M Q := by
  have hn := t.1
  obtain ⟨f1, f2⟩ := tF_le (b := b) hp
  obtain ⟨g1, g2, g3⟩ := tB_le (b := b) hp
  unfold w_X8_step
  rw [h8]
  refine ⟨fun _ => ?_, fun z => absurd (Int32.le_refl 0) z⟩
  have at34 : ∀ N, zM M N → N 0 8 = 0 → N 0 9 = M 0 9 → N 0 10 = nI (tF b n p) → w_X8_step_34 N Q := by
    intro N zN n8 n9 n10
    intro M4 e4
    rw [n10] at e4
    have z4 : zM M M4 := by rw [e4]; exact zN.mu (by omega) (by omega)
    have o4 : ∀ k, k ≠ 11 → M4 0 k = N 0 k := fun k hk => by rw [e4, mu_at, if_neg (by omega)]
    have a11 : M4 0 11 = nI (tF b n p) := by rw [e4, mu_at, if_pos ⟨rfl, rfl⟩]
    rw [o4 10 (by omega), n10]
    refine m_byte (z4.td t) (by omega) ⟨fun z => ?_, fun z => ?_⟩
    · intro M6 e6
      refine ⟨fun _ => ?_, fun y => absurd rfl y⟩
      intro M33 e33
      have en : tF b n p = n := by omega
      have es : tS b n p = 0 := by unfold tS; rw [if_pos (by omega)]
      have eb : tB b n p = n := by unfold tB; rw [if_pos (by omega)]
      refine q M33 ⟨by rw [e33, e6]; exact (z4.mu (by omega) (by omega)).mu (by omega) (by omega), ?_, ?_, ?_, fun y => by omega, fun y => by unfold tBad at y; omega, fun _ => ⟨?_, ?_⟩⟩
      · rw [e33, e6, mu_at, if_neg (by omega), mu_at, if_neg (by omega), o4 10 (by omega), n10, en, eb]
      · rw [e33, e6, mu_at, if_neg (by omega), mu_at, if_neg (by omega), a11]
      · rw [e33, mu_at, if_pos ⟨rfl, rfl⟩, es]; rfl
      · rw [e33, e6, mu_at, if_neg (by omega), mu_at, if_neg (by omega), o4 8 (by omega), n8]
      · rw [e33, e6, mu_at, if_neg (by omega), mu_at, if_neg (by omega), o4 9 (by omega), n9]
    · intro M6 e6
      have bd := (t.2.2 _ z).1
      have z6 : zM M M6 := by rw [e6]; exact z4.mu (by omega) (by omega)
      have o6 : ∀ k, k ≠ 11 → k ≠ 13 → M6 0 k = N 0 k := fun k hk h2 => by rw [e6, mu_at, if_neg (by omega)]; exact o4 k hk
      have b11 : M6 0 11 = nI (tF b n p) := by rw [e6, mu_at, if_neg (by omega), a11]
      have b13 : M6 0 13 = nI 0 := by rw [e6, mu_at, if_pos ⟨rfl, rfl⟩]; rfl
      have b10 : M6 0 10 = nI (tF b n p) := by rw [o6 10 (by omega) (by omega), n10]
      have b8 : M6 0 8 = 0 := by rw [o6 8 (by omega) (by omega), n8]
      have b9 : M6 0 9 = M 0 9 := by rw [o6 9 (by omega) (by omega), n9]
      refine ⟨fun y => absurd y (nI_nm4 (by omega)), fun _ => ?_⟩
      refine m_rng (lo := 97) (hi := 122) (by omega) (by omega) (by omega) ⟨fun y => b1 ?_, fun y => b0 ?_⟩
      · have es : tS b n p = 1 := by unfold tS; rw [if_neg (by omega), if_pos y]
        have eb : tB b n p = rb b n 97 122 (tF b n p) := by unfold tB; rw [if_neg (by omega), if_pos y]
        have main : ∀ r s K, r + s = n → zM M K → K 0 11 = nI (tF b n p) → K 0 8 = 0 → K 0 9 = M 0 9 → K 0 10 = nI s → rb b n 97 122 s = tB b n p → fu1 (w_X8_step_84 Q) (r + 1) K := by
          intro r
          induction r with
          | zero =>
            intro s K hs zK k11 k8 k9 k10 e
            show w_X8_step_84 _ _ _
            unfold w_X8_step_84
            rw [k10]
            refine m_byte (zK.td t) (by omega) ⟨fun _ => m_rng4 (lo := 97) (hi := 122) (by omega) (by omega) (b0 ?_), fun z => by omega⟩
            intro M31 e31
            rw [rb_no (by omega)] at e
            refine q M31 ⟨by rw [e31]; exact zK.mu (by omega) (by omega), ?_, ?_, ?_, fun y => by omega, fun y => by unfold tBad at y; omega, fun _ => ⟨?_, ?_⟩⟩
            · rw [e31, mu_at, if_neg (by omega), k10, e]
            · rw [e31, mu_at, if_neg (by omega), k11]
            · rw [e31, mu_at, if_pos ⟨rfl, rfl⟩, es]; rfl
            · rw [e31, mu_at, if_neg (by omega), k8]
            · rw [e31, mu_at, if_neg (by omega), k9]
          | succ r ih =>
            intro s K hs zK k11 k8 k9 k10 e
            show w_X8_step_84 Q (fu1 (w_X8_step_84 Q) (r + 1)) K
            generalize fu1 (w_X8_step_84 Q) (r + 1) = KK at ih ⊢
            have bs := (t.2.2 s (by omega)).1
            unfold w_X8_step_84
            rw [k10]
            refine m_byte (zK.td t) (by omega) ⟨fun z => by omega, fun _ => m_rng (lo := 97) (hi := 122) (by omega) (by omega) (by omega) ⟨fun v => b1 ?_, fun v => b0 ?_⟩⟩
            · intro M32 e32
              rw [nI_1] at e32
              have o : ∀ k, k ≠ 10 → M32 0 k = K 0 k := fun k hk => by rw [e32, mu_at, if_neg (by omega)]
              refine ih (s + 1) M32 (by omega) (by rw [e32]; exact zK.mu (by omega) (by omega)) (by rw [o 11 (by omega), k11]) (by rw [o 8 (by omega), k8]) (by rw [o 9 (by omega), k9]) (by rw [e32, mu_at, if_pos ⟨rfl, rfl⟩]) ?_
              rw [← rb_go (by omega)]
              exact e
            · intro M31 e31
              rw [rb_no (by omega)] at e
              refine q M31 ⟨by rw [e31]; exact zK.mu (by omega) (by omega), ?_, ?_, ?_, fun y => by omega, fun y => by unfold tBad at y; omega, fun _ => ⟨?_, ?_⟩⟩
              · rw [e31, mu_at, if_neg (by omega), k10, e]
              · rw [e31, mu_at, if_neg (by omega), k11]
              · rw [e31, mu_at, if_pos ⟨rfl, rfl⟩, es]; rfl
              · rw [e31, mu_at, if_neg (by omega), k8]
              · rw [e31, mu_at, if_neg (by omega), k9]
        exact ⟨_, main (n - tF b n p) (tF b n p) M6 (by omega) z6 b11 b8 b9 b10 eb.symm⟩
      · refine m_rng (lo := 48) (hi := 57) (by omega) (by omega) (by omega) ⟨fun x => b1 ?_, fun x => b0 ?_⟩
        · have es : tS b n p = 2 := by unfold tS; rw [if_neg (by omega), if_neg y, if_pos x]
          have eb : tB b n p = rb b n 48 57 (tF b n p) := by unfold tB; rw [if_neg (by omega), if_neg y, if_pos x]
          have out : ∀ s K, s = tB b n p → zM M K → K 0 11 = nI (tF b n p) → K 0 8 = 0 → K 0 9 = M 0 9 → K 0 10 = nI s → K 0 13 = nI (v2 b (tF b n p) s) → w_X8_step_217 K Q := by
            intro s K hs zK k11 k8 k9 k10 k13
            intro M20 e20
            have o : ∀ k, k ≠ 12 → M20 0 k = K 0 k := fun k hk => by rw [e20, mu_at, if_neg (by omega)]
            have z20 : zM M M20 := by rw [e20]; exact zK.mu (by omega) (by omega)
            have a12 : M20 0 12 = nI (tS b n p) := by rw [e20, mu_at, if_pos ⟨rfl, rfl⟩, es]; rfl
            rw [o 10 (by omega), o 11 (by omega), k10, k11, nIs (by omega)]
            refine pk_le (s - tF b n p) 2 (fun v => ?_) (fun v => ?_)
            · exact q M20 ⟨z20, by rw [o 10 (by omega), k10, hs], by rw [o 11 (by omega), k11], a12, fun _ => by rw [o 13 (by omega), k13, hs], fun w => by unfold tBad at w; omega, fun _ => ⟨by rw [o 8 (by omega), k8], by rw [o 9 (by omega), k9]⟩⟩
            · unfold w_X8_fails
              rw [o 8 (by omega), k8]
              refine b0 ?_
              intro M2 e2 M3 e3
              have m11 : M2 0 11 = nI (tF b n p) := by rw [e2, mu_at, if_neg (by omega), o 11 (by omega), k11]
              rw [m11] at e3
              have r : ∀ k, k ≠ 8 → k ≠ 9 → M3 0 k = M20 0 k := fun k h1 h2 => by rw [e3, e2, mu_at, if_neg (by omega), mu_at, if_neg (by omega)]
              refine q M3 ⟨by rw [e3, e2]; exact (z20.mu (by omega) (by omega)).mu (by omega) (by omega), by rw [r 10 (by omega) (by omega), o 10 (by omega), k10, hs], by rw [r 11 (by omega) (by omega), o 11 (by omega), k11], by rw [r 12 (by omega) (by omega), a12], fun _ => by rw [r 13 (by omega) (by omega), o 13 (by omega), k13, hs], fun _ => ⟨?_, ?_⟩, fun w => absurd (Or.inl ⟨es, by omega⟩) w⟩
              · rw [e3, e2, mu_at, if_neg (by omega), mu_at, if_pos ⟨rfl, rfl⟩]
              · rw [e3, mu_at, if_pos ⟨rfl, rfl⟩]
          have main : ∀ r s K, r + s = n → tF b n p ≤ s → (∀ j, tF b n p ≤ j → j < s → 48 ≤ b j ∧ b j ≤ 57) → zM M K → K 0 11 = nI (tF b n p) → K 0 8 = 0 → K 0 9 = M 0 9 → K 0 10 = nI s → K 0 13 = nI (v2 b (tF b n p) s) → rb b n 48 57 s = tB b n p → fu1 (w_X8_step_140 Q) (r + 1) K := by
            intro r
            induction r with
            | zero =>
              intro s K hs hfs hd zK k11 k8 k9 k10 k13 e
              show w_X8_step_140 _ _ _
              unfold w_X8_step_140
              rw [k10]
              rw [rb_no (by omega)] at e
              exact m_byte (zK.td t) (by omega) ⟨fun _ => m_rng4 (lo := 48) (hi := 57) (by omega) (by omega) (b0 (out s K e zK k11 k8 k9 k10 k13)), fun z => by omega⟩
            | succ r ih =>
              intro s K hs hfs hd zK k11 k8 k9 k10 k13 e
              show w_X8_step_140 Q (fu1 (w_X8_step_140 Q) (r + 1)) K
              generalize fu1 (w_X8_step_140 Q) (r + 1) = KK at ih ⊢
              have bs := (t.2.2 s (by omega)).1
              unfold w_X8_step_140
              rw [k10, k11, k13, nIs hfs]
              refine m_byte (zK.td t) (by omega) ⟨fun z => by omega, fun _ => m_rng (lo := 48) (hi := 57) (by omega) (by omega) (by omega) ⟨fun v => b1 ?_, fun v => b0 ?_⟩⟩
              · have nxt : ∀ V, V = nI (v2 b (tF b n p) (s + 1)) → w_X8_step_201 V K KK Q := by
                  intro V eV
                  intro M25 e25 M26 e26
                  rw [e25, mu_at, if_neg (by omega), k10, nI_1] at e26
                  have o : ∀ k, k ≠ 10 → k ≠ 13 → M26 0 k = K 0 k := fun k h1 h2 => by rw [e26, mu_at, if_neg (by omega), mu_at, if_neg (by omega)]
                  refine ih (s + 1) M26 (by omega) (by omega) (fun j h1 h2 => ?_) (by rw [e26]; exact (zK.mu (by omega) (by omega)).mu (by omega) (by omega)) (by rw [o 11 (by omega) (by omega), k11]) (by rw [o 8 (by omega) (by omega), k8]) (by rw [o 9 (by omega) (by omega), k9]) (by rw [e26, mu_at, if_pos ⟨rfl, rfl⟩]) (by rw [e26, mu_at, if_neg (by omega), mu_at, if_pos ⟨rfl, rfl⟩, eV]) ?_
                  · by_cases u : j = s
                    · subst u
                      exact v
                    · exact hd j h1 (by omega)
                  · rw [← rb_go (by omega)]
                    exact e
                refine pk_le 2 (s - tF b n p) (fun u => nxt _ ?_) (fun u => ?_)
                · unfold v2
                  rw [if_neg (by omega), if_neg (by omega), if_neg (by omega), if_neg (by omega)]
                · refine m_byte (zK.td t) (by omega) ⟨fun z => by omega, fun _ => nxt _ ?_⟩
                  rw [show (10 : Int32) * nI (v2 b (tF b n p) s) = nI (10 * v2 b (tF b n p) s) from nIm 10 _, nI_add, show nI (10 * v2 b (tF b n p) s + b s) - 48 = nI (10 * v2 b (tF b n p) s + b s - 48) from nIs (b := 48) (by omega)]
                  congr 1
                  unfold v2
                  by_cases u0 : s = tF b n p
                  · rw [u0, if_pos (by omega), if_neg (by omega), if_pos (by omega)]
                    omega
                  · have u1 : s = tF b n p + 1 := by omega
                    have := hd (tF b n p) (by omega) (by omega)
                    rw [u1, if_neg (by omega), if_pos (by omega), if_neg (by omega), if_neg (by omega)]
                    rw [u1] at v
                    omega
              · rw [rb_no (by omega)] at e
                exact out s K e zK k11 k8 k9 k10 k13
          refine ⟨_, main (n - tF b n p) (tF b n p) M6 (by omega) (by omega) (fun j h1 h2 => by omega) z6 b11 b8 b9 b10 ?_ eb.symm⟩
          rw [b13]
          unfold v2
          rw [if_pos (by omega)]
        · have es : tS b n p = 3 := by unfold tS; rw [if_neg (by omega), if_neg y, if_neg x]
          have eb : tB b n p = tF b n p + 1 := by unfold tB; rw [if_neg (by omega), if_neg y, if_neg x]
          intro M12 e12 M13 e13
          have c10 : M12 0 10 = nI (tF b n p) := by rw [e12, mu_at, if_neg (by omega), b10]
          rw [c10, nI_1] at e13
          have z13 : zM M M13 := by rw [e13, e12]; exact (z6.mu (by omega) (by omega)).mu (by omega) (by omega)
          have d10 : M13 0 10 = nI (tB b n p) := by rw [e13, mu_at, if_pos ⟨rfl, rfl⟩, eb]
          have d11 : M13 0 11 = nI (tF b n p) := by rw [e13, e12, mu_at, if_neg (by omega), mu_at, if_neg (by omega), b11]
          have d12 : M13 0 12 = nI (tS b n p) := by rw [e13, e12, mu_at, if_neg (by omega), mu_at, if_pos ⟨rfl, rfl⟩, es]; rfl
          have d8 : M13 0 8 = 0 := by rw [e13, e12, mu_at, if_neg (by omega), mu_at, if_neg (by omega), b8]
          have d9 : M13 0 9 = M 0 9 := by rw [e13, e12, mu_at, if_neg (by omega), mu_at, if_neg (by omega), b9]
          refine pk_eq (b (tF b n p)) 59 (fun v => ?_) (fun v => ?_)
          · exact q M13 ⟨z13, d10, d11, d12, fun y => by omega, fun y => by unfold tBad at y; omega, fun _ => ⟨d8, d9⟩⟩
          · unfold w_X8_fails
            rw [d8]
            refine b0 ?_
            intro M2 e2 M3 e3
            have m11 : M2 0 11 = nI (tF b n p) := by rw [e2, mu_at, if_neg (by omega), d11]
            rw [m11] at e3
            refine q M3 ⟨by rw [e3, e2]; exact (z13.mu (by omega) (by omega)).mu (by omega) (by omega), ?_, ?_, ?_, fun y => by omega, fun _ => ⟨?_, ?_⟩, fun y => absurd (Or.inr ⟨es, v⟩) y⟩
            · rw [e3, e2, mu_at, if_neg (by omega), mu_at, if_neg (by omega), d10]
            · rw [e3, e2, mu_at, if_neg (by omega), mu_at, if_neg (by omega), d11]
            · rw [e3, e2, mu_at, if_neg (by omega), mu_at, if_neg (by omega), d12]
            · rw [e3, e2, mu_at, if_neg (by omega), mu_at, if_pos ⟨rfl, rfl⟩]
            · rw [e3, mu_at, if_pos ⟨rfl, rfl⟩]
  have main : ∀ r s K, r + s = n → zM M K → K 0 8 = 0 → K 0 9 = M 0 9 → K 0 10 = nI s → rb b n 32 32 s = tF b n p → fu1 (w_X8_step_8 Q) (r + 1) K := by
    intro r
    induction r with
    | zero =>
      intro s K hs zK k8 k9 k10 e
      show w_X8_step_8 _ _ _
      unfold w_X8_step_8
      rw [k10]
      rw [rb_no (by omega)] at e
      refine m_byte (zK.td t) (by omega) ⟨fun _ => ⟨fun z => absurd z (by decide), fun _ => at34 K zK k8 k9 (by rw [k10, e])⟩, fun z => by omega⟩
    | succ r ih =>
      intro s K hs zK k8 k9 k10 e
      show w_X8_step_8 Q (fu1 (w_X8_step_8 Q) (r + 1)) K
      generalize fu1 (w_X8_step_8 Q) (r + 1) = KK at ih ⊢
      have bs := (t.2.2 s (by omega)).1
      unfold w_X8_step_8
      rw [k10]
      refine m_byte (zK.td t) (by omega) ⟨fun z => by omega, fun _ => pk_eq (b s) 32 (fun v => ?_) (fun v => ?_)⟩
      · intro M34 e34
        rw [nI_1] at e34
        have o : ∀ k, k ≠ 10 → M34 0 k = K 0 k := fun k hk => by rw [e34, mu_at, if_neg (by omega)]
        refine ih (s + 1) M34 (by omega) (by rw [e34]; exact zK.mu (by omega) (by omega)) (by rw [o 8 (by omega), k8]) (by rw [o 9 (by omega), k9]) (by rw [e34, mu_at, if_pos ⟨rfl, rfl⟩]) ?_
        rw [← rb_go (by omega)]
        exact e
      · rw [rb_no (by omega)] at e
        exact at34 K zK k8 k9 (by rw [k10, e])
  exact ⟨_, main (n - p) p M (by omega) zM.rf h8 rfl h10 rfl⟩
