/-! the reference's night -/
theorem ix6 (p t : Nat) : (nI p + 6) + nI t = nI (p + (6 + t)) := by rw [show (6 : Int32) = nI 6 from rfl, nI_add, nI_add, Nat.add_assoc]
theorem ix12 (p t : Nat) : (nI p + 12) + nI t = nI (p + (12 + t)) := by rw [show (12 : Int32) = nI 12 from rfl, nI_add, nI_add, Nat.add_assoc]
theorem ix17 (p t : Nat) : (nI p + 17) + nI t = nI (p + (17 + t)) := by rw [show (17 : Int32) = nI 17 from rfl, nI_add, nI_add, Nat.add_assoc]
theorem ix22 (p t : Nat) : (nI p + 22) + nI t = nI (p + (22 + t)) := by rw [show (22 : Int32) = nI 22 from rfl, nI_add, nI_add, Nat.add_assoc]
theorem ix27 (p t : Nat) : (nI p + 27) + nI t = nI (p + (27 + t)) := by rw [show (27 : Int32) = nI 27 from rfl, nI_add, nI_add, Nat.add_assoc]
theorem ix32 (p t : Nat) : (nI p + 32) + nI t = nI (p + (32 + t)) := by rw [show (32 : Int32) = nI 32 from rfl, nI_add, nI_add, Nat.add_assoc]
theorem ix35 (p t : Nat) : (nI p + 35) + nI t = nI (p + (35 + t)) := by rw [show (35 : Int32) = nI 35 from rfl, nI_add, nI_add, Nat.add_assoc]
theorem ix38 (p t : Nat) : (nI p + 38) + nI t = nI (p + (38 + t)) := by rw [show (38 : Int32) = nI 38 from rfl, nI_add, nI_add, Nat.add_assoc]
theorem jx41 (p : Nat) : nI p + 41 = nI (p + 41) := nI_add p 41
theorem jx42 (p : Nat) : nI p + 42 = nI (p + 42) := nI_add p 42
theorem jx43 (p : Nat) : nI p + 43 = nI (p + 43) := nI_add p 43
theorem sub0 (a : Int32) : a - nI 0 = a := Int32.sub_zero a
theorem PM.lg {M : Mem} {p : Nat} {E : Es} (h : PM M p E) {g : Nat} (hg : g < 6) : M 1 (p + g) = nI (E g) - nI 30 := by
  have := h g (by omega) (okl (by omega))
  rw [show off g = nI 30 from if_pos hg] at this
  exact this
theorem PM.gr {M : Mem} {p : Nat} {E : Es} (h : PM M p E) {g : Nat} (hg : g < 6) : M 1 (p + (6 + g)) = nI (E (6 + g)) - nI 2 := by
  have := h (6 + g) (by omega) (okl (by omega))
  rw [show off (6 + g) = nI 2 from by unfold off; rw [if_neg (by omega), if_pos (by omega)]] at this
  exact this
theorem off0 {i : Nat} (h : 12 ≤ i) : off i = nI 0 := by unfold off; rw [if_neg (by omega), if_neg (by omega)]
theorem PM.pl {M : Mem} {p : Nat} {E : Es} (h : PM M p E) {i : Nat} (hi : i < 44) (h12 : 12 ≤ i) (hok : ok (E 44) (E 41) i) : M 1 (p + i) = nI (E i) := by
  have := h i hi hok
  rw [off0 h12, sub0] at this
  exact this
theorem PM.kp {M : Mem} {p : Nat} {E : Es} (h : PM M p E) : M 1 (p + 41) = nI (E 41) := h.pl (by omega) (by omega) (oks (by omega) (by omega))
theorem PM.ni {M : Mem} {p : Nat} {E : Es} (h : PM M p E) : M 1 (p + 42) = nI (E 42) := h.pl (by omega) (by omega) (oks (by omega) (by omega))
theorem PM.ca {M : Mem} {p : Nat} {E : Es} (h : PM M p E) : M 1 (p + 43) = nI (E 43) := h.pl (by omega) (by omega) (oks (by omega) (by omega))
theorem PM.tr {M : Mem} {p : Nat} {E : Es} (h : PM M p E) (w : WF E) {t : Nat} (ht : t < E 44) : M 1 (p + (12 + t)) = nI (E (12 + t)) ∧ M 1 (p + (17 + t)) = nI (E (17 + t)) ∧ M 1 (p + (22 + t)) = nI (E (22 + t)) ∧ M 1 (p + (27 + t)) = nI (E (27 + t)) := by
  have h5 := w.2.2.2.2.1
  exact ⟨h.pl (by omega) (by omega) (okt (Or.inl rfl) ht h5), h.pl (by omega) (by omega) (okt (Or.inr (Or.inl rfl)) ht h5), h.pl (by omega) (by omega) (okt (Or.inr (Or.inr (Or.inl rfl))) ht h5), h.pl (by omega) (by omega) (okt (Or.inr (Or.inr (Or.inr rfl))) ht h5)⟩
theorem PM.kr {M : Mem} {p : Nat} {E : Es} (h : PM M p E) (w : WF E) {k : Nat} (hk : k < E 41) : M 1 (p + (32 + k)) = nI (E (32 + k)) ∧ M 1 (p + (35 + k)) = nI (E (35 + k)) ∧ M 1 (p + (38 + k)) = nI (E (38 + k)) := by
  have h3 := w.2.2.2.1
  exact ⟨h.pl (by omega) (by omega) (okk (Or.inl rfl) hk h3), h.pl (by omega) (by omega) (okk (Or.inr (Or.inl rfl)) hk h3), h.pl (by omega) (by omega) (okk (Or.inr (Or.inr rfl)) hk h3)⟩
theorem PM.set0 {M : Mem} {p : Nat} {E : Es} (h : PM M p E) {i n : Nat} (hi : i < 44) (h12 : 12 ≤ i) (h41 : i ≠ 41) : PM (mu M 1 (p + i) (nI n)) p (up E i n) := by
  have := h.set (n := n) hi h41
  rw [off0 h12, sub0] at this
  exact this
theorem PM.setL {M : Mem} {p : Nat} {E : Es} (h : PM M p E) {i n : Nat} (hi : i < 6) : PM (mu M 1 (p + i) (nI n - nI 30)) p (up E i n) := by
  have := h.set (n := n) (i := i) (by omega) (by omega)
  rw [show off i = nI 30 from if_pos hi] at this
  exact this
theorem mtakes : ∀ k, k < 4 → (if nI k = 3 then (12 : Int32) else (if nI k = 2 then (3 : Int32) else 6)) = nI (takesN k) := by decide +kernel
theorem mnoise : ∀ k, k < 4 → (if nI k = 0 then (3 : Int32) else (if nI k = 1 then (1 : Int32) else 5)) = nI (noiseN k) := by decide +kernel
theorem m_takes {M : Mem} {p t : Nat} {E : Es} {Q : Int32 → Prop} (h : PM M p E) (w : WF E) (hp : p + 44 ≤ 264) (ht : t < E 44) (hq : Q (nI (takesN (E (12 + t))))) : w_X8_takesOn (nI p) (nI t) M Q := by
  have h5 := w.2.2.2.2.1
  have hk := (w.2.1 t ht).1
  unfold w_X8_takesOn
  rw [ix12, nI_clamp (by omega), (h.tr w ht).1, mtakes _ hk]
  exact ⟨vp_in_nI (by omega) (by omega), hq⟩
theorem m_noise {M : Mem} {p t : Nat} {E : Es} {Q : Int32 → Prop} (h : PM M p E) (w : WF E) (hp : p + 44 ≤ 264) (ht : t < E 44) (hq : Q (nI (noiseN (E (12 + t))))) : w_X8_noiseOn (nI p) (nI t) M Q := by
  have h5 := w.2.2.2.2.1
  have hk := (w.2.1 t ht).1
  unfold w_X8_noiseOn
  rw [ix12, nI_clamp (by omega), (h.tr w ht).1, mnoise _ hk]
  exact ⟨vp_in_nI (by omega) (by omega), hq⟩
theorem m_at {M : Mem} {p k : Nat} {E : Es} {Q : Int32 → Prop} (h : PM M p E) (w : WF E) (hp : p + 44 ≤ 264) (hk : k < E 41) (hq : Q (nI (atN E k))) : w_X8_atOn (nI p) (nI k) M Q := by
  have h3 := w.2.2.2.1
  unfold w_X8_atOn
  rw [ix32, ix35, jx42, nI_clamp (by omega), nI_clamp (by omega), nI_clamp (by omega), (h.kr w hk).1, (h.kr w hk).2.1, h.ni, pk_mul, nI_add, irm6 (at_bd w hk)]
  exact ⟨vp_in_nI (by omega) (by omega), vp_in_nI (by omega) (by omega), vp_in_nI (by omega) (by omega), hq⟩
theorem m_heard {M : Mem} {p t : Nat} {E : Es} {Q : Int32 → Prop} (h : PM M p E) (w : WF E) (hp : p + 44 ≤ 264) (ht : t < E 44) (hq : Q (if hears E t = true then 1 else 0)) : w_X8_isHeardOn (nI p) (nI t) M Q := by
  have h5 := w.2.2.2.2.1
  have h3 := w.2.2.2.1
  have h2 := w.2.1 t ht
  have etr := h.tr w ht
  have loop : ∀ (n k : Nat), k ≤ E 41 → E 41 - k < n → fu2 (w_X8_isHeardOn_5 (nI p) (nI t) M Q) n (if hearsB E t k = true then 1 else 0) (nI k) := by
    intro n
    induction n with
    | zero => intro k hk hn; omega
    | succ n ih =>
      intro k hk hn
      show w_X8_isHeardOn_5 (nI p) (nI t) M Q (fu2 (w_X8_isHeardOn_5 (nI p) (nI t) M Q) n) _ (nI k)
      generalize fu2 (w_X8_isHeardOn_5 (nI p) (nI t) M Q) n = K at ih ⊢
      unfold w_X8_isHeardOn_5
      rw [jx41, nI_clamp (by omega), h.kp]
      refine ⟨vp_in_nI (by omega) (by omega), pk_le (E 41) k (fun hle => ?_) (fun hlt => ?_)⟩
      · have e : k = E 41 := by omega
        rw [e]
        refine ⟨?_, hq⟩
        split <;> rfl
      · have nx : ∀ b : Bool, hearsB E t (k + 1) = b → K (if b = true then 1 else 0) (nI k + 1) := by
          intro b hb
          have := ih (k + 1) (by omega) (by omega)
          rw [hb] at this
          rw [nI_1]
          exact this
        refine ⟨fun c0 => ?_, fun c0 => ?_⟩
        · have hf : hearsB E t k = false := by
            by_cases q : hearsB E t k = true
            · rw [if_pos q] at c0
              exact absurd c0 (by decide)
            · exact Bool.eq_false_iff.mpr q
          refine m_at h w hp hlt ?_
          rw [ix17, nI_clamp (by omega), etr.2.1]
          have hat : atN E k < 6 := Nat.mod_lt _ (by omega)
          refine ⟨vp_in_nI (by omega) (by omega), pk_eq (atN E k) (E (17 + t)) (fun e1 => ?_) (fun e1 => ?_)⟩
          · refine m_noise h w hp ht ?_
            have hn5 := noise_le (E (12 + t))
            have he := w.2.2.1 k hlt
            rw [ix38, nI_clamp (by omega), (h.kr w hlt).2.2]
            refine ⟨vp_in_nI (by omega) (by omega), pk_lt (noiseN (E (12 + t))) (E (38 + k)) (fun e2 => ?_) (fun e2 => ?_)⟩
            · exact nx false (by simp [hearsB, hf]; intro _; omega)
            · exact nx true (by simp [hearsB, e1, e2])
          · exact nx false (by simp [hearsB, hf, e1])
        · have ht : hearsB E t k = true := by
            by_cases q : hearsB E t k = true
            · exact q
            · rw [if_neg q] at c0
              exact absurd rfl c0
          exact nx true (by simp [hearsB, ht])
  exact ⟨E 41 + 1, loop (E 41 + 1) 0 (by omega) (by omega)⟩
/-- what stays: other pages, other fields, other arrays -/
def frM (p : Nat) (M M' : Mem) : Prop := (∀ a, a ≠ 0 → a ≠ 1 → M' a = M a) ∧ (∀ j, j < p ∨ p + 44 ≤ j → M' 1 j = M 1 j) ∧ (∀ k, k ≠ 16 → k ≠ 17 → k ≠ 18 → M' 0 k = M 0 k)
theorem frM.rf {p : Nat} {M : Mem} : frM p M M := ⟨fun _ _ _ => rfl, fun _ _ => rfl, fun _ _ _ _ => rfl⟩
theorem frM.tr {p : Nat} {M N K : Mem} (h : frM p M N) (h2 : frM p N K) : frM p M K := ⟨fun a h0 h1 => (h2.1 a h0 h1).trans (h.1 a h0 h1), fun j hj => (h2.2.1 j hj).trans (h.2.1 j hj), fun k a b c => (h2.2.2 k a b c).trans (h.2.2 k a b c)⟩
theorem frM.pg {p : Nat} {M N : Mem} (h : frM p M N) {i : Nat} {v : Int32} (hi : i < 44) : frM p M (mu N 1 (p + i) v) :=
  ⟨fun a h0 h1 => (mu_c h1).trans (h.1 a h0 h1), fun j hj => by rw [mu_at, if_neg (by omega)]; exact h.2.1 j hj, fun k a b c => by rw [mu_c (by omega)]; exact h.2.2 k a b c⟩
theorem frM.ct {p : Nat} {M N : Mem} (h : frM p M N) {i : Nat} {v : Int32} (hi : i = 16 ∨ i = 17 ∨ i = 18) : frM p M (mu N 0 i v) :=
  ⟨fun a h0 h1 => (mu_c h0).trans (h.1 a h0 h1), fun j hj => by rw [mu_c (by omega)]; exact h.2.1 j hj, fun k a b c => by rw [mu_at, if_neg (by omega)]; exact h.2.2 k a b c⟩
theorem ite_minL {a b : Nat} (ha : a < 2 ^ 31) (hb : b < 2 ^ 31) : (if nI a ≤ nI b then nI a else nI b) = nI (min b a) := by
  by_cases h : a ≤ b
  · rw [if_pos ((nI_leI ha hb).mpr h), Nat.min_eq_right h]
  · rw [if_neg (fun q => h ((nI_leI ha hb).mp q)), Nat.min_eq_left (by omega)]
theorem m_168 {M : Mem} {p t v : Nat} {E : Es} {Q : Mem → Prop} (h : PM M p E) (w : WF E) (hp : p + 44 ≤ 264) (ht : t < E 44) (hv : v ≤ E (E (17 + t))) (hq : ∀ M', PM M' p (up (up E (E (17 + t)) (E (E (17 + t)) - v)) (22 + t) (min 999 (E (22 + t) + v))) → frM p M M' → M' 0 16 = M 0 16 + nI v → M' 0 17 = M 0 17 → M' 0 18 = M 0 18 → Q M') : w_X8_goesIn_168 (nI p) (nI t) (nI (p + E (17 + t))) (nI v) M Q := by
  have h5 := w.2.2.2.2.1
  have h2 := w.2.1 t ht
  have hl := w.1 (E (17 + t)) h2.2.1
  have etr := h.tr w ht
  unfold w_X8_goesIn_168
  rw [ix22, nI_clamp (by omega), nI_clamp (by omega), h.lg h2.2.1, etr.2.2.1, nI_add, sub_sub_nI hv]
  refine ⟨vp_in_nI (by omega) (by omega), vp_in_nI (by omega) (by omega), vp_in_nI (by omega) (by omega), fun M5 e5 => ⟨vp_in_nI (by omega) (by omega), fun M7 e7 M8 e8 => ?_⟩⟩
  rw [show (999 : Int32) = nI 999 from rfl, ite_minL (by omega) (by omega)] at e7
  have a5 : PM M5 p (up E (E (17 + t)) (E (E (17 + t)) - v)) := by rw [e5]; exact h.setL h2.2.1
  have a7 : PM M7 p (up (up E (E (17 + t)) (E (E (17 + t)) - v)) (22 + t) (min 999 (E (22 + t) + v))) := by rw [e7]; exact a5.set0 (by omega) (by omega) (by omega)
  have c7 : M7 0 = M 0 := by rw [e7, e5, mu_c (by omega), mu_c (by omega)]
  refine hq M8 ?_ ?_ ?_ ?_ ?_
  · rw [e8]
    exact a7.out (Or.inl (by omega))
  · rw [e8, e7, e5]
    exact ((frM.rf.pg (by omega)).pg (by omega)).ct (Or.inl rfl)
  · rw [e8, mu_at, if_pos ⟨rfl, rfl⟩, c7]
  · rw [e8, mu_at, if_neg (by omega), c7]
  · rw [e8, mu_at, if_neg (by omega), c7]
theorem cat_min {c : Nat} (h : c ≤ 999) : nI c + (if 999 ≤ nI c then (0 : Int32) else 1) = nI (min 999 (c + 1)) := by
  by_cases q : 999 ≤ c
  · rw [if_pos (show (999 : Int32) ≤ nI c from nI_le (a := 999) q (by omega))]
    rw [show (0 : Int32) = nI 0 from rfl, nI_add]
    congr 1
    omega
  · rw [if_neg (show ¬ (999 : Int32) ≤ nI c from fun z => q ((nI_leI (a := 999) (by omega) (by omega)).mp z))]
    rw [nI_1]
    congr 1
    omega
/-- one taker goes in -/
theorem m_go {M : Mem} {p t : Nat} {E : Es} {hz : Bool} {x : Int32} {Q : Mem → Prop} (h : PM M p E) (w : WF E) (hp : p + 44 ≤ 264) (ht : t < E 44) (hx : x = 0 ↔ hz = false) (hq : ∀ M', PM M' p (goE hz t E) → frM p M M' → M' 0 16 = M 0 16 + nI (goT hz t E) → M' 0 17 = M 0 17 ||| nI (goC hz t E * 2 ^ t) → M' 0 18 = M 0 18 + nI (goC hz t E) → Q M') : w_X8_goesIn (nI p) (nI t) x M Q := by
  have h5 := w.2.2.2.2.1
  have h2 := w.2.1 t ht
  have hl := w.1 (E (17 + t)) h2.2.1
  have h43 := w.2.2.2.2.2.2
  have etr := h.tr w ht
  have htk := takes_le (E (12 + t))
  have or0 : ∀ a : Int32, a ||| nI (0 * 2 ^ t) = a := fun a => by rw [Nat.zero_mul]; exact Int32.or_zero
  have ad0 : ∀ a : Int32, a + nI 0 = a := fun a => Int32.add_zero a
  have fill : ¬ 0 < E (27 + t) → ¬ (hz = false ∧ hears E t = true) → w_X8_goesIn_115 (nI p) (nI t) M Q := by
    intro c1 c2
    have fin : ∀ v, v = min (takesN (E (12 + t))) (E (E (17 + t))) → w_X8_goesIn_168 (nI p) (nI t) (nI (p + E (17 + t))) (nI v) M Q := by
      intro v hv
      refine m_168 h w hp ht (by omega) (fun M' a b c d e => hq M' ?_ b ?_ ?_ ?_)
      · unfold goE
        rw [if_neg c1, if_neg c2, ← hv]
        exact a
      · unfold goT
        rw [if_neg c1, if_neg c2, ← hv]
        exact c
      · unfold goC
        rw [if_neg c1, if_neg c2, or0]
        exact d
      · unfold goC
        rw [if_neg c1, if_neg c2, ad0]
        exact e
    unfold w_X8_goesIn_115
    rw [ix17, nI_clamp (by omega), etr.2.1, nI_add, nI_clamp (by omega), h.lg h2.2.1, show (30 : Int32) = nI 30 from rfl, sac]
    refine ⟨vp_in_nI (by omega) (by omega), m_takes h w hp ht ⟨vp_in_nI (by omega) (by omega), pk_le (E (E (17 + t))) (takesN (E (12 + t))) (fun c3 => ?_) (fun c3 => ?_)⟩⟩
    · exact ⟨vp_in_nI (by omega) (by omega), fin _ (by omega)⟩
    · exact m_takes h w hp ht (fin _ (by omega))
  unfold w_X8_goesIn
  rw [ix27, nI_clamp (by omega), etr.2.2.2]
  have ev : vp_in (nI (p + (27 + t))) 264 := vp_in_nI (by omega) (by omega)
  refine ⟨ev, pk_le (E (27 + t)) 0 (fun c1 => ?_) (fun c1 => ?_)⟩
  · have c1' : ¬ 0 < E (27 + t) := by omega
    refine ⟨fun c2 => ?_, fun c2 => ?_⟩
    · have hzf := hx.mp c2
      refine m_heard h w hp ht ⟨fun c3 => ?_, fun c3 => ?_⟩
      · refine fill c1' (fun q => ?_)
        rw [if_pos q.2] at c3
        exact absurd c3 (by decide)
      · have hh : hears E t = true := by
          by_cases q : hears E t = true
          · exact q
          · rw [if_neg q] at c3
            exact absurd rfl c3
        refine ⟨ev, fun M12 e12 => ?_⟩
        have a12 : PM M12 p (up E (27 + t) 7) := by rw [e12]; exact h.set0 (n := 7) (by omega) (by omega) (by omega)
        have b12 : M12 1 (p + 43) = nI (E 43) := by rw [a12.ca, up_n (by omega)]
        rw [jx43, nI_clamp (by omega), b12, cat_min h43]
        have ev2 : vp_in (nI (p + 43)) 264 := vp_in_nI (by omega) (by omega)
        refine ⟨ev2, ev2, ev2, fun M14 e14 M15 e15 M16 e16 => ?_⟩
        have a14 : PM M14 p (up (up E (27 + t) 7) 43 (min 999 (E 43 + 1))) := by rw [e14]; exact a12.set0 (by omega) (by omega) (by omega)
        have c14 : M14 0 = M 0 := by rw [e14, e12, mu_c (by omega), mu_c (by omega)]
        refine hq M16 ?_ ?_ ?_ ?_ ?_
        · unfold goE
          rw [if_neg c1', if_pos ⟨hzf, hh⟩, e16, e15]
          exact (a14.out (Or.inl (by omega))).out (Or.inl (by omega))
        · rw [e16, e15, e14, e12]
          exact (((frM.rf.pg (by omega)).pg (by omega)).ct (Or.inr (Or.inl rfl))).ct (Or.inr (Or.inr rfl))
        · unfold goT
          rw [if_neg c1', if_pos ⟨hzf, hh⟩, ad0, e16, e15, mu_at, if_neg (by omega), mu_at, if_neg (by omega), c14]
        · unfold goC
          rw [if_neg c1', if_pos ⟨hzf, hh⟩, Nat.one_mul, e16, mu_at, if_neg (by omega), e15, mu_at, if_pos ⟨rfl, rfl⟩, c14, sl1 t (by omega)]
        · unfold goC
          rw [if_neg c1', if_pos ⟨hzf, hh⟩, e16, mu_at, if_pos ⟨rfl, rfl⟩, e15, mu_at, if_neg (by omega), c14]
          rfl
    · exact fill c1' (fun q => c2 (hx.mpr q.1))
  · refine ⟨ev, ev, fun M17 e17 => ?_⟩
    rw [show (1 : Int32) = nI 1 from rfl, nIs (by omega)] at e17
    have c17 : M17 0 = M 0 := by rw [e17, mu_c (by omega)]
    refine hq M17 ?_ ?_ ?_ ?_ ?_
    · unfold goE
      rw [if_pos c1, e17]
      exact h.set0 (by omega) (by omega) (by omega)
    · rw [e17]
      exact frM.rf.pg (by omega)
    · unfold goT
      rw [if_pos c1, ad0, c17]
    · unfold goC
      rw [if_pos c1, or0, c17]
    · unfold goC
      rw [if_pos c1, ad0, c17]
theorem PM_eq {M : Mem} {p : Nat} {E E' : Es} (h : PM M p E) (he : ∀ i, i < 45 → E' i = E i) : PM M p E' := by
  intro i hi hok
  rw [he 44 (by omega), he 41 (by omega)] at hok
  rw [he i (by omega)]
  exact h i hi hok
theorem grow_v {L G : Nat} (hL : L ≤ 60) (hG : G ≤ 9) : (if nI L - nI 30 + (nI G - nI 2) + 2 ≤ 30 then nI L - nI 30 + (nI G - nI 2) + 2 else 30) = nI (min 60 (L + G)) - nI 30 := by
  have e : nI L - nI 30 + (nI G - nI 2) + 2 = nI (L + G) - nI 30 := by
    rw [show (2 : Int32) = nI 2 from rfl, Int32.add_assoc, sac, ← nI_add, Int32.sub_eq_add_neg, Int32.sub_eq_add_neg, Int32.add_assoc, Int32.add_comm (-nI 30), Int32.add_assoc]
  rw [e]
  have q : (nI (L + G) - nI 30 ≤ 30) ↔ L + G ≤ 60 := by
    rw [Int32.le_iff_toInt_le, sub_toInt (by omega) (by omega)]
    show ((L + G : Nat) : Int) - (30 : Nat) ≤ (nI 30).toInt ↔ _
    rw [nI_toInt (by omega)]
    omega
  by_cases c : L + G ≤ 60
  · rw [if_pos (q.mpr c), Nat.min_eq_right c]
  · rw [if_neg (fun z => c (q.mp z)), Nat.min_eq_left (by omega)]
    rfl
/-- a night on a page of the reference -/
theorem m_night {M : Mem} {p : Nat} {E : Es} {hz : Bool} {x : Int32} {Q : Mem → Prop} (h : PM M p E) (hT : M 0 1 = nI (E 44)) (w : WF E) (hp : p + 44 ≤ 264) (hx : x = 0 ↔ hz = false) (hq : ∀ M', PM M' p (nE hz E) → frM p M M' → M' 0 16 = M 0 16 + nI (nT hz E) → M' 0 17 = M 0 17 ||| nI (nB hz E) → M' 0 18 = M 0 18 + nI (nC hz E) → Q M') : w_X8_nightOn (nI p) x M Q := by
  have h5 := w.2.2.2.2.1
  have a44 := sE_fix hz E w (E 44) (Nat.le_refl _)
  have last : ∀ Y : Mem, PM Y p (growK 6 (sE hz (E 44) E)) → frM p M Y → Y 0 16 = M 0 16 + nI (nT hz E) → Y 0 17 = M 0 17 ||| nI (nB hz E) → Y 0 18 = M 0 18 + nI (nC hz E) → w_X8_nightOn_83 (nI p) Y Q := by
    intro Y hY hf h1 h2 h3
    have g42 := growK_WF a44.1 (n := 6) (Nat.le_refl _)
    unfold w_X8_nightOn_83
    rw [jx42, nI_clamp (by omega), hY.ni, g42.2.2.2, a44.2.2.2, nI_1]
    refine ⟨vp_in_nI (by omega) (by omega), vp_in_nI (by omega) (by omega), fun M3 e3 => ?_⟩
    have c3 : M3 0 = Y 0 := by rw [e3, mu_c (by omega)]
    refine hq M3 ?_ ?_ (by rw [c3]; exact h1) (by rw [c3]; exact h2) (by rw [c3]; exact h3)
    · rw [e3]
      exact hY.set0 (by omega) (by omega) (by omega)
    · rw [e3]
      exact hf.pg (by omega)
  have grow : ∀ (n k : Nat) (Y : Mem), k ≤ 6 → 6 - k < n → PM Y p (growK k (sE hz (E 44) E)) → frM p M Y → Y 0 16 = M 0 16 + nI (nT hz E) → Y 0 17 = M 0 17 ||| nI (nB hz E) → Y 0 18 = M 0 18 + nI (nC hz E) → fu2 (w_X8_nightOn_25 (nI p) Q) n (nI k) Y := by
    intro n
    induction n with
    | zero => intro k Y hk hn; omega
    | succ n ih =>
      intro k Y hk hn hY hf h1 h2 h3
      show w_X8_nightOn_25 (nI p) Q (fu2 (w_X8_nightOn_25 (nI p) Q) n) (nI k) Y
      generalize fu2 (w_X8_nightOn_25 (nI p) Q) n = K at ih ⊢
      unfold w_X8_nightOn_25
      refine pk_le 6 k (fun hle => ?_) (fun hlt => ?_)
      · have e : k = 6 := by omega
        subst e
        exact last Y hY hf h1 h2 h3
      · have f1 : growK k (sE hz (E 44) E) k = sE hz (E 44) E k := if_neg (by omega)
        have f2 : growK k (sE hz (E 44) E) (6 + k) = sE hz (E 44) E (6 + k) := if_neg (by omega)
        have hb := a44.1.1 k hlt
        rw [nI_add, ix6, nI_clamp (by omega), nI_clamp (by omega), hY.lg hlt, hY.gr hlt, f1, f2]
        refine ⟨vp_in_nI (by omega) (by omega), vp_in_nI (by omega) (by omega), fun v4 e4 => ⟨vp_in_nI (by omega) (by omega), fun M6 e6 => ?_⟩⟩
        rw [e4, grow_v hb.1 hb.2] at e6
        have c6 : M6 0 = Y 0 := by rw [e6, mu_c (by omega)]
        rw [nI_1]
        refine ih (k + 1) M6 (by omega) (by omega) ?_ ?_ (by rw [c6]; exact h1) (by rw [c6]; exact h2) (by rw [c6]; exact h3)
        · rw [e6]
          refine PM_eq (hY.setL (n := min 60 (sE hz (E 44) E k + sE hz (E 44) E (6 + k))) hlt) (fun i _ => ?_)
          unfold up growK
          by_cases hi : i = k
          · subst hi
            rw [if_pos (by omega), if_pos rfl]
          · rw [if_neg hi]
            by_cases h2 : i < k
            · rw [if_pos (by omega), if_pos h2]
            · rw [if_neg (by omega), if_neg h2]
        · rw [e6]
          exact hf.pg (by omega)
  have loop : ∀ (n t : Nat) (Y : Mem), t ≤ E 44 → E 44 - t < n → PM Y p (sE hz t E) → frM p M Y → Y 0 16 = M 0 16 + nI (sT hz t E) → Y 0 17 = M 0 17 ||| nI (sB hz t E) → Y 0 18 = M 0 18 + nI (sC hz t E) → fu2 (w_X8_nightOn_2 (nI p) x Q) n (nI t) Y := by
    intro n
    induction n with
    | zero => intro t Y hk hn; omega
    | succ n ih =>
      intro t Y hk hn hY hf h1 h2 h3
      show w_X8_nightOn_2 (nI p) x Q (fu2 (w_X8_nightOn_2 (nI p) x Q) n) (nI t) Y
      generalize fu2 (w_X8_nightOn_2 (nI p) x Q) n = K at ih ⊢
      have fx := sE_fix hz E w t hk
      unfold w_X8_nightOn_2
      rw [hf.2.2 1 (by omega) (by omega) (by omega), hT]
      refine pk_le (E 44) t (fun hle => ?_) (fun hlt => ?_)
      · have e : t = E 44 := by omega
        subst e
        exact ⟨7, grow 7 0 Y (by omega) (by omega) (PM_eq hY (fun i _ => if_neg (by omega))) hf h1 h2 h3⟩
      · have hlt' : t < sE hz t E 44 := by rw [fx.2.1]; exact hlt
        refine m_go hY fx.1 hp hlt' hx (fun Z hZ hfZ z1 z2 z3 => ?_)
        rw [nI_1]
        have hb := sB_lt hz E t
        have hc := goC_le hz t (sE hz t E)
        refine ih (t + 1) Z (by omega) (by omega) hZ (hf.tr hfZ) ?_ ?_ ?_
        · rw [z1, h1, Int32.add_assoc, nI_add]
          rfl
        · rw [z2, h2, Int32.or_assoc, nI_or]
          congr 2
          show _ = sB hz t E + goC hz t (sE hz t E) * 2 ^ t
          rw [Nat.or_comm, Nat.mul_comm, Nat.add_comm]
          exact (Nat.two_pow_add_eq_or_of_lt hb _).symm
        · rw [z3, h3, Int32.add_assoc, nI_add]
          rfl
  refine ⟨E 44 + 1, loop (E 44 + 1) 0 M (by omega) (by omega) h frM.rf ?_ ?_ ?_⟩
  · exact (Int32.add_zero _).symm
  · exact Int32.or_zero.symm
  · exact (Int32.add_zero _).symm
