/-! the reference's nights that are tried -/
def gM (M M' : Mem) : Prop := (∀ a, a ≠ 0 → a ≠ 1 → M' a = M a) ∧ (∀ j, j < 176 ∨ 220 ≤ j → M' 1 j = M 1 j) ∧ (∀ k, k ≠ 16 → k ≠ 17 → k ≠ 18 → k ≠ 19 → M' 0 k = M 0 k)
theorem gM.rf {M : Mem} : gM M M := ⟨fun _ _ _ => rfl, fun _ _ => rfl, fun _ _ _ _ _ => rfl⟩
theorem gM.tr {M N K : Mem} (h : gM M N) (h2 : gM N K) : gM M K := ⟨fun a h0 h1 => (h2.1 a h0 h1).trans (h.1 a h0 h1), fun j hj => (h2.2.1 j hj).trans (h.2.1 j hj), fun k a b c d => (h2.2.2 k a b c d).trans (h.2.2 k a b c d)⟩
theorem gM.tk {M N : Mem} (h : gM M N) : N 0 1 = M 0 1 := h.2.2 1 (by omega) (by omega) (by omega) (by omega)
theorem gM.pm {M N : Mem} {p : Nat} {E : Es} (f : gM M N) (h : PM M p E) (hp : p + 44 ≤ 176 ∨ 220 ≤ p) : PM N p E := fun i hi hok => by
  rw [f.2.1 _ (by omega)]
  exact h i hi hok
/-- both pages that are tried -/
def uM (M M' : Mem) : Prop := (∀ a, a ≠ 0 → a ≠ 1 → M' a = M a) ∧ (∀ j, j < 176 → M' 1 j = M 1 j) ∧ (∀ k, k ≠ 16 → k ≠ 17 → k ≠ 18 → k ≠ 19 → M' 0 k = M 0 k)
theorem uM.rf {M : Mem} : uM M M := ⟨fun _ _ _ => rfl, fun _ _ => rfl, fun _ _ _ _ _ => rfl⟩
theorem uM.tr {M N K : Mem} (h : uM M N) (h2 : uM N K) : uM M K := ⟨fun a h0 h1 => (h2.1 a h0 h1).trans (h.1 a h0 h1), fun j hj => (h2.2.1 j hj).trans (h.2.1 j hj), fun k a b c d => (h2.2.2 k a b c d).trans (h.2.2 k a b c d)⟩
theorem gM.u {M N : Mem} (h : gM M N) : uM M N := ⟨h.1, fun j hj => h.2.1 j (by omega), h.2.2⟩
theorem uM.q {M N : Mem} (h : uM M N) : qM M N := ⟨⟨fun a h0 h1 _ => h.1 a h0 h1, fun j _ h2 => h.2.1 j (by omega), h.2.2⟩, fun j hj => h.2.1 j (by omega)⟩
theorem uM.mu {M N : Mem} (h : uM M N) {j : Nat} {v : Int32} (hj : 176 ≤ j) : uM M (mu N 1 j v) :=
  ⟨fun a h0 h1 => by rw [mu_c h1]; exact h.1 a h0 h1, fun i hi => by rw [mu_at, if_neg (by omega)]; exact h.2.1 i hi, fun k a b c d => by rw [mu_c (by omega)]; exact h.2.2 k a b c d⟩
theorem frM.g {M N : Mem} (h : frM 176 M N) : gM M N := ⟨h.1, fun j hj => h.2.1 j (by omega), fun k a b c _ => h.2.2 k a b c⟩
def TM (M : Mem) (h : Nat → Bool) (n : Nat) (E : Es) : Prop := PM M 176 (hE h n E) ∧ M 0 16 = nI (hT h n E) ∧ M 0 17 = nI (hB h n E) ∧ M 0 18 = nI (hC h n E)
theorem m_begin {M : Mem} {p : Nat} {E : Es} {Q : Mem → Prop} (h : PM M p E) (hp : p + 44 ≤ 176 ∨ (220 ≤ p ∧ p + 44 ≤ 264)) (hq : ∀ M', (∀ g, TM M' g 0 E) → gM M M' → Q M') : w_X8_copies (nI p) 176 M (fun M2 => w_X8_startCounts M2 Q) := by
  refine m_copies (b := 176) (by omega) (by omega) (by omega) (fun M2 a b c => ?_)
  intro M3 e3 M4 e4 M5 e5
  have c1 : M5 1 = M2 1 := by rw [e5, e4, e3, mu_c (by omega), mu_c (by omega), mu_c (by omega)]
  refine hq M5 (fun g => ⟨fun i hi hok => ?_, ?_, ?_, ?_⟩) ⟨fun x h0 h1 => ?_, fun j hj => ?_, fun k h1 h2 h3 h4 => ?_⟩
  · rw [c1, a i hi]
    exact h i hi hok
  · rw [e5, e4, e3, mu_at, if_neg (by omega), mu_at, if_neg (by omega), mu_at, if_pos ⟨rfl, rfl⟩]
    rfl
  · rw [e5, e4, mu_at, if_neg (by omega), mu_at, if_pos ⟨rfl, rfl⟩]
    rfl
  · rw [e5, mu_at, if_pos ⟨rfl, rfl⟩]
    rfl
  · rw [e5, e4, e3, mu_c h0, mu_c h0, mu_c h0]
    exact b x h1
  · rw [c1]
    exact c j hj
  · rw [e5, e4, e3, mu_at, if_neg (by omega), mu_at, if_neg (by omega), mu_at, if_neg (by omega), b 0 (by omega)]
theorem m_step {M : Mem} {E : Es} {h : Nat → Bool} {n : Nat} {x : Int32} {Q : Mem → Prop} (t : TM M h n E) (hT1 : M 0 1 = nI (E 44)) (w : WF E) (h42 : E 42 + n < 5000) (hx : x = 0 ↔ h n = false) (hq : ∀ M', TM M' h (n + 1) E → frM 176 M M' → Q M') : w_X8_nightOn 176 x M Q := by
  obtain ⟨t0, t1, t2, t3⟩ := t
  obtain ⟨a, b, c, d⟩ := hE_fix h E w n (by omega)
  refine m_night (p := 176) t0 (by rw [b]; exact hT1) a (by omega) hx (fun M' p' f a1 a2 a3 => hq M' ⟨p', ?_, ?_, ?_⟩ f)
  · rw [a1, t1, nI_add]
    rfl
  · rw [a2, t2, nI_or]
    rfl
  · rw [a3, t3, nI_add]
    rfl
def ftI (F : Nat) : Int32 := if F = 0 then -4 else nI F
theorem nI_nm4 {n : Nat} (h : n < 2 ^ 31) : ¬ nI n = -4 := fun e => by
  have := congrArg Int32.toInt e
  rw [nI_toInt h] at this
  have h2 : (-4 : Int32).toInt = -4 := by decide
  omega
theorem nI_nm1 {n : Nat} (h : n < 2 ^ 31) : ¬ nI n = -1 := fun e => by
  have := congrArg Int32.toInt e
  rw [nI_toInt h] at this
  have h2 : (-1 : Int32).toInt = -1 := by decide
  omega
theorem m_go2 {M : Mem} {p n : Nat} {E : Es} {Q : Int32 → Mem → Prop} (h : PM M p E) (hp : p + 44 ≤ 176 ∨ (220 ≤ p ∧ p + 44 ≤ 264)) (hT1 : M 0 1 = nI (E 44)) (w : WF E) (hn : n ≤ 60) (h42 : E 42 + n < 5000) (hq : ∀ M', TM M' no n E → M' 0 19 = ftI (hF no n E) → gM M M' → Q (nI (hT no n E)) M') : w_X8_nightsGo (nI p) (nI n) M Q := by
  refine m_begin h hp (fun M4 t4 g4 => ?_)
  intro M5 e5
  have t5 : TM M5 no 0 E := by
    rw [e5]
    exact ⟨(t4 no).1.out (Or.inl (by omega)), by rw [mu_at, if_neg (by omega)]; exact (t4 no).2.1, by rw [mu_at, if_neg (by omega)]; exact (t4 no).2.2.1, by rw [mu_at, if_neg (by omega)]; exact (t4 no).2.2.2⟩
  have f5 : ∀ N : Mem, gM M N → ∀ v, gM M (mu N 0 19 v) := fun N f v => ⟨fun a h0 h1 => by rw [mu_c h0]; exact f.1 a h0 h1, fun j hj => by rw [mu_c (by omega)]; exact f.2.1 j hj, fun k a b c d => by rw [mu_at, if_neg (by omega)]; exact f.2.2 k a b c d⟩
  have g5 : gM M M5 := by rw [e5]; exact f5 _ g4 _
  have k5 : M5 0 19 = ftI (hF no 0 E) := by rw [e5, mu_at, if_pos ⟨rfl, rfl⟩]; rfl
  refine pk_loop (fun m i N => fu2 (w_X8_nightsGo_20 (nI n) Q) m (nI (i + 1)) N) (fun i N => TM N no i E ∧ N 0 19 = ftI (hF no i E) ∧ gM M N) n 0 M5 (by omega) ⟨t5, k5, g5⟩ (fun m N hI => ?_) (fun m i N hi hI ih => ?_)
  · show w_X8_nightsGo_20 (nI n) Q (fu2 (w_X8_nightsGo_20 (nI n) Q) m) (nI (n + 1)) N
    generalize fu2 (w_X8_nightsGo_20 (nI n) Q) m = K
    refine pk_lt n (n + 1) (fun _ => ?_) (fun z => by omega)
    unfold w_X8_nightsGo_67
    rw [hI.1.2.1]
    exact hq N hI.1 hI.2.1 hI.2.2
  · show w_X8_nightsGo_20 (nI n) Q (fu2 (w_X8_nightsGo_20 (nI n) Q) m) (nI (i + 1)) N
    generalize fu2 (w_X8_nightsGo_20 (nI n) Q) m = K at ih ⊢
    refine pk_lt n (i + 1) (fun z => by omega) (fun _ => ?_)
    have hT2 : N 0 1 = nI (E 44) := by rw [hI.2.2.tk]; exact hT1
    refine m_step hI.1 hT2 w (by omega) ⟨fun _ => rfl, fun _ => rfl⟩ (fun M8 t8 f8 => ?_)
    intro M11 e11
    rw [nI_1]
    have hc := hC_le no E w (i + 1) (by omega)
    have hf := hF_le no E i
    have h0 := hF_0 no E i
    have h19 : M8 0 19 = ftI (hF no i E) := by rw [f8.2.2 19 (by omega) (by omega) (by omega)]; exact hI.2.1
    have v : (if (M8 0 19) = (-4) then (if (M8 0 18) ≤ 0 then (M8 0 19) else nI (i + 1)) else (M8 0 19)) = ftI (hF no (i + 1) E) := by
      rw [h19, t8.2.2.2]
      have u : hC no (i + 1) E = hC no i E + nC false (hE no i E) := rfl
      have u2 : hF no (i + 1) E = fst (hF no i E) (nC false (hE no i E)) i := rfl
      by_cases z : hF no i E = 0
      · rw [show ftI (hF no i E) = -4 from if_pos z, if_pos rfl]
        by_cases y : nC false (hE no i E) = 0
        · rw [if_pos (show nI (hC no (i + 1) E) ≤ 0 from nI_le (b := 0) (by omega) (by omega)), u2]
          unfold fst
          rw [if_pos y, z]
          rfl
        · rw [if_neg (nI_nle (by omega) (by omega)), u2]
          unfold fst
          rw [if_neg y, if_pos z]
          unfold ftI
          rw [if_neg (by omega)]
      · rw [show ftI (hF no i E) = nI (hF no i E) from if_neg z, if_neg (nI_nm4 (by omega)), u2]
        have e : fst (hF no i E) (nC false (hE no i E)) i = hF no i E := by
          unfold fst
          split <;> rfl
        rw [e]
        exact (if_neg z).symm
    rw [v] at e11
    refine ih M11 ⟨?_, ?_, ?_⟩
    · rw [e11]
      exact ⟨t8.1.out (Or.inl (by omega)), by rw [mu_at, if_neg (by omega)]; exact t8.2.1, by rw [mu_at, if_neg (by omega)]; exact t8.2.2.1, by rw [mu_at, if_neg (by omega)]; exact t8.2.2.2⟩
    · rw [e11, mu_at, if_pos ⟨rfl, rfl⟩]
    · rw [e11]
      exact f5 _ (hI.2.2.tr f8.g) _
