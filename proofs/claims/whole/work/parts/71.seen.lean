/-! what was seen -/
def SV (X M : Mem) (n : Nat) (a g v : Nat → Nat) : Prop := n ≤ 6 ∧ X 25 3 = nI n ∧ M 0 21 = nI n ∧ ∀ j, j < n → a j ≤ 20 ∧ g j < 6 ∧ v j ≤ 60 ∧ (X 26 j = nI (a j) ∧ M 6 (3 * j) = nI (a j)) ∧ (X 27 j = nI (g j) ∧ M 6 (3 * j + 1) = nI (g j)) ∧ (X 28 j = nI (v j) ∧ M 6 (3 * j + 2) = nI (v j))
theorem RV.sv {X M : Mem} (h : RV X M) : ∃ n a g v, SV X M n a g v := by
  obtain ⟨n, hn, h1, h2, h3⟩ := h
  refine ⟨n, fun j => (X 26 j).toNatClampNeg, fun j => (X 27 j).toNatClampNeg, fun j => (X 28 j).toNatClampNeg, hn, h1, h2, fun j hj => ?_⟩
  obtain ⟨a, g, v, ha, hg, hv, ⟨a1, a2⟩, ⟨g1, g2⟩, ⟨v1, v2⟩⟩ := h3 j hj
  have e1 : (X 26 j).toNatClampNeg = a := by rw [a1, nI_clamp (by omega)]
  have e2 : (X 27 j).toNatClampNeg = g := by rw [g1, nI_clamp (by omega)]
  have e3 : (X 28 j).toNatClampNeg = v := by rw [v1, nI_clamp (by omega)]
  simp only [e1, e2, e3]
  exact ⟨ha, hg, hv, ⟨a1, a2⟩, ⟨g1, g2⟩, ⟨v1, v2⟩⟩
/-- all that was seen behind k nights is so, of the first n -/
def fbB (a g v : Nat → Nat) (k : Nat) (L : Es) : Nat → Bool
  | 0 => true
  | e + 1 => fbB a g v k L e && (decide (a e ≠ k) || decide (L (g e) = v e))
def fkB (n : Nat) (a g v : Nat → Nat) (E : Es) : Nat → Bool
  | 0 => true
  | k + 1 => fkB n a g v E k && fbB a g v k (hE no k E) n
def Lm (a : Nat → Nat) : Nat → Nat
  | 0 => 0
  | e + 1 => max (Lm a e) (a e + 1)
theorem Lm_ge (a : Nat → Nat) {n e : Nat} (h : e < n) : a e + 1 ≤ Lm a n := by
  induction n with
  | zero => omega
  | succ n ih =>
    show a e + 1 ≤ max (Lm a n) (a n + 1)
    by_cases q : e = n
    · subst q
      omega
    · have := ih (by omega)
      omega
theorem Lm_le (a : Nat → Nat) {n : Nat} (h : ∀ e, e < n → a e ≤ 20) : Lm a n ≤ 21 := by
  induction n with
  | zero => show 0 ≤ 21; omega
  | succ n ih =>
    have h1 := ih (fun e he => h e (by omega))
    have h2 := h n (by omega)
    show max (Lm a n) (a n + 1) ≤ 21
    omega
theorem fbB_far {a g v : Nat → Nat} {k n : Nat} {L : Es} (h : ∀ e, e < n → a e ≠ k) : fbB a g v k L n = true := by
  induction n with
  | zero => rfl
  | succ n ih =>
    show (fbB a g v k L n && (decide (a n ≠ k) || decide (L (g n) = v n))) = true
    rw [ih (fun e he => h e (by omega)), decide_eq_true (h n (by omega))]
    rfl
theorem fkB_far {n : Nat} {a g v : Nat → Nat} {E : Es} : ∀ j, fkB n a g v E (Lm a n + j) = fkB n a g v E (Lm a n)
  | 0 => rfl
  | j + 1 => by
    show (fkB n a g v E (Lm a n + j) && fbB a g v (Lm a n + j) (hE no (Lm a n + j) E) n) = _
    rw [fkB_far j, fbB_far (fun e he => by have := Lm_ge a he; omega), Bool.and_true]
theorem fkB_dn {n : Nat} {a g v : Nat → Nat} {E : Es} {k m : Nat} (h : fkB n a g v E k = false) (hk : k ≤ m) : fkB n a g v E m = false := by
  induction m with
  | zero =>
    have : k = 0 := by omega
    subst this
    exact h
  | succ m ih =>
    by_cases q : k = m + 1
    · subst q
      exact h
    · show (fkB n a g v E m && _) = false
      rw [ih (by omega)]
      rfl
theorem fbB_dn {a g v : Nat → Nat} {k e m : Nat} {L : Es} (h : fbB a g v k L e = false) (hk : e ≤ m) : fbB a g v k L m = false := by
  induction m with
  | zero =>
    have : e = 0 := by omega
    subst this
    exact h
  | succ m ih =>
    by_cases q : e = m + 1
    · subst q
      exact h
    · show (fbB a g v k L m && _) = false
      rw [ih (by omega)]
      rfl
theorem w_latest {X M : Mem} {n : Nat} {a g v : Nat → Nat} {Q : Int32 → Prop} (s : SV X M n a g v) (q : Q (nI (Lm a n) - 1)) : w_X3_latestNight X Q := by
  obtain ⟨hn, s1, s2, s3⟩ := s
  refine pk_loop (fun m i (_ : Unit) => fu2 (w_X3_latestNight_4 X Q) m (nI (Lm a i) - 1) (nI i)) (fun _ _ => True) n 0 () (by omega) trivial (fun m _ _ => ?_) (fun m i _ hi _ ih => ?_)
  · show w_X3_latestNight_4 _ _ _ _ _
    unfold w_X3_latestNight_4
    rw [s1]
    exact pk_le n n (fun _ => q) (fun z => by omega)
  · show w_X3_latestNight_4 X Q (fu2 (w_X3_latestNight_4 X Q) m) _ _
    generalize fu2 (w_X3_latestNight_4 X Q) m = K at ih ⊢
    unfold w_X3_latestNight_4
    rw [s1]
    refine pk_le n i (fun z => by omega) (fun _ => ⟨vp_in_nI (by omega) (by omega), fun v2 e2 => ?_⟩)
    have hl := Lm_le a (n := i) (fun e he => (s3 e (by omega)).1)
    have ha := (s3 i hi).1
    rw [nI_clamp (by omega), (s3 i hi).2.2.2.1.1] at e2
    have key := ih () trivial
    rw [nI_1]
    have e3 : v2 = nI (Lm a (i + 1)) - 1 := by
      rw [e2]
      show _ = nI (max (Lm a i) (a i + 1)) - 1
      have ti : (nI (Lm a i) - 1).toInt = (Lm a i : Int) - 1 := sub_toInt (b := 1) (by omega) (by omega)
      by_cases z : Lm a i ≤ a i
      · rw [if_pos (by rw [i32_lt, ti, nI_toInt (by omega)]; omega), show max (Lm a i) (a i + 1) = a i + 1 by omega, nI_pred]
      · rw [if_neg (by rw [i32_lt, ti, nI_toInt (by omega)]; omega), show max (Lm a i) (a i + 1) = Lm a i by omega]
    rw [e3]
    exact key
theorem w_fitB {X M N : Mem} {n k : Nat} {a g v : Nat → Nat} {L : Es} {Q : Int32 → Prop} (s : SV X M n a g v) (h25 : N 25 = X 25) (h26 : N 26 = X 26) (h27 : N 27 = X 27) (h28 : N 28 = X 28) (hL : ∀ j, j < 6 → N 13 j = nI (L j)) (hLb : ∀ j, j < 6 → L j ≤ 60) (hk : k ≤ 30) (q : Q (if fbB a g v k L n = true then 1 else 0)) : w_X3_fitBehind (nI k) N Q := by
  obtain ⟨hn, s1, s2, s3⟩ := s
  have main : ∀ r i, r + i = n → fbB a g v k L i = true → fu1 (w_X3_fitBehind_2 (nI k) N Q) (r + 1) (nI i) := by
    intro r
    induction r with
    | zero =>
      intro i hi e
      have : i = n := by omega
      subst this
      rw [if_pos e] at q
      show w_X3_fitBehind_2 _ _ _ _ _
      unfold w_X3_fitBehind_2
      rw [h25, s1]
      exact pk_le i i (fun _ => q) (fun z => by omega)
    | succ r ih =>
      intro i hi e
      show w_X3_fitBehind_2 (nI k) N Q (fu1 (w_X3_fitBehind_2 (nI k) N Q) (r + 1)) (nI i)
      generalize fu1 (w_X3_fitBehind_2 (nI k) N Q) (r + 1) = K at ih ⊢
      obtain ⟨ha, hg, hv, ⟨a1, -⟩, ⟨g1, -⟩, ⟨v1, -⟩⟩ := s3 i (by omega)
      unfold w_X3_fitBehind_2
      rw [h25, s1, nI_clamp (by omega), h26, h27, h28, a1, g1, v1, nI_clamp (by omega), hL _ hg]
      refine pk_le n i (fun z => by omega) (fun _ => ⟨vp_in_nI (by omega) (by omega), pk_eq (a i) k (fun z => ⟨vp_in_nI (by omega) (by omega), vp_in_nI (by omega) (by omega), vp_in_nI (by omega) (by omega), ?_⟩) (fun z => ?_)⟩)
      · have hb := hLb (g i) hg
        refine pk_eq (L (g i)) (v i) (fun y => ?_) (fun y => ?_)
        · unfold w_X3_fitBehind_42
          rw [nI_1]
          refine ih (i + 1) (by omega) ?_
          show (fbB a g v k L i && (decide (a i ≠ k) || decide (L (g i) = v i))) = true
          rw [e, decide_eq_true y, Bool.or_true]
          rfl
        · have f : fbB a g v k L (i + 1) = false := by
            show (fbB a g v k L i && (decide (a i ≠ k) || decide (L (g i) = v i))) = false
            rw [decide_eq_false y, decide_eq_false (fun w => w z), Bool.or_self, Bool.and_false]
          have f2 := fbB_dn f (m := n) (by omega)
          rw [f2] at q
          exact q
      · unfold w_X3_fitBehind_42
        rw [nI_1]
        refine ih (i + 1) (by omega) ?_
        show (fbB a g v k L i && (decide (a i ≠ k) || decide (L (g i) = v i))) = true
        rw [e, decide_eq_true z]
        rfl
  exact ⟨n + 1, main n 0 (by omega) rfl⟩
/-- the class: whether all is as seen -/
theorem w_fit {X M N : Mem} {n : Nat} {a g v : Nat → Nat} {E : Es} {Q : Int32 → Mem → Prop} (s : SV X M n a g v) (gN : gX X N) (t : TX N E 0 0 0 0 0) (w : WF E) (h9 : E 42 ≤ 999) (q : ∀ N', gX X N' → Q (if fkB n a g v E 21 = true then 1 else 0) N') : w_X3_fit N Q := by
  have sN' : SV N M n a g v := by
    obtain ⟨hn, s1, s2, s3⟩ := s
    refine ⟨hn, by rw [gN 25 (by omega)]; exact s1, s2, fun j hj => ?_⟩
    rw [gN 26 (by omega), gN 27 (by omega), gN 28 (by omega)]
    exact s3 j hj
  refine w_latest sN' ?_
  have hl := Lm_le a (n := n) (fun e he => (s.2.2.2 e he).1)
  have main : ∀ r i N', r + i = Lm a n → gX X N' → TXn N' no i E → fkB n a g v E i = true → fu2 (w_X3_fit_7 (nI (Lm a n) - 1) Q) (r + 1) (nI i) N' := by
    intro r
    induction r with
    | zero =>
      intro i N' hi gN' t' e
      have : i = Lm a n := by omega
      show w_X3_fit_7 _ _ _ _ _
      unfold w_X3_fit_7
      have ti : (nI (Lm a n) - 1).toInt = (Lm a n : Int) - 1 := sub_toInt (b := 1) (by omega) (by omega)
      have lt : nI (Lm a n) - 1 < nI i := by
        rw [i32_lt, ti, nI_toInt (by omega)]
        omega
      refine ⟨fun _ => ?_, fun z => absurd lt z⟩
      have := q N' gN'
      rw [show (21 : Nat) = Lm a n + (21 - Lm a n) by omega, fkB_far, show Lm a n = i by omega, if_pos e] at this
      exact this
    | succ r ih =>
      intro i N' hi gN' t' e
      show w_X3_fit_7 (nI (Lm a n) - 1) Q (fu2 (w_X3_fit_7 (nI (Lm a n) - 1) Q) (r + 1)) (nI i) N'
      generalize fu2 (w_X3_fit_7 (nI (Lm a n) - 1) Q) (r + 1) = K at ih ⊢
      unfold w_X3_fit_7
      have ti : (nI (Lm a n) - 1).toInt = (Lm a n : Int) - 1 := sub_toInt (b := 1) (by omega) (by omega)
      have lt : ¬ nI (Lm a n) - 1 < nI i := by
        rw [i32_lt, ti, nI_toInt (by omega)]
        omega
      refine ⟨fun z => absurd z lt, fun _ => ?_⟩
      obtain ⟨w2, -, -, -⟩ := hE_fix no E w i (by omega)
      refine w_fitB s (gN' 25 (by omega)) (gN' 26 (by omega)) (gN' 27 (by omega)) (gN' 28 (by omega)) (fun j hj => t'.1.lg hj) (fun j hj => (w2.1 j hj).1) (by omega) ?_
      have st : fkB n a g v E (i + 1) = (fkB n a g v E i && fbB a g v i (hE no i E) n) := rfl
      by_cases z : fbB a g v i (hE no i E) n = true
      · rw [if_pos z]
        refine b1 (w_step t' w (by omega) ⟨fun _ => rfl, fun _ => rfl⟩ (fun N2 t2 g2 => ?_))
        rw [nI_1]
        exact ih (i + 1) N2 (by omega) (gN'.tr g2) t2 (by rw [st, e, z]; rfl)
      · rw [if_neg z]
        refine b0 ?_
        have f : fkB n a g v E (i + 1) = false := by
          rw [st, Bool.not_eq_true _ |>.mp z, Bool.and_false]
        have := q N' gN'
        rw [fkB_dn f (m := 21) (by omega)] at this
        exact this
  exact ⟨Lm a n + 1, main (Lm a n) 0 N (by omega) gN t rfl⟩
/-- the reference: light of a row, and whether all is as seen -/
def vM (M M' : Mem) : Prop := (∀ a, a ≠ 0 → a ≠ 1 → a ≠ 7 → M' a = M a) ∧ (∀ j, j < 176 ∨ 220 ≤ j → M' 1 j = M 1 j) ∧ (∀ k, k ≠ 16 → k ≠ 17 → k ≠ 18 → k ≠ 19 → M' 0 k = M 0 k)
theorem vM.rf {M : Mem} : vM M M := ⟨fun _ _ _ _ => rfl, fun _ _ => rfl, fun _ _ _ _ _ => rfl⟩
theorem vM.tr {M N K : Mem} (h : vM M N) (h2 : vM N K) : vM M K := ⟨fun a h0 h1 h7 => (h2.1 a h0 h1 h7).trans (h.1 a h0 h1 h7), fun j hj => (h2.2.1 j hj).trans (h.2.1 j hj), fun k a b c d => (h2.2.2 k a b c d).trans (h.2.2 k a b c d)⟩
theorem vM.tk {M N : Mem} (h : vM M N) : N 0 1 = M 0 1 := h.2.2 1 (by omega) (by omega) (by omega) (by omega)
theorem gM.v {M N : Mem} (h : gM M N) : vM M N := ⟨fun a h0 h1 _ => h.1 a h0 h1, h.2.1, h.2.2⟩
theorem vM.mu7 {M N : Mem} (h : vM M N) {j : Nat} {x : Int32} : vM M (mu N 7 j x) := ⟨fun a h0 h1 h7 => by rw [mu_c h7]; exact h.1 a h0 h1 h7, fun i hi => by rw [mu_c (by omega)]; exact h.2.1 i hi, fun k a b c d => by rw [mu_c (by omega)]; exact h.2.2 k a b c d⟩
/-- rows of light, told for the first k nights -/
def lrow (N : Mem) (row k : Nat) (E : Es) : Prop := ∀ i g, i < k → g < 6 → N 7 (126 * row + 6 * i + g) = nI (hE no i E g) - nI 30
theorem m_asSeen {X M N : Mem} {n row : Nat} {a g v : Nat → Nat} {E : Es} {Q : Int32 → Mem → Prop} (s : SV X M n a g v) (s6 : N 6 = M 6) (s21 : N 0 21 = M 0 21) (h : PM N 0 E) (hTk : N 0 1 = nI (E 44)) (w : WF E) (h9 : E 42 ≤ 999) (hr : row ≤ 5) (q : ∀ N', vM N N' → lrow N' row 21 E → (∀ j, j < 126 * row ∨ 126 * row + 126 ≤ j → N' 7 j = N 7 j) → Q (if fkB n a g v E 21 = true then 1 else 0) N') : w_X8_isAsSeen (nI row) N Q := by
  obtain ⟨hn, s1, s2, s3⟩ := s
  refine m_copies (a := 0) (b := 176) (by omega) (by omega) (by omega) (fun N2 c1 c2 c3 => ?_)
  have g2 : vM N N2 := ⟨fun a h0 h1 _ => c2 a h1, fun j hj => c3 j (by omega), fun k _ _ _ _ => by rw [c2 0 (by omega)]⟩
  have p2 : PM N2 176 E := fun i hi hok => by
    rw [c1 i hi]
    exact h i hi hok
  have bi : ∀ b : Bool, narrow .boolean (.int (if b = true then (1 : Int32) else 0)) = .int (if b = true then (1 : Int32) else 0) := fun b => by cases b <;> decide
  refine pk_loop (fun m k K => fu3 (w_X8_isAsSeen_12 (nI row) Q) m (if fkB n a g v E k = true then 1 else 0) (nI k) K) (fun k K => vM N K ∧ PM K 176 (hE no k E) ∧ lrow K row k E ∧ (∀ j, j < 126 * row ∨ 126 * row + 126 ≤ j → K 7 j = N 7 j)) 21 0 N2 (by omega) ⟨g2, p2, fun i g hi => by omega, fun j _ => by rw [c2 7 (by omega)]⟩ (fun m K hI => ?_) (fun m k K hk hI ih => ?_)
  · exact pk_lt 20 21 (fun _ => ⟨bi _, q K hI.1 hI.2.2.1 hI.2.2.2⟩) (fun z => by omega)
  · obtain ⟨v1, p1, l1, o1⟩ := hI
    show w_X8_isAsSeen_12 (nI row) Q (fu3 (w_X8_isAsSeen_12 (nI row) Q) m) _ _ _
    generalize fu3 (w_X8_isAsSeen_12 (nI row) Q) m = K12 at ih ⊢
    refine pk_lt 20 k (fun z => by omega) (fun _ => ?_)
    refine pk_loop (fun m j L => fu2 (w_X8_isAsSeen_21 (nI row) (if fkB n a g v E k = true then 1 else 0) (nI k) K12 Q) m (nI j) L) (fun j L => vM N L ∧ PM L 176 (hE no k E) ∧ lrow L row k E ∧ (∀ i, i < j → L 7 (126 * row + 6 * k + i) = nI (hE no k E i) - nI 30) ∧ (∀ j, j < 126 * row ∨ 126 * row + 126 ≤ j → L 7 j = N 7 j)) 6 0 K (by omega) ⟨v1, p1, l1, fun i hi => by omega, o1⟩ (fun m L hL => ?_) (fun m j L hj hL ih2 => ?_)
    · obtain ⟨v2, p2', l2, m2, o2⟩ := hL
      refine pk_le 6 6 (fun _ => ?_) (fun z => by omega)
      obtain ⟨w2, e44, e41, e42⟩ := hE_fix no E w k (by omega)
      have q21 : L 0 21 = nI n := by rw [v2.2.2 21 (by omega) (by omega) (by omega) (by omega), s21]; exact s2
      have q6 : L 6 = M 6 := by rw [v2.1 6 (by omega) (by omega) (by omega)]; exact s6
      have st : fkB n a g v E (k + 1) = (fkB n a g v E k && fbB a g v k (hE no k E) n) := rfl
      have z0 : (fkB n a g v E k && fbB a g v k (hE no k E) 0) = fkB n a g v E k := Bool.and_true _
      unfold w_X8_isAsSeen_62
      rw [← z0]
      refine pk_loop (fun m e (_ : Unit) => fu2 (w_X8_isAsSeen_65 (nI row) (nI k) L K12 Q) m (if (fkB n a g v E k && fbB a g v k (hE no k E) e) = true then 1 else 0) (nI e)) (fun _ _ => True) n 0 () (by omega) trivial (fun m _ _ => ?_) (fun m e _ he _ ih3 => ?_)
      · show w_X8_isAsSeen_65 _ _ _ _ _ _ _ _
        unfold w_X8_isAsSeen_65
        rw [q21]
        refine pk_le n n (fun _ => ?_) (fun z => by omega)
        unfold w_X8_isAsSeen_140
        refine m_night (p := 176) (hz := false) p2' (by rw [v2.tk, e44]; exact hTk) w2 (by omega) ⟨fun _ => rfl, fun _ => rfl⟩ (fun L2 r2 f2 _ _ _ => ?_)
        rw [nI_1, ← st]
        have f7 : L2 7 = L 7 := f2.1 7 (by omega) (by omega)
        refine ih L2 ⟨v2.tr f2.g.v, r2, fun i g hi hg => ?_, fun j hj => ?_⟩
        · rw [f7]
          by_cases z : i = k
          · subst z
            exact m2 g hg
          · exact l2 i g (by omega) hg
        · rw [f7]
          exact o2 j hj
      · show w_X8_isAsSeen_65 (nI row) (nI k) L K12 Q (fu2 (w_X8_isAsSeen_65 (nI row) (nI k) L K12 Q) m) _ _
        generalize fu2 (w_X8_isAsSeen_65 (nI row) (nI k) L K12 Q) m = K65 at ih3 ⊢
        have key := ih3 () trivial
        rw [show fbB a g v k (hE no k E) (e + 1) = (fbB a g v k (hE no k E) e && (decide (a e ≠ k) || decide (hE no k E (g e) = v e))) from rfl, ← Bool.and_assoc] at key
        obtain ⟨ha, hg, hv, ⟨-, a1⟩, ⟨-, g1⟩, ⟨-, w1⟩⟩ := s3 e he
        have hb := (w2.1 (g e) hg).1
        generalize (fkB n a g v E k && fbB a g v k (hE no k E) e) = b at key ⊢
        unfold w_X8_isAsSeen_65
        rw [q21, q6, show (3 : Int32) * nI e = nI (3 * e) from nIm 3 e, nI_1, show nI (3 * e) + 2 = nI (3 * e + 2) from nI_add _ 2, nI_clamp (by omega), nI_clamp (by omega), nI_clamp (by omega), a1, g1, w1, show (176 : Int32) + nI (g e) = nI (176 + g e) from nI_add 176 _, nI_clamp (by omega), p2'.lg hg, show nI (hE no k E (g e)) - nI 30 + 30 = nI (hE no k E (g e)) from sac _ _]
        refine pk_le n e (fun z => by omega) (fun _ => ?_)
        unfold w_X8_isAsSeen_132 w_X8_isAsSeen_128 w_X8_isAsSeen_133
        rw [nI_1]
        cases b with
        | false =>
          exact b0 key
        | true =>
          refine b1 ⟨vp_in_nI (by omega) (by omega), pk_eq (a e) k (fun z => ⟨vp_in_nI (by omega) (by omega), vp_in_nI (by omega) (by omega), vp_in_nI (by omega) (by omega), pk_eq (hE no k E (g e)) (v e) (fun y => ?_) (fun y => ?_)⟩) (fun z => ?_)⟩
          · rw [decide_eq_true y, Bool.or_true] at key
            exact key
          · rw [decide_eq_false y, decide_eq_false (fun w => w z)] at key
            exact key
          · rw [decide_eq_true z] at key
            exact key
    · obtain ⟨v2, p2', l2, m2, o2⟩ := hL
      show w_X8_isAsSeen_21 (nI row) (if fkB n a g v E k = true then 1 else 0) (nI k) K12 Q (fu2 (w_X8_isAsSeen_21 (nI row) (if fkB n a g v E k = true then 1 else 0) (nI k) K12 Q) m) _ _
      generalize fu2 (w_X8_isAsSeen_21 (nI row) (if fkB n a g v E k = true then 1 else 0) (nI k) K12 Q) m = K21 at ih2 ⊢
      refine pk_le 6 j (fun z => by omega) (fun _ => ?_)
      rw [show (126 : Int32) * nI row = nI (126 * row) from nIm 126 row, show (6 : Int32) * nI k = nI (6 * k) from nIm 6 k, nI_add, nI_add, show (176 : Int32) + nI j = nI (176 + j) from nI_add 176 j, nI_clamp (by omega), nI_clamp (by omega), p2'.lg hj, nI_1]
      refine ⟨vp_in_nI (by omega) (by omega), vp_in_nI (by omega) (by omega), fun L2 e2 => ?_⟩
      refine ih2 L2 ⟨by rw [e2]; exact v2.mu7, by rw [e2]; exact p2'.out (Or.inl (by omega)), fun i g hi hg => ?_, fun i hi => ?_, fun i hi => ?_⟩
      · rw [e2, mu_at, if_neg (by omega)]
        exact l2 i g hi hg
      · rw [e2, mu_at]
        by_cases z : i = j
        · subst z
          rw [if_pos ⟨rfl, rfl⟩]
        · rw [if_neg (by omega)]
          exact m2 i (by omega)
      · rw [e2, mu_at, if_neg (by omega)]
        exact o2 i hi
