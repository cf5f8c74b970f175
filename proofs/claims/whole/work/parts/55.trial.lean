/-! an estate copied; nights tried -/
def ln (c : Nat) : Nat := if c ≤ 2 then 6 else if c ≤ 6 then 5 else 3
theorem mc_c {M : Mem} {o0 o1 a : Nat} {sp dp n : Int32} (h : a ≠ o1) : mc M o0 sp o1 dp n a = M a := by
  unfold mc
  exact mr_n h
theorem mc_at {M : Mem} {o0 o1 n j : Nat} (hj : j < n) (hn : n < 2 ^ 31) : mc M o0 0 o1 0 (nI n) o1 j = M o0 j := by
  unfold mc
  rw [mr_s, nI_clamp hn]
  have := pk_cpy_in (f := M o0) (g := M o1) (sp := 0) (dp := 0) (n := n) (j := j) (by omega) (by omega)
  rw [show (0 : Int32).toNatClampNeg = 0 from rfl, this]
  congr 1
  omega
def cpI (o o2 : Nat) (X : Mem) (c : Nat) (M : Mem) : Prop := frX o X M ∧ ∀ d j, 1 ≤ d → d ≤ c → j < ln d → M (o + d) j = X (o2 + d) j
theorem cpS {o o2 c : Nat} {X M M' : Mem} {n : Int32} (h : cpI o o2 X c M) (hd : o + 10 ≤ o2 ∨ o2 + 10 ≤ o) (hc : c + 1 < 10) (hn : n = nI (ln (c + 1))) (e : M' = mc M (o2 + (c + 1)) 0 (o + (c + 1)) 0 n) : cpI o o2 X (c + 1) M' := by
  have hl : ln (c + 1) < 2 ^ 31 := by
    unfold ln
    split
    · omega
    · split <;> omega
  subst hn e
  refine ⟨fun a ha => ?_, fun d j h1 h2 hj => ?_⟩
  · rw [mc_c (by omega)]
    exact h.1 a ha
  · by_cases q : d = c + 1
    · subst q
      rw [mc_at hj hl, h.1 _ (by omega)]
    · rw [mc_c (by omega)]
      exact h.2 d j h1 (by omega) hj
theorem cpO {n m : Nat} (h : n ≤ m) (hn : n < 2 ^ 31) : cpOk 0 0 (nI n) m m := by
  unfold cpOk
  rw [nI_clamp hn, show (0 : Int32).toNatClampNeg = 0 from rfl]
  exact ⟨by decide, by decide, nI_pos hn, by omega, by omega⟩
theorem cx_in : ∀ i, i < 41 → 1 ≤ (cx i).1 ∧ (cx i).1 ≤ 9 ∧ (cx i).2 < ln (cx i).1 := by decide +kernel
theorem w_copy {X : Mem} {o o2 : Nat} {E : Es} {Q : Mem → Prop} (h : EX X o2 E) (hd : o + 10 ≤ o2 ∨ o2 + 10 ≤ o) (hq : ∀ X', EX X' o E → frX o X X' → Q X') : w_X0_copyFrom o o2 X Q := by
  have c0 : cpI o o2 X 0 X := ⟨frX.rf, fun d j h1 h2 => by omega⟩
  refine ⟨cpO (n := 6) (by omega) (by omega), fun M1 e1 => ⟨cpO (n := 6) (by omega) (by omega), fun M2 e2 => ⟨cpO (n := 5) (by omega) (by omega), fun M3 e3 => ⟨cpO (n := 5) (by omega) (by omega), fun M4 e4 => ⟨cpO (n := 5) (by omega) (by omega), fun M5 e5 => ⟨cpO (n := 5) (by omega) (by omega), fun M6 e6 => ⟨cpO (n := 3) (by omega) (by omega), fun M7 e7 => ⟨cpO (n := 3) (by omega) (by omega), fun M8 e8 => ⟨cpO (n := 3) (by omega) (by omega), fun M9 e9 => fun M10 e10 M11 e11 M12 e12 M13 e13 => ?_⟩⟩⟩⟩⟩⟩⟩⟩⟩
  have c9 := cpS (cpS (cpS (cpS (cpS (cpS (cpS (cpS (cpS c0 hd (by omega) rfl e1) hd (by omega) rfl e2) hd (by omega) rfl e3) hd (by omega) rfl e4) hd (by omega) rfl e5) hd (by omega) rfl e6) hd (by omega) rfl e7) hd (by omega) rfl e8) hd (by omega) rfl e9
  have f2 : ∀ k, M9 o2 k = X o2 k := fun k => by rw [c9.1 o2 (by omega)]
  have n2 : o2 ≠ o := by omega
  rw [f2] at e10
  rw [e10, mu_c n2, f2] at e11
  rw [e11, mu_c n2, mu_c n2, f2] at e12
  rw [e12, mu_c n2, mu_c n2, mu_c n2, f2] at e13
  refine hq M13 (fun i hi hok => ?_) (fun a ha => ?_)
  · by_cases q : i < 41
    · obtain ⟨a1, a2, a3⟩ := cx_in i q
      rw [e13, mu_c (by omega), mu_c (by omega), mu_c (by omega), mu_c (by omega), c9.2 _ _ a1 a2 a3]
      exact h i hi hok
    · have hh := h i hi hok
      rcases (show i = 41 ∨ i = 42 ∨ i = 43 ∨ i = 44 by omega) with rfl | rfl | rfl | rfl
      · rw [e13]
        show (mu (mu (mu (mu M9 o 9 (X o2 9)) o 10 (X o2 10)) o 11 (X o2 11)) o 12 (X o2 12)) (o + 0) 10 = nI (E 41)
        rw [mu_at, if_neg (by omega), mu_at, if_neg (by omega), mu_at, if_pos ⟨rfl, rfl⟩]
        exact hh
      · rw [e13]
        show (mu (mu (mu (mu M9 o 9 (X o2 9)) o 10 (X o2 10)) o 11 (X o2 11)) o 12 (X o2 12)) (o + 0) 11 = nI (E 42)
        rw [mu_at, if_neg (by omega), mu_at, if_pos ⟨rfl, rfl⟩]
        exact hh
      · rw [e13]
        show (mu (mu (mu (mu M9 o 9 (X o2 9)) o 10 (X o2 10)) o 11 (X o2 11)) o 12 (X o2 12)) (o + 0) 12 = nI (E 43)
        rw [mu_at, if_pos ⟨rfl, rfl⟩]
        exact hh
      · rw [e13]
        show (mu (mu (mu (mu M9 o 9 (X o2 9)) o 10 (X o2 10)) o 11 (X o2 11)) o 12 (X o2 12)) (o + 0) 9 = nI (E 44)
        rw [mu_at, if_neg (by omega), mu_at, if_neg (by omega), mu_at, if_neg (by omega), mu_at, if_pos ⟨rfl, rfl⟩]
        exact hh
  · rw [e13, mu_c (by omega), mu_c (by omega), mu_c (by omega), mu_c (by omega)]
    exact c9.1 a ha
theorem m_copies {M : Mem} {a b : Nat} {Q : Mem → Prop} (ha : a + 44 ≤ 264) (hb : b + 44 ≤ 264) (hd : a + 44 ≤ b ∨ b + 44 ≤ a) (hq : ∀ M', (∀ i, i < 44 → M' 1 (b + i) = M 1 (a + i)) → (∀ c, c ≠ 1 → M' c = M c) → (∀ j, j < b ∨ b + 44 ≤ j → M' 1 j = M 1 j) → Q M') : w_X8_copies (nI a) (nI b) M Q := by
  refine pk_loop (fun n i N => fu2 (w_X8_copies_2 (nI a) (nI b) Q) n (nI i) N) (fun k N => (∀ i, i < k → N 1 (b + i) = M 1 (a + i)) ∧ (∀ c, c ≠ 1 → N c = M c) ∧ (∀ j, j < b ∨ b + 44 ≤ j → N 1 j = M 1 j)) 44 0 M (by omega) ⟨fun i hi => by omega, fun _ _ => rfl, fun _ _ => rfl⟩ (fun n N h => ?_) (fun n k N hk h ih => ?_)
  · show w_X8_copies_2 (nI a) (nI b) Q (fu2 (w_X8_copies_2 (nI a) (nI b) Q) n) (nI 44) N
    generalize fu2 (w_X8_copies_2 (nI a) (nI b) Q) n = K
    exact pk_le 44 44 (fun _ => hq N h.1 h.2.1 h.2.2) (fun z => by omega)
  · show w_X8_copies_2 (nI a) (nI b) Q (fu2 (w_X8_copies_2 (nI a) (nI b) Q) n) (nI k) N
    generalize fu2 (w_X8_copies_2 (nI a) (nI b) Q) n = K at ih ⊢
    refine pk_le 44 k (fun z => by omega) (fun _ => ?_)
    rw [nI_add, nI_add, nI_clamp (by omega), nI_clamp (by omega)]
    refine ⟨vp_in_nI (by omega) (by omega), vp_in_nI (by omega) (by omega), fun N2 e => ?_⟩
    rw [nI_1]
    refine ih N2 ⟨fun i hi => ?_, fun c hc => ?_, fun j hj => ?_⟩
    · rw [e, mu_at]
      by_cases q : i = k
      · subst q
        rw [if_pos ⟨rfl, rfl⟩, h.2.2 _ (by omega)]
      · rw [if_neg (by omega)]
        exact h.1 i (by omega)
    · rw [e, mu_c hc]
      exact h.2.1 c hc
    · rw [e, mu_at, if_neg (by omega)]
      exact h.2.2 j hj
/-! nights under hazes -/
def hE (h : Nat → Bool) : Nat → Es → Es
  | 0, E => E
  | n + 1, E => nE (h n) (hE h n E)
def hT (h : Nat → Bool) : Nat → Es → Nat
  | 0, _ => 0
  | n + 1, E => hT h n E + nT (h n) (hE h n E)
def hC (h : Nat → Bool) : Nat → Es → Nat
  | 0, _ => 0
  | n + 1, E => hC h n E + nC (h n) (hE h n E)
def hB (h : Nat → Bool) : Nat → Es → Nat
  | 0, _ => 0
  | n + 1, E => hB h n E ||| nB (h n) (hE h n E)
def fst (F c g : Nat) : Nat := if c = 0 then F else if F = 0 then g + 1 else F
def hF (h : Nat → Bool) : Nat → Es → Nat
  | 0, _ => 0
  | n + 1, E => fst (hF h n E) (nC (h n) (hE h n E)) n
theorem hE_fix (h : Nat → Bool) (E : Es) (w : WF E) : ∀ n, E 42 + n ≤ 5000 → WF (hE h n E) ∧ hE h n E 44 = E 44 ∧ hE h n E 41 = E 41 ∧ hE h n E 42 = E 42 + n
  | 0, _ => ⟨w, rfl, rfl, rfl⟩
  | n + 1, q => by
    obtain ⟨a, b, c, d⟩ := hE_fix h E w n (by omega)
    obtain ⟨a2, b2, c2, d2⟩ := nE_fix (h n) (hE h n E) a (by omega)
    exact ⟨a2, b2.trans b, c2.trans c, d2.trans (by omega)⟩
theorem hT_le (h : Nat → Bool) (E : Es) (w : WF E) : ∀ n, E 42 + n ≤ 5000 → hT h n E ≤ 60 * n
  | 0, _ => Nat.le_refl _
  | n + 1, q => by
    have := hT_le h E w n (by omega)
    have := nT_le (h n) (hE h n E) (hE_fix h E w n (by omega)).1
    show hT h n E + nT (h n) (hE h n E) ≤ 60 * (n + 1)
    omega
theorem hC_le (h : Nat → Bool) (E : Es) (w : WF E) : ∀ n, E 42 + n ≤ 5000 → hC h n E ≤ 5 * n
  | 0, _ => Nat.le_refl _
  | n + 1, q => by
    have := hC_le h E w n (by omega)
    have := nC_le (h n) (hE h n E) (hE_fix h E w n (by omega)).1
    show hC h n E + nC (h n) (hE h n E) ≤ 5 * (n + 1)
    omega
theorem hB_lt (h : Nat → Bool) (E : Es) (w : WF E) : ∀ n, E 42 + n ≤ 5000 → hB h n E < 32
  | 0, _ => by show 0 < 32; omega
  | n + 1, q => by
    have a := hB_lt h E w n (by omega)
    have b := nB_lt (h n) (hE h n E) (hE_fix h E w n (by omega)).1
    exact Nat.or_lt_two_pow (n := 5) a b
theorem fst_le {F c g : Nat} (h : F ≤ g) : fst F c g ≤ g + 1 := by
  unfold fst
  split
  · omega
  · split <;> omega
theorem hF_le (h : Nat → Bool) (E : Es) : ∀ n, hF h n E ≤ n
  | 0 => Nat.le_refl _
  | n + 1 => fst_le (hF_le h E n)
theorem hF_0 (h : Nat → Bool) (E : Es) : ∀ n, hF h n E = 0 ↔ hC h n E = 0
  | 0 => ⟨fun _ => rfl, fun _ => rfl⟩
  | n + 1 => by
    have ih := hF_0 h E n
    show fst (hF h n E) (nC (h n) (hE h n E)) n = 0 ↔ hC h n E + nC (h n) (hE h n E) = 0
    unfold fst
    split
    · omega
    · split <;> omega
/-! the class's trial -/
def TX (X : Mem) (E : Es) (g T C B F : Nat) : Prop := EX X 12 E ∧ X 11 1 = nI g ∧ X 11 2 = nI T ∧ X 11 3 = nI C ∧ X 11 4 = nI B ∧ X 11 5 = nI F
def gX (X X' : Mem) : Prop := ∀ a, a < 11 ∨ 22 ≤ a → X' a = X a
theorem gX.rf {X : Mem} : gX X X := fun _ _ => rfl
theorem gX.tr {X Y Z : Mem} (h : gX X Y) (h2 : gX Y Z) : gX X Z := fun a ha => (h2 a ha).trans (h a ha)
theorem gX.mu {X Y : Mem} (h : gX X Y) {a k : Nat} {v : Int32} (h1 : 11 ≤ a) (h2 : a < 22) : gX X (mu Y a k v) := fun b hb => (mu_c (by omega)).trans (h b hb)
theorem gX.q {X Y : Mem} (h : gX X Y) : qX X Y := ⟨fun a ha => h a (by omega), fun a ha => h a (by omega)⟩
theorem gX.ex {X Y : Mem} {E : Es} (f : gX X Y) (h : EX X 1 E) : EX Y 1 E := h.cell (fun c hc => f _ (by omega))
theorem EX.mu11 {X : Mem} {E : Es} {k : Nat} {v : Int32} (h : EX X 12 E) : EX (mu X 11 k v) 12 E := h.cell (fun c hc => mu_c (by omega))
theorem w_begin {X : Mem} {E : Es} {Q : Mem → Prop} (h : EX X 1 E) (hq : ∀ X', TX X' E 0 0 0 0 0 → gX X X' → Q X') : w_X6_begin X Q := by
  refine w_copy h (by omega) (fun X2 h2 f2 => ?_)
  intro M3 e3 M4 e4 M5 e5 M6 e6 M7 e7
  refine hq M7 ⟨?_, ?_, ?_, ?_, ?_, ?_⟩ ?_
  · rw [e7, e6, e5, e4, e3]
    exact h2.mu11.mu11.mu11.mu11.mu11
  · rw [e7, e6, e5, e4, e3, mu_at, if_neg (by omega), mu_at, if_neg (by omega), mu_at, if_neg (by omega), mu_at, if_neg (by omega), mu_at, if_pos ⟨rfl, rfl⟩]
    rfl
  · rw [e7, e6, e5, e4, mu_at, if_neg (by omega), mu_at, if_neg (by omega), mu_at, if_neg (by omega), mu_at, if_pos ⟨rfl, rfl⟩]
    rfl
  · rw [e7, e6, e5, mu_at, if_neg (by omega), mu_at, if_neg (by omega), mu_at, if_pos ⟨rfl, rfl⟩]
    rfl
  · rw [e7, e6, mu_at, if_neg (by omega), mu_at, if_pos ⟨rfl, rfl⟩]
    rfl
  · rw [e7, mu_at, if_pos ⟨rfl, rfl⟩]
    rfl
  · rw [e7, e6, e5, e4, e3]
    have f : gX X X2 := fun a ha => f2 a (by omega)
    exact ((((f.mu (by omega) (by omega)).mu (by omega) (by omega)).mu (by omega) (by omega)).mu (by omega) (by omega)).mu (by omega) (by omega)
def bcn (x0 : Int32) : Int32 :=
  let v1 : Int32 := (((x0 - ((su x0 1) &&& 1431655765)) &&& 858993459) + ((su (x0 - ((su x0 1) &&& 1431655765)) 2) &&& 858993459))
  let v2 : Int32 := (((v1 + (su v1 4)) &&& 252645135) + (su ((v1 + (su v1 4)) &&& 252645135) 8))
  (v2 + (su v2 16)) &&& 63
theorem bcn_eq : ∀ b, b < 32 → bcn (nI b) = nI (pop b) := by decide +kernel
theorem w_bits {M : Mem} {b : Nat} {Q : Int32 → Prop} (hb : b < 32) (hq : Q (nI (pop b))) : w_J6_bitCount_0f7a4 (nI b) M Q := by
  intro v1 e1 v2 e2
  rw [← bcn_eq b hb] at hq
  subst e1 e2
  exact hq
theorem w_one {X : Mem} {E : Es} {g T C B F : Nat} {hz : Bool} {x : Int32} {Q : Mem → Prop} (h : TX X E g T C B F) (w : WF E) (h42 : E 42 < 5000) (hg : F < 2 ^ 31) (hx : x = 0 ↔ hz = false) (hq : ∀ X', TX X' (nE hz E) (g + 1) (T + nT hz E) (C + nC hz E) (B ||| nB hz E) (fst F (nC hz E) g) → gX X X' → Q X') : w_X6_passOne x X Q := by
  obtain ⟨h0, h1, h2, h3, h4, h5⟩ := h
  have hb := nB_lt hz E w
  refine w_night h0 w hx h42 (fun X2 a2 f2 b2 => ?_)
  intro M3 e3 M4 e4
  have c2 : X2 11 = X 11 := f2 11 (by omega)
  have d3 : M3 11 1 = nI g := by rw [e3, mu_at, if_neg (by omega), c2, h1]
  have b4 : M4 12 13 = nI (nB hz E) := by rw [e4, e3, mu_c (by omega), mu_c (by omega), b2]
  rw [b4]
  refine w_bits hb ?_
  rw [nB_pop hz E w]
  intro M6 e6 M7 e7
  rw [h2, nI_add] at e3
  rw [d3, nI_1] at e4
  have d4 : M4 11 3 = nI C := by rw [e4, e3, mu_at, if_neg (by omega), mu_at, if_neg (by omega), c2, h3]
  rw [d4, nI_add] at e6
  have d6 : M6 11 4 = nI B := by rw [e6, e4, e3, mu_at, if_neg (by omega), mu_at, if_neg (by omega), mu_at, if_neg (by omega), c2, h4]
  rw [d6, nI_or] at e7
  have d7 : M7 11 5 = nI F := by rw [e7, e6, e4, e3, mu_at, if_neg (by omega), mu_at, if_neg (by omega), mu_at, if_neg (by omega), mu_at, if_neg (by omega), c2, h5]
  have g7 : M7 11 1 = nI (g + 1) := by rw [e7, e6, e4, mu_at, if_neg (by omega), mu_at, if_neg (by omega), mu_at, if_pos ⟨rfl, rfl⟩]
  have t7 : M7 11 2 = nI (T + nT hz E) := by rw [e7, e6, e4, e3, mu_at, if_neg (by omega), mu_at, if_neg (by omega), mu_at, if_neg (by omega), mu_at, if_pos ⟨rfl, rfl⟩]
  have s7 : M7 11 3 = nI (C + nC hz E) := by rw [e7, e6, mu_at, if_neg (by omega), mu_at, if_pos ⟨rfl, rfl⟩]
  have u7 : M7 11 4 = nI (B ||| nB hz E) := by rw [e7, mu_at, if_pos ⟨rfl, rfl⟩]
  have x7 : EX M7 12 (nE hz E) := by
    rw [e7, e6, e4, e3]
    exact a2.mu11.mu11.mu11.mu11
  have f7 : gX X M7 := by
    rw [e7, e6, e4, e3]
    have f : gX X X2 := fun a ha => f2 a (by omega)
    exact (((f.mu (by omega) (by omega)).mu (by omega) (by omega)).mu (by omega) (by omega)).mu (by omega) (by omega)
  have n0 := nB_0 hz E w
  refine pk_eq (nB hz E) 0 (fun z => ?_) (fun z => ?_)
  · refine hq M7 ⟨x7, g7, t7, s7, u7, ?_⟩ f7
    unfold fst
    rw [if_pos (n0.mp z), d7]
  · rw [d7]
    refine pk_eq F 0 (fun y => ?_) (fun y => ?_)
    · intro M10 e10
      rw [g7] at e10
      refine hq M10 ⟨?_, ?_, ?_, ?_, ?_, ?_⟩ ?_
      · rw [e10]
        exact x7.mu11
      · rw [e10, mu_at, if_neg (by omega), g7]
      · rw [e10, mu_at, if_neg (by omega), t7]
      · rw [e10, mu_at, if_neg (by omega), s7]
      · rw [e10, mu_at, if_neg (by omega), u7]
      · unfold fst
        rw [if_neg (fun q => z (n0.mpr q)), if_pos y, e10, mu_at, if_pos ⟨rfl, rfl⟩]
      · rw [e10]
        exact f7.mu (by omega) (by omega)
    · refine hq M7 ⟨x7, g7, t7, s7, u7, ?_⟩ f7
      unfold fst
      rw [if_neg (fun q => z (n0.mpr q)), if_neg y, d7]
def TXn (X : Mem) (h : Nat → Bool) (n : Nat) (E : Es) : Prop := TX X (hE h n E) n (hT h n E) (hC h n E) (hB h n E) (hF h n E)
theorem w_step {X : Mem} {E : Es} {h : Nat → Bool} {n : Nat} {x : Int32} {Q : Mem → Prop} (t : TXn X h n E) (w : WF E) (h42 : E 42 + n < 5000) (hx : x = 0 ↔ h n = false) (hq : ∀ X', TXn X' h (n + 1) E → gX X X' → Q X') : w_X6_passOne x X Q := by
  obtain ⟨a, b, c, d⟩ := hE_fix h E w n (by omega)
  have := hF_le h E n
  exact w_one t a (by omega) (by omega) hx hq
def no : Nat → Bool := fun _ => false
theorem w_pass {X : Mem} {E : Es} {n : Nat} {Q : Mem → Prop} (t : TX X E 0 0 0 0 0) (w : WF E) (hn : n ≤ 60) (h42 : E 42 + n < 5000) (hq : ∀ X', TXn X' no n E → gX X X' → Q X') : w_X6_pass (nI n) X Q := by
  refine pk_loop (fun m i N => fu2 (w_X6_pass_2 (nI n) Q) m (nI i) N) (fun i N => TXn N no i E ∧ gX X N) n 0 X (by omega) ⟨t, gX.rf⟩ (fun m N h => ?_) (fun m i N hi h ih => ?_)
  · show w_X6_pass_2 (nI n) Q (fu2 (w_X6_pass_2 (nI n) Q) m) (nI n) N
    generalize fu2 (w_X6_pass_2 (nI n) Q) m = K
    exact pk_le n n (fun _ => hq N h.1 h.2) (fun z => by omega)
  · show w_X6_pass_2 (nI n) Q (fu2 (w_X6_pass_2 (nI n) Q) m) (nI i) N
    generalize fu2 (w_X6_pass_2 (nI n) Q) m = K at ih ⊢
    refine pk_le n i (fun z => by omega) (fun _ => ?_)
    refine w_step h.1 w (by omega) ⟨fun _ => rfl, fun _ => rfl⟩ (fun N2 t2 g2 => ?_)
    rw [nI_1]
    exact ih N2 ⟨t2, h.2.tr g2⟩
