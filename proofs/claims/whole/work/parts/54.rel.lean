/-! ranges; the relation of the two memories -/
theorem dR (x : Int32) (a b : Nat) : (∃ n, a ≤ n ∧ n ≤ b ∧ x = nI n) ∨ (∀ n, a ≤ n → n ≤ b → x ≠ nI n) := by
  by_cases h : ∃ n, a ≤ n ∧ n ≤ b ∧ x = nI n
  · exact Or.inl h
  · exact Or.inr (fun n h1 h2 e => h ⟨n, h1, h2, e⟩)
theorem dT (x : Int32) (T : Nat) : (∃ n, n < T ∧ x = nI n) ∨ (∀ n, n < T → x ≠ nI n) := by
  by_cases h : ∃ n, n < T ∧ x = nI n
  · exact Or.inl h
  · exact Or.inr (fun n h1 e => h ⟨n, h1, e⟩)
theorem i32_le {x y : Int32} : x ≤ y ↔ x.toInt ≤ y.toInt := Int32.le_iff_toInt_le
theorem i32_lt {x y : Int32} : x < y ↔ x.toInt < y.toInt := Int32.lt_iff_toInt_lt
theorem rgI {x : Int32} {a b : Nat} (ha : a < 2 ^ 31) (hb : b < 2 ^ 31) : (¬ x < nI a ∧ x ≤ nI b) ↔ ∃ n, a ≤ n ∧ n ≤ b ∧ x = nI n := by
  constructor
  · rintro ⟨h1, h2⟩
    have h0 : ¬ x < 0 := by
      rw [i32_lt]
      rw [i32_lt, nI_toInt ha] at h1
      show ¬ x.toInt < 0
      omega
    obtain ⟨j, hj, rfl⟩ := nI_of h0
    rw [i32_lt, nI_toInt ha, nI_toInt hj] at h1
    rw [i32_le, nI_toInt hb, nI_toInt hj] at h2
    exact ⟨j, by omega, by omega, rfl⟩
  · rintro ⟨n, h1, h2, rfl⟩
    exact ⟨nI_nlt h1 (by omega), nI_le h2 hb⟩
theorem rgT {x : Int32} {T : Nat} (hT : T < 2 ^ 30) : (¬ x < 0 ∧ x ≤ nI T - 1) ↔ ∃ n, n < T ∧ x = nI n := by
  constructor
  · rintro ⟨h1, h2⟩
    obtain ⟨j, hj, rfl⟩ := nI_of h1
    rw [i32_le, show nI T - 1 = nI T - nI 1 from rfl, sub_toInt hT (by omega), nI_toInt hj] at h2
    exact ⟨j, by omega, rfl⟩
  · rintro ⟨n, h1, rfl⟩
    refine ⟨nI_pos (by omega), ?_⟩
    rw [i32_le, show nI T - 1 = nI T - nI 1 from rfl, sub_toInt hT (by omega), nI_toInt (by omega)]
    omega
theorem nb0 : narrow .boolean (.int 0) = .int 0 := by decide
theorem nb1 : narrow .boolean (.int 1) = .int 1 := by decide
theorem c_io {x a b : Int32} {M : Mem} {Q : Int32 → Prop} (h : ((¬ x < a ∧ x ≤ b) → Q 0) ∧ (¬ (¬ x < a ∧ x ≤ b) → Q 1)) : w_X7_isOutside x a b M Q := by
  unfold w_X7_isOutside
  by_cases h1 : x < a
  · rw [if_pos h1]
    exact ⟨nb1, h.2 (fun q => q.1 h1)⟩
  · rw [if_neg h1]
    by_cases h2 : x ≤ b
    · rw [if_pos h2]
      exact ⟨nb0, h.1 ⟨h1, h2⟩⟩
    · rw [if_neg h2]
      exact ⟨nb1, h.2 (fun q => h2 q.2)⟩
theorem c_io1 {n a b : Nat} {M : Mem} {Q : Int32 → Prop} (h1 : a ≤ n) (h2 : n ≤ b) (hb : b < 2 ^ 31) (q : Q 0) : w_X7_isOutside (nI n) (nI a) (nI b) M Q :=
  c_io ⟨fun _ => q, fun z => absurd ((rgI (by omega) hb).mpr ⟨n, h1, h2, rfl⟩) z⟩
theorem c_io0 {x : Int32} {a b : Nat} {M : Mem} {Q : Int32 → Prop} (h : ∀ n, a ≤ n → n ≤ b → x ≠ nI n) (ha : a < 2 ^ 31) (hb : b < 2 ^ 31) (q : Q 1) : w_X7_isOutside x (nI a) (nI b) M Q :=
  c_io ⟨fun z => by
    obtain ⟨n, h1, h2, e⟩ := (rgI ha hb).mp z
    exact absurd e (h n h1 h2), fun _ => q⟩
theorem c_T1 {t T : Nat} {M : Mem} {Q : Int32 → Prop} (h1 : t < T) (hT : T < 2 ^ 30) (q : Q 0) : w_X7_isOutside (nI t) 0 (nI T - 1) M Q :=
  c_io ⟨fun _ => q, fun z => absurd ((rgT hT).mpr ⟨t, h1, rfl⟩) z⟩
theorem c_T0 {x : Int32} {T : Nat} {M : Mem} {Q : Int32 → Prop} (h : ∀ n, n < T → x ≠ nI n) (hT : T < 2 ^ 30) (q : Q 1) : w_X7_isOutside x 0 (nI T - 1) M Q :=
  c_io ⟨fun z => by
    obtain ⟨n, h1, e⟩ := (rgT hT).mp z
    exact absurd e (h n h1), fun _ => q⟩
theorem lgc {x y : Int64} : lg_cmp x y < 0 ↔ x < y := by
  unfold lg_cmp
  split
  · next h => exact ⟨fun z => absurd z (by decide), fun z => absurd (Int64.lt_trans h z) (Int64.lt_irrefl)⟩
  · next h =>
    split
    · next h2 => exact ⟨fun z => absurd z (by decide), fun z => by rw [h2] at z; exact absurd z Int64.lt_irrefl⟩
    · next h2 => exact ⟨fun _ => Int64.lt_of_le_of_ne (Int64.not_lt.mp h) h2, fun _ => by decide⟩
theorem lgc2 {x y : Int64} : 0 < lg_cmp x y ↔ y < x := by
  unfold lg_cmp
  split
  · next h => exact ⟨fun _ => h, fun _ => by decide⟩
  · next h =>
    split
    · exact ⟨fun z => absurd z (by decide), fun z => absurd z h⟩
    · exact ⟨fun z => absurd z (by decide), fun z => absurd z h⟩
theorem i64_lt {x y : Int32} : x.toInt64 < y.toInt64 ↔ x < y := by
  rw [Int64.lt_iff_toInt_lt, Int32.toInt_toInt64, Int32.toInt_toInt64, Int32.lt_iff_toInt_lt]
theorem m_in {x a b : Int32} {M : Mem} {Q : Int32 → Prop} (h : ((¬ x < a ∧ x ≤ b) → Q 1) ∧ (¬ (¬ x < a ∧ x ≤ b) → Q 0)) : w_X8_in x.toInt64 a.toInt64 b.toInt64 M Q := by
  unfold w_X8_in
  by_cases h1 : x < a
  · rw [if_pos (lgc.mpr (i64_lt.mpr h1))]
    exact ⟨nb0, h.2 (fun q => q.1 h1)⟩
  · rw [if_neg (fun z => h1 (i64_lt.mp (lgc.mp z)))]
    by_cases h2 : x ≤ b
    · rw [if_neg (fun z => absurd (i64_lt.mp (lgc2.mp z)) (Int32.not_lt.mpr h2))]
      exact ⟨nb1, h.1 ⟨h1, h2⟩⟩
    · rw [if_pos (lgc2.mpr (i64_lt.mpr (Int32.not_le.mp h2)))]
      exact ⟨nb0, h.2 (fun q => h2 q.2)⟩
theorem m_in1 {n a b : Nat} {y z : Int64} {M : Mem} {Q : Int32 → Prop} (h1 : a ≤ n) (h2 : n ≤ b) (hb : b < 2 ^ 31) (q : Q 1) (hy : (nI a).toInt64 = y := by rfl) (hz : (nI b).toInt64 = z := by rfl) : w_X8_in (nI n).toInt64 y z M Q := by
  rw [← hy, ← hz]
  exact m_in ⟨fun _ => q, fun z => absurd ((rgI (by omega) hb).mpr ⟨n, h1, h2, rfl⟩) z⟩
theorem m_in0 {x : Int32} {a b : Nat} {y z : Int64} {M : Mem} {Q : Int32 → Prop} (h : ∀ n, a ≤ n → n ≤ b → x ≠ nI n) (ha : a < 2 ^ 31) (hb : b < 2 ^ 31) (q : Q 0) (hy : (nI a).toInt64 = y := by rfl) (hz : (nI b).toInt64 = z := by rfl) : w_X8_in x.toInt64 y z M Q := by
  rw [← hy, ← hz]
  exact m_in ⟨fun z => by
    obtain ⟨n, h1, h2, e⟩ := (rgI ha hb).mp z
    exact absurd e (h n h1 h2), fun _ => q⟩
theorem m_T1 {t T : Nat} {M : Mem} {Q : Int32 → Prop} (h1 : t < T) (hT : T < 2 ^ 30) (q : Q 1) : w_X8_in (nI t).toInt64 0 (nI T - 1).toInt64 M Q :=
  m_in (a := 0) ⟨fun _ => q, fun z => absurd ((rgT hT).mpr ⟨t, h1, rfl⟩) z⟩
theorem m_T0 {x : Int32} {T : Nat} {M : Mem} {Q : Int32 → Prop} (h : ∀ n, n < T → x ≠ nI n) (hT : T < 2 ^ 30) (q : Q 0) : w_X8_in x.toInt64 0 (nI T - 1).toInt64 M Q :=
  m_in (a := 0) ⟨fun z => by
    obtain ⟨n, h1, e⟩ := (rgT hT).mp z
    exact absurd e (h n h1), fun _ => q⟩
/-- the two memories -/
def RN (X M : Mem) (E : Es) : Prop := WF E ∧ E 42 ≤ 999 ∧ EX X 1 E ∧ PM M 0 E ∧ M 0 1 = nI (E 44)
def RI (X M : Mem) (n : Nat) : Prop := ∀ k, k < 2 → X 38 k = M 8 k ∧ (M 8 k = 0 ∨ (M 8 k = 1 ∧ ∃ E : Es, WF E ∧ E 44 = n ∧ E 42 ≤ 999 ∧ EX X (imgI k) E ∧ PM M (44 * (k + 1)) E))
def RT (X M : Mem) : Prop := ∃ n, n ≤ 160 ∧ X 22 1 = nI n ∧ M 0 6 = nI n ∧ ∀ j, j < n → ∃ b, b ≤ 127 ∧ X 23 j = nI b ∧ M 3 j = nI b
def RV (X M : Mem) : Prop := ∃ n, n ≤ 6 ∧ X 25 3 = nI n ∧ M 0 21 = nI n ∧ ∀ j, j < n → ∃ a g v, a ≤ 20 ∧ g < 6 ∧ v ≤ 60 ∧ (X 26 j = nI a ∧ M 6 (3 * j) = nI a) ∧ (X 27 j = nI g ∧ M 6 (3 * j + 1) = nI g) ∧ (X 28 j = nI v ∧ M 6 (3 * j + 2) = nI v)
def RH (X M : Mem) : Prop := ∀ k, k < 4 → (X (shI k) 2 = -1 ∧ M 9 k = -4) ∨ (∃ l n, l < 3 ∧ n ≤ 40 ∧ (X (shI k) 2 = nI l ∧ M 9 k = nI l) ∧ (X (shI k) 1 = nI n ∧ M 10 k = nI n) ∧ ∀ j, j < 40 → X (shI k + 1) j = M 11 (40 * k + j))
def RF (X M : Mem) : Prop := X 0 9 = M 0 7 ∧ X 0 10 = M 0 27
def RLt (M : Mem) : Prop := M 4 = mm8 4 ∧ M 5 = mm8 5
def RR (X M : Mem) (n : Nat) : Prop := RI X M n ∧ RT X M ∧ RV X M ∧ RH X M ∧ RF X M ∧ RLt M
def Rel0 (X M : Mem) : Prop := ∃ E, RN X M E ∧ RR X M (E 44)
/-- what a call leaves of the rest -/
def fX (X X' : Mem) : Prop := ∀ a, a = 0 ∨ (22 ≤ a ∧ a < 29 ∧ a ≠ 24) ∨ 37 ≤ a → X' a = X a
def fM (M M' : Mem) : Prop := (∀ a, a ≠ 0 → a ≠ 1 → a ≠ 7 → M' a = M a) ∧ (∀ j, 44 ≤ j → j < 132 → M' 1 j = M 1 j) ∧ (∀ k, k ≠ 16 → k ≠ 17 → k ≠ 18 → k ≠ 19 → M' 0 k = M 0 k)
theorem fX.rf {X : Mem} : fX X X := fun _ _ => rfl
theorem fX.tr {X Y Z : Mem} (h : fX X Y) (h2 : fX Y Z) : fX X Z := fun a ha => (h2 a ha).trans (h a ha)
theorem fM.rf {M : Mem} : fM M M := ⟨fun _ _ _ _ => rfl, fun _ _ _ => rfl, fun _ _ _ _ _ => rfl⟩
theorem fM.tr {M N K : Mem} (h : fM M N) (h2 : fM N K) : fM M K := ⟨fun a h0 h1 h7 => (h2.1 a h0 h1 h7).trans (h.1 a h0 h1 h7), fun j hj hk => (h2.2.1 j hj hk).trans (h.2.1 j hj hk), fun k a b c d => (h2.2.2 k a b c d).trans (h.2.2 k a b c d)⟩
theorem RI.cg {X M X' M' : Mem} {n : Nat} (h : RI X M n) (h38 : X' 38 = X 38) (hX : ∀ a, 40 ≤ a → a < 60 → X' a = X a) (h8 : M' 8 = M 8) (h1 : ∀ j, 44 ≤ j → j < 132 → M' 1 j = M 1 j) : RI X' M' n := by
  intro k hk
  rw [h38, h8]
  obtain ⟨a, b⟩ := h k hk
  refine ⟨a, ?_⟩
  rcases b with b | ⟨b, E, w, e, g, x, m⟩
  · exact Or.inl b
  · refine Or.inr ⟨b, E, w, e, g, x.cell (fun c hc => hX _ ?_ ?_), fun i hi hok => ?_⟩
    · unfold imgI
      omega
    · unfold imgI
      omega
    · rw [h1 _ (by omega) (by omega)]
      exact m i hi hok
theorem RT.cg {X M X' M' : Mem} (h : RT X M) (h1 : X' 22 1 = X 22 1) (h2 : X' 23 = X 23) (h3 : M' 0 6 = M 0 6) (h4 : M' 3 = M 3) : RT X' M' := by
  unfold RT
  rw [h1, h2, h3, h4]
  exact h
theorem RV.cg {X M X' M' : Mem} (h : RV X M) (h1 : X' 25 3 = X 25 3) (h2 : X' 26 = X 26) (h3 : X' 27 = X 27) (h4 : X' 28 = X 28) (h5 : M' 0 21 = M 0 21) (h6 : M' 6 = M 6) : RV X' M' := by
  unfold RV
  rw [h1, h2, h3, h4, h5, h6]
  exact h
theorem RH.cg {X M X' M' : Mem} (h : RH X M) (h1 : ∀ a, 60 ≤ a → X' a = X a) (h2 : M' 9 = M 9) (h3 : M' 10 = M 10) (h4 : M' 11 = M 11) : RH X' M' := by
  intro k hk
  rw [h1 (shI k) (by unfold shI; omega), h1 (shI k + 1) (by unfold shI; omega), h2, h3, h4]
  exact h k hk
theorem RR.fr {X M X' M' : Mem} {n : Nat} (h : RR X M n) (f : fX X X') (g : fM M M') : RR X' M' n := by
  obtain ⟨a, b, c, d, e, i⟩ := h
  refine ⟨a.cg (f 38 (by omega)) (fun a h1 _ => f a (by omega)) (g.1 8 (by omega) (by omega) (by omega)) g.2.1, b.cg (by rw [f 22 (by omega)]) (f 23 (by omega)) (g.2.2 6 (by omega) (by omega) (by omega) (by omega)) (g.1 3 (by omega) (by omega) (by omega)), c.cg (by rw [f 25 (by omega)]) (f 26 (by omega)) (f 27 (by omega)) (f 28 (by omega)) (g.2.2 21 (by omega) (by omega) (by omega) (by omega)) (g.1 6 (by omega) (by omega) (by omega)), d.cg (fun a h1 => f a (by omega)) (g.1 9 (by omega) (by omega) (by omega)) (g.1 10 (by omega) (by omega) (by omega)) (g.1 11 (by omega) (by omega) (by omega)), ⟨?_, ?_⟩, ⟨?_, ?_⟩⟩
  · rw [f 0 (by omega), g.2.2 7 (by omega) (by omega) (by omega) (by omega)]
    exact e.1
  · rw [f 0 (by omega), g.2.2 27 (by omega) (by omega) (by omega) (by omega)]
    exact e.2
  · rw [g.1 4 (by omega) (by omega) (by omega)]
    exact i.1
  · rw [g.1 5 (by omega) (by omega) (by omega)]
    exact i.2
/-- a question: what there is stays -/
def qX (X X' : Mem) : Prop := fX X X' ∧ ∀ a, a < 11 → X' a = X a
def qM (M M' : Mem) : Prop := fM M M' ∧ ∀ j, j < 44 → M' 1 j = M 1 j
theorem qX.rf {X : Mem} : qX X X := ⟨fX.rf, fun _ _ => rfl⟩
theorem qM.rf {X : Mem} : qM X X := ⟨fM.rf, fun _ _ => rfl⟩
theorem qX.tr {X Y Z : Mem} (h : qX X Y) (h2 : qX Y Z) : qX X Z := ⟨h.1.tr h2.1, fun a ha => (h2.2 a ha).trans (h.2 a ha)⟩
theorem qM.tr {X Y Z : Mem} (h : qM X Y) (h2 : qM Y Z) : qM X Z := ⟨h.1.tr h2.1, fun a ha => (h2.2 a ha).trans (h.2 a ha)⟩
theorem qX.ex {X Y : Mem} {E : Es} (f : qX X Y) (h : EX X 1 E) : EX Y 1 E := h.cell (fun c hc => f.2 _ (by omega))
theorem qM.pm {M N : Mem} {E : Es} (f : qM M N) (h : PM M 0 E) : PM N 0 E := fun i hi hok => by
  rw [f.2 _ (by omega)]
  exact h i hi hok
theorem qM.tk {M N : Mem} (f : qM M N) : N 0 1 = M 0 1 := f.1.2.2 1 (by omega) (by omega) (by omega) (by omega)
theorem RN.q {X M X' M' : Mem} {E : Es} (h : RN X M E) (f : qX X X') (g : qM M M') : RN X' M' E := ⟨h.1, h.2.1, f.ex h.2.2.1, g.pm h.2.2.2.1, by rw [g.tk]; exact h.2.2.2.2⟩
theorem Rel0.q {X M X' M' : Mem} {E : Es} (h : RN X M E) (r : RR X M (E 44)) (f : qX X X') (g : qM M M') : Rel0 X' M' := ⟨E, h.q f g, r.fr f.1 g.1⟩
theorem Rel0.n {X M X' M' : Mem} {E E' : Es} (r : RR X M (E 44)) (h : RN X' M' E') (e : E' 44 = E 44) (f : fX X X') (g : fM M M') : Rel0 X' M' := ⟨E', h, by rw [e]; exact r.fr f g⟩
