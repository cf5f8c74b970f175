/-! the greatest divisor of both, on both sides -/
theorem lg0 {y : Int64} : lg_cmp y 0 = 0 ↔ y = 0 := by
  unfold lg_cmp
  split
  · next h => exact ⟨fun z => absurd z (by decide), fun z => by rw [z] at h; exact absurd h Int64.lt_irrefl⟩
  · next h =>
    split
    · next h2 => exact ⟨fun _ => h2, fun _ => rfl⟩
    · next h2 => exact ⟨fun z => absurd z (by decide), fun z => absurd z h2⟩
theorem lgle {y : Int64} : lg_cmp y 0 ≤ 0 ↔ ¬ 0 < y := by
  constructor
  · intro h z
    exact absurd (lgc2.mpr z) (Int32.not_lt.mpr h)
  · intro h
    exact Int32.not_lt.mp (fun z => h (lgc2.mp z))
theorem lN0 {n : Nat} (h : n < 2 ^ 63) : lN n = 0 ↔ n = 0 := pk_lEQ (b := 0) h (by omega)
theorem eu_half {a b : Nat} (h : 0 < b) (hr : 0 < a % b) : 2 * (b % (a % b)) < b := by
  have h1 := Nat.mod_lt a h
  have h2 := Nat.mod_lt b hr
  have h3 := Nat.div_add_mod b (a % b)
  have h4 : 1 ≤ b / (a % b) := Nat.div_pos (by omega) hr
  have h5 : a % b * 1 ≤ a % b * (b / (a % b)) := Nat.mul_le_mul_left _ h4
  omega
theorem w_gcd {M : Mem} {Q : Int64 → Prop} : ∀ (k a b x : Nat), b < 2 ^ k → k ≤ 40 → a < 2 ^ 62 → x + 2 * k + 1 ≤ 100 → w_X7_commonDivisor_44 (lN (Nat.gcd a b)) M Q → fu3 (w_X7_commonDivisor_9 M Q) (2 * k + 1) (lN a) (lN b) (nI x)
  | 0, a, b, x, hb, _, ha, hx, q => by
    have : b = 0 := by omega
    subst this
    rw [Nat.gcd_zero_right] at q
    exact pk_le 100 x (fun z => by omega) (fun _ => ⟨fun _ => q, fun z => absurd (lg0.mpr rfl) z⟩)
  | k + 1, a, b, x, hb, hk, ha, hx, q => by
    have hb2 : b < 2 ^ 41 := Nat.lt_of_lt_of_le hb (Nat.pow_le_pow_right (by omega) (by omega))
    rw [show 2 * (k + 1) + 1 = (2 * k + 1) + 1 + 1 by omega]
    show w_X7_commonDivisor_9 M Q (fu3 (w_X7_commonDivisor_9 M Q) (2 * k + 1 + 1)) (lN a) (lN b) (nI x)
    refine pk_le 100 x (fun z => by omega) (fun _ => ?_)
    by_cases z : b = 0
    · subst z
      rw [Nat.gcd_zero_right] at q
      exact ⟨fun _ => q, fun z => absurd (lg0.mpr rfl) z⟩
    · have nz : ¬ lN b = 0 := fun e => z ((lN0 (by omega)).mp e)
      refine ⟨fun e => absurd (lg0.mp e) nz, fun _ => ⟨nz, ?_⟩⟩
      rw [show lrm (lN a) (lN b) = lN (a % b) from pk_lRem (by omega) (by omega) (by omega), nI_1]
      have hm := Nat.mod_lt a (show 0 < b by omega)
      have qg : Nat.gcd a b = Nat.gcd b (a % b) := by rw [Nat.gcd_comm b, Nat.gcd_comm a]; exact Nat.gcd_rec b a
      rw [qg] at q
      show w_X7_commonDivisor_9 M Q (fu3 (w_X7_commonDivisor_9 M Q) (2 * k + 1)) (lN b) (lN (a % b)) (nI (x + 1))
      refine pk_le 100 (x + 1) (fun z => by omega) (fun _ => ?_)
      by_cases y : a % b = 0
      · rw [y, Nat.gcd_zero_right] at q
        rw [y]
        exact ⟨fun _ => q, fun z => absurd (lg0.mpr rfl) z⟩
      · have ny : ¬ lN (a % b) = 0 := fun e => y ((lN0 (by omega)).mp e)
        refine ⟨fun e => absurd (lg0.mp e) ny, fun _ => ⟨ny, ?_⟩⟩
        rw [show lrm (lN b) (lN (a % b)) = lN (b % (a % b)) from pk_lRem (by omega) (by omega) (by omega), nI_1]
        have hh := eu_half (a := a) (b := b) (by omega) (by omega)
        have qg2 : Nat.gcd b (a % b) = Nat.gcd (a % b) (b % (a % b)) := by rw [Nat.gcd_comm (a % b), Nat.gcd_comm b]; exact Nat.gcd_rec (a % b) b
        rw [qg2] at q
        rw [Nat.pow_succ] at hb
        exact w_gcd k (a % b) (b % (a % b)) (x + 1 + 1) (by omega) (by omega) (by omega) (by omega) q
theorem m_gcd {M : Mem} {y0 y2 : Int64} {x4 : Int32} {Q : Int64 → Prop} : ∀ (k a b : Nat), b < 2 ^ k → k ≤ 40 → a < 2 ^ 62 → w_X8_lowest_31 y0 y2 x4 (lN (Nat.gcd a b)) M Q → fu2 (w_X8_lowest_6 y0 y2 x4 M Q) (2 * k + 1) (lN a) (lN b)
  | 0, a, b, hb, _, ha, q => by
    have : b = 0 := by omega
    subst this
    rw [Nat.gcd_zero_right] at q
    exact ⟨fun _ => q, fun z => absurd (lg0.mpr rfl) z⟩
  | k + 1, a, b, hb, hk, ha, q => by
    have hb2 : b < 2 ^ 41 := Nat.lt_of_lt_of_le hb (Nat.pow_le_pow_right (by omega) (by omega))
    rw [show 2 * (k + 1) + 1 = (2 * k + 1) + 1 + 1 by omega]
    show w_X8_lowest_6 y0 y2 x4 M Q (fu2 (w_X8_lowest_6 y0 y2 x4 M Q) (2 * k + 1 + 1)) (lN a) (lN b)
    by_cases z : b = 0
    · subst z
      rw [Nat.gcd_zero_right] at q
      exact ⟨fun _ => q, fun z => absurd (lg0.mpr rfl) z⟩
    · have nz : ¬ lN b = 0 := fun e => z ((lN0 (by omega)).mp e)
      refine ⟨fun e => absurd (lg0.mp e) nz, fun _ => ⟨nz, ?_⟩⟩
      rw [show lrm (lN a) (lN b) = lN (a % b) from pk_lRem (by omega) (by omega) (by omega)]
      have hm := Nat.mod_lt a (show 0 < b by omega)
      have qg : Nat.gcd a b = Nat.gcd b (a % b) := by rw [Nat.gcd_comm b, Nat.gcd_comm a]; exact Nat.gcd_rec b a
      rw [qg] at q
      show w_X8_lowest_6 y0 y2 x4 M Q (fu2 (w_X8_lowest_6 y0 y2 x4 M Q) (2 * k + 1)) (lN b) (lN (a % b))
      by_cases y : a % b = 0
      · rw [y, Nat.gcd_zero_right] at q
        rw [y]
        exact ⟨fun _ => q, fun z => absurd (lg0.mpr rfl) z⟩
      · have ny : ¬ lN (a % b) = 0 := fun e => y ((lN0 (by omega)).mp e)
        refine ⟨fun e => absurd (lg0.mp e) ny, fun _ => ⟨ny, ?_⟩⟩
        rw [show lrm (lN b) (lN (a % b)) = lN (b % (a % b)) from pk_lRem (by omega) (by omega) (by omega)]
        have hh := eu_half (a := a) (b := b) (by omega) (by omega)
        have qg2 : Nat.gcd b (a % b) = Nat.gcd (a % b) (b % (a % b)) := by rw [Nat.gcd_comm (a % b), Nat.gcd_comm b]; exact Nat.gcd_rec (a % b) b
        rw [qg2] at q
        rw [Nat.pow_succ] at hb
        exact m_gcd k (a % b) (b % (a % b)) (by omega) (by omega) (by omega) q
/-- a part of a fraction in lowest terms -/
def frV (a b k : Nat) : Int64 := if k = 0 then lN (a / Nat.gcd a b) else lN (b / Nat.gcd a b)
theorem w_frac {M : Mem} {a b k : Nat} {Q : Int64 → Prop} (ha : a < 2 ^ 62) (hb : 0 < b) (hb2 : b < 2 ^ 40) (q : Q (frV a b k)) (hk : k ≤ 1) : w_X7_partOfFraction (lN a) (lN b) (nI k) M Q := by
  have gp := Nat.gcd_pos_of_pos_right a hb
  have gl := Nat.gcd_le_right a hb
  refine ⟨81, w_gcd 40 a b 0 hb2 (by omega) ha (by omega) ?_⟩
  unfold w_X7_commonDivisor_44
  rw [if_neg (fun z => absurd (lgle.mp z) (fun w => w ((pk_lLT (a := 0) (by omega) (by omega)).mpr gp)))]
  have nz : ¬ lN (Nat.gcd a b) = 0 := fun e => by have := (lN0 (by omega)).mp e; omega
  show (nI k = 0 → ¬ lN (Nat.gcd a b) = 0 ∧ Q (lN a / lN (Nat.gcd a b))) ∧ (¬ nI k = 0 → ¬ lN (Nat.gcd a b) = 0 ∧ Q (lN b / lN (Nat.gcd a b)))
  rw [pk_lDiv (by omega) gp (by omega), pk_lDiv (by omega) gp (by omega)]
  unfold frV at q
  refine pk_eq k 0 (fun z => ⟨nz, ?_⟩) (fun z => ⟨nz, ?_⟩)
  · rwa [if_pos z] at q
  · rwa [if_neg z] at q
theorem m_frac {M : Mem} {a b k : Nat} {Q : Int64 → Prop} (ha : a < 2 ^ 62) (hb : 0 < b) (hb2 : b < 2 ^ 40) (q : Q (frV a b k)) (hk : k ≤ 1) : w_X8_lowest (lN a) (lN b) (nI k) M Q := by
  have gp := Nat.gcd_pos_of_pos_right a hb
  have gl := Nat.gcd_le_right a hb
  refine ⟨81, m_gcd 40 a b hb2 (by omega) ha ?_⟩
  have nz : ¬ lN (Nat.gcd a b) = 0 := fun e => by have := (lN0 (by omega)).mp e; omega
  refine ⟨nz, ?_⟩
  unfold frV at q
  by_cases z : k = 0
  · rw [if_pos (show nI k = 0 by rw [z]; rfl), pk_lDiv (by omega) gp (by omega)]
    rwa [if_pos z] at q
  · rw [if_neg (nI_ne0 (by omega) (by omega)), pk_lDiv (by omega) gp (by omega)]
    rwa [if_neg z] at q
/-! hazes -/
def hz (s : Nat) : Nat → Bool := fun i => decide ((sr (nI s) (nI i) &&& 1) = 1)
theorem hz_if (s i : Nat) : (if ((sr (nI s) (nI i)) &&& 1) = 1 then (1 : Int32) else 0) = 0 ↔ hz s i = false := by
  unfold hz
  by_cases z : ((sr (nI s) (nI i)) &&& 1) = 1
  · rw [if_pos z, decide_eq_true z]
    exact ⟨fun e => absurd e (by decide), fun e => absurd e (by decide)⟩
  · rw [if_neg z, decide_eq_false z]
    exact ⟨fun _ => rfl, fun _ => rfl⟩
def wN (v : Nat) (h : Nat → Bool) : Nat → Nat
  | 0 => 1
  | i + 1 => wN v h i * (if h i = true then v else 10 - v)
theorem wN_le {v : Nat} (hv : v ≤ 10) (h : Nat → Bool) : ∀ n, wN v h n ≤ 10 ^ n
  | 0 => Nat.le_refl _
  | n + 1 => by
    have := wN_le hv h n
    show wN v h n * (if h n = true then v else 10 - v) ≤ 10 ^ (n + 1)
    rw [Nat.pow_succ]
    exact Nat.mul_le_mul this (by split <;> omega)
theorem p10 : ∀ n, n ≤ 8 → 10 ^ n ≤ 100000000 := by decide
theorem p2 : ∀ n, n ≤ 8 → 2 ^ n ≤ 256 := by decide
theorem sl2 : ∀ n, n ≤ 8 → sl 1 (nI n) = nI (2 ^ n) := by decide +kernel
def suN (f : Nat → Nat) : Nat → Nat
  | 0 => 0
  | s + 1 => suN f s + f s
theorem suN_le {f : Nat → Nat} {b : Nat} (h : ∀ s, f s ≤ b) : ∀ n, suN f n ≤ n * b
  | 0 => Nat.zero_le _
  | n + 1 => by
    have := suN_le h n
    have := h n
    show suN f n + f n ≤ (n + 1) * b
    rw [Nat.succ_mul]
    omega
theorem w_weight {M : Mem} {s v n : Nat} {Q : Int64 → Prop} (hv : v ≤ 10) (hn : n ≤ 8) (q : Q (lN (wN v (hz s) n))) : w_X7_weightOf (nI s) (nI v) (nI n) M Q := by
  refine pk_loop (fun m i (_ : Unit) => fu2 (w_X7_weightOf_5 (nI s) (nI v) (nI n) M Q) m (lN (wN v (hz s) i)) (nI i)) (fun _ _ => True) n 0 () (by omega) trivial (fun m _ _ => ?_) (fun m i _ hi _ ih => ?_)
  · exact pk_le n n (fun _ => q) (fun z => by omega)
  · refine pk_le n i (fun z => by omega) (fun _ => fun v3 e3 => ?_)
    rw [show (10 : Int32) - nI v = nI (10 - v) from nIs hv, nI_l (by omega), nI_l (by omega)] at e3
    have e : v3 = lN (wN v (hz s) (i + 1)) := by
      rw [e3]
      show _ = lN (wN v (hz s) i * (if hz s i = true then v else 10 - v))
      unfold hz
      by_cases z : ((sr (nI s) (nI i)) &&& 1) = 1
      · rw [if_pos z, decide_eq_true z, if_pos rfl, lN_mul]
      · rw [if_neg z, decide_eq_false z, if_neg (by decide), lN_mul]
    rw [e, nI_1]
    exact ih () trivial
theorem w_hazes {X : Mem} {E : Es} {s n : Nat} {Q : Int32 → Mem → Prop} (h : EX X 1 E) (w : WF E) (h9 : E 42 ≤ 999) (hn : n ≤ 8) (q : ∀ X', gX X X' → Q (nI (hT (hz s) n E)) X') : w_X7_takenInHazes (nI s) (nI n) X Q := by
  refine w_begin h (fun X2 t2 g2 => ?_)
  refine pk_loop (fun m i N => fu2 (w_X7_takenInHazes_13 (nI s) (nI n) Q) m (nI i) N) (fun i N => TXn N (hz s) i E ∧ gX X N) n 0 X2 (by omega) ⟨t2, g2⟩ (fun m N hI => ?_) (fun m i N hi hI ih => ?_)
  · refine pk_le n n (fun _ => ?_) (fun z => by omega)
    unfold w_X7_takenInHazes_45
    rw [hI.1.2.2.1]
    exact q N hI.2
  · refine pk_le n i (fun z => by omega) (fun _ => ?_)
    refine w_step hI.1 w (by omega) (hz_if s i) (fun N2 t3 g3 => ?_)
    rw [nI_1]
    exact ih N2 ⟨t3, hI.2.tr g3⟩
def meF (E : Es) (v n s : Nat) : Nat := wN v (hz s) n * hT (hz s) n E
theorem c_mean {X : Mem} {E : Es} {v n k : Nat} {Q : Int64 → Mem → Prop} (h : EX X 1 E) (w : WF E) (h9 : E 42 ≤ 999) (hv : v ≤ 10) (hn : n ≤ 8) (hk : k ≤ 1) (q : ∀ X', qX X X' → Q (frV (suN (meF E v n) (2 ^ n)) (10 ^ n) k) X') : ∃ m, fu2 (w_X7_mean_19 (nI v) (nI n) (nI k) X Q) m 1 0 := by
  have b2 := p2 n hn
  have b10 := p10 n hn
  have pos : 0 < 10 ^ n := Nat.pow_pos (by omega)
  refine pk_loop (fun m i (_ : Unit) => fu2 (w_X7_mean_19 (nI v) (nI n) (nI k) X Q) m (lN (10 ^ i)) (nI i)) (fun _ _ => True) n 0 () (by omega) trivial (fun m _ _ => ?_) (fun m i _ hi _ ih => ?_)
  · refine pk_le n n (fun _ => ?_) (fun z => by omega)
    refine pk_loop (fun m s N => fu3 (w_X7_mean_45 (nI v) (nI n) (nI k) (lN (10 ^ n)) Q) m (lN (suN (meF E v n) s)) (nI s) N) (fun s N => gX X N) (2 ^ n) 0 X (Nat.zero_le _) gX.rf (fun m N g => ?_) (fun m s N hs g ih => ?_)
    · show w_X7_mean_45 _ _ _ _ _ _ _ _ _
      unfold w_X7_mean_45
      rw [sl2 n hn]
      refine pk_le (2 ^ n) (2 ^ n) (fun _ => ?_) (fun z => by omega)
      unfold w_X7_mean_91
      have le : ∀ s, meF E v n s ≤ 100000000 * 480 := fun s => by
        have a1 := wN_le hv (hz s) n
        have a2 := hT_le (hz s) E w n (by omega)
        exact Nat.mul_le_mul (by omega) (by omega)
      have sl := suN_le le (2 ^ n)
      have sl2 : 2 ^ n * (100000000 * 480) ≤ 256 * (100000000 * 480) := Nat.mul_le_mul_right _ b2
      exact w_frac (by omega) pos (by omega) (q N g.q) hk
    · show w_X7_mean_45 (nI v) (nI n) (nI k) (lN (10 ^ n)) Q (fu3 (w_X7_mean_45 (nI v) (nI n) (nI k) (lN (10 ^ n)) Q) m) _ _ _
      generalize fu3 (w_X7_mean_45 (nI v) (nI n) (nI k) (lN (10 ^ n)) Q) m = K at ih ⊢
      unfold w_X7_mean_45
      rw [sl2 n hn]
      refine pk_le (2 ^ n) s (fun z => by omega) (fun _ => ?_)
      refine w_weight hv hn ?_
      have wl := wN_le hv (hz s) n
      refine ⟨fun z => ?_, fun z => ?_⟩
      · unfold w_X7_mean_85
        have z0 : wN v (hz s) n = 0 := by
          have := lgle.mp z
          rcases Nat.eq_zero_or_pos (wN v (hz s) n) with e | e
          · exact e
          · exact absurd ((pk_lLT (a := 0) (by omega) (by omega)).mpr e) this
        have key := ih N g
        rw [show suN (meF E v n) (s + 1) = suN (meF E v n) s from by show suN (meF E v n) s + wN v (hz s) n * hT (hz s) n E = _; rw [z0, Nat.zero_mul]; rfl] at key
        rw [nI_1]
        exact key
      · refine w_hazes (g.ex h) w h9 hn (fun N2 g2 => ?_)
        unfold w_X7_mean_85
        have tl := hT_le (hz s) E w n (by omega)
        rw [nI_l (by omega), lN_mul, lN_add, nI_1]
        exact ih N2 (g.tr g2)
  · refine pk_le n i (fun z => by omega) (fun _ => ?_)
    rw [nI_1, show lN (10 ^ i) * 10 = lN (10 ^ i * 10) from lN_mul _ 10]
    exact ih () trivial
/-- the reference's, by what comes of the nights -/
theorem m_byHaze {M : Mem} {E : Es} {v n k : Nat} {x : Int32} {F : Nat → Nat} {Q : Int64 → Mem → Prop} (h : PM M 0 E) (hTk : M 0 1 = nI (E 44)) (w : WF E) (h9 : E 42 ≤ 999) (hv : v ≤ 10) (hn : n ≤ 8) (hk : k ≤ 1) (hF : ∀ s, F s ≤ 480) (hx : ∀ s, (if x = (-4) then nI (hT (hz s) n E) else (1 - ((sr (nI (hB (hz s) n E)) x) &&& 1))) = nI (F s)) (q : ∀ M', qM M M' → Q (frV (suN (fun s => wN v (hz s) n * F s) (2 ^ n)) (10 ^ n) k) M') : w_X8_byHaze (nI v) x (nI n) (nI k) M Q := by
  have b2 := p2 n hn
  have b10 := p10 n hn
  have pos : 0 < 10 ^ n := Nat.pow_pos (by omega)
  refine pk_loop (fun m i (_ : Unit) => fu2 (w_X8_byHaze_9 (nI v) x (nI n) (nI k) 0 M Q) m (lN (10 ^ i)) (nI i)) (fun _ _ => True) n 0 () (by omega) trivial (fun m _ _ => ?_) (fun m i _ hi _ ih => ?_)
  · refine pk_le n n (fun _ => ?_) (fun z => by omega)
    refine pk_loop (fun m s N => fu3 (w_X8_byHaze_32 (nI v) x (nI n) (nI k) (lN (10 ^ n)) Q) m (lN (suN (fun s => wN v (hz s) n * F s) s)) (nI s) N) (fun s N => gM M N) (2 ^ n) 0 M (Nat.zero_le _) gM.rf (fun m N g => ?_) (fun m s N hs g ih => ?_)
    · show w_X8_byHaze_32 _ _ _ _ _ _ _ _ _ _
      unfold w_X8_byHaze_32
      rw [sl2 n hn]
      refine pk_le (2 ^ n) (2 ^ n) (fun _ => ?_) (fun z => by omega)
      unfold w_X8_byHaze_155
      have le : ∀ s, (fun s => wN v (hz s) n * F s) s ≤ 100000000 * 480 := fun s => by
        have a1 := wN_le hv (hz s) n
        exact Nat.mul_le_mul (by omega) (hF s)
      have sl := suN_le le (2 ^ n)
      have sl2 : 2 ^ n * (100000000 * 480) ≤ 256 * (100000000 * 480) := Nat.mul_le_mul_right _ b2
      exact m_frac (by omega) pos (by omega) (q N g.u.q) hk
    · show w_X8_byHaze_32 (nI v) x (nI n) (nI k) (lN (10 ^ n)) Q (fu3 (w_X8_byHaze_32 (nI v) x (nI n) (nI k) (lN (10 ^ n)) Q) m) _ _ _
      generalize fu3 (w_X8_byHaze_32 (nI v) x (nI n) (nI k) (lN (10 ^ n)) Q) m = K at ih ⊢
      unfold w_X8_byHaze_32
      rw [sl2 n hn]
      refine pk_le (2 ^ n) s (fun z => by omega) (fun _ => ?_)
      refine m_begin (p := 0) (g.pm h (by omega)) (by omega) (fun M7 t7 g7 => ?_)
      refine pk_loop (fun m i N => fu3 (w_X8_byHaze_58 (nI v) x (nI n) (nI k) (lN (suN (fun s => wN v (hz s) n * F s) s)) (lN (10 ^ n)) (nI s) K Q) m (lN (wN v (hz s) i)) (nI i) N) (fun i N => TM N (hz s) i E ∧ gM M N) n 0 M7 (by omega) ⟨t7 _, g.tr g7⟩ (fun m N hI => ?_) (fun m i N hi hI ih2 => ?_)
      · refine pk_le n n (fun _ => ?_) (fun z => by omega)
        unfold w_X8_byHaze_117
        intro v10 e10
        rw [hI.1.2.1, hI.1.2.2.1, hx s, nI_l (by have := hF s; omega), lN_mul, lN_add] at e10
        rw [e10, nI_1]
        exact ih N hI.2
      · show w_X8_byHaze_58 (nI v) x (nI n) (nI k) (lN (suN (fun s => wN v (hz s) n * F s) s)) (lN (10 ^ n)) (nI s) K Q (fu3 (w_X8_byHaze_58 (nI v) x (nI n) (nI k) (lN (suN (fun s => wN v (hz s) n * F s) s)) (lN (10 ^ n)) (nI s) K Q) m) _ _ _
        generalize fu3 (w_X8_byHaze_58 (nI v) x (nI n) (nI k) (lN (suN (fun s => wN v (hz s) n * F s) s)) (lN (10 ^ n)) (nI s) K Q) m = K2 at ih2 ⊢
        refine pk_le n i (fun z => by omega) (fun _ => fun v13 e13 => ?_)
        rw [show (10 : Int32) - nI v = nI (10 - v) from nIs hv, nI_l (by omega), nI_l (by omega)] at e13
        have e : v13 = lN (wN v (hz s) (i + 1)) := by
          rw [e13]
          show _ = lN (wN v (hz s) i * (if hz s i = true then v else 10 - v))
          unfold hz
          by_cases z : ((sr (nI s) (nI i)) &&& 1) = 1
          · rw [if_pos z, if_neg (by decide), decide_eq_true z, if_pos rfl, lN_mul]
          · rw [if_neg z, if_pos rfl, decide_eq_false z, if_neg (by decide), lN_mul]
        refine m_step hI.1 (by rw [hI.2.tk]; exact hTk) w (by omega) (hz_if s i) (fun M15 t15 f15 => ?_)
        rw [e, nI_1]
        exact ih2 M15 ⟨t15, hI.2.tr f15.g⟩
  · refine pk_le n i (fun z => by omega) (fun _ => ?_)
    rw [nI_1, show lN (10 ^ i) * 10 = lN (10 ^ i * 10) from lN_mul _ 10]
    exact ih () trivial
theorem c_hz1 {X : Mem} {v n k : Nat} {Q : Int32 → Prop} (hv : v ≤ 10) (hn : n ≤ 8) (hk : k ≤ 1) (q : Q 0) : w_X7_isNoHaze (nI v) (nI n) (nI k) X Q := c_io1 (a := 0) (b := 10) (by omega) hv (by omega) (b0 (c_io1 (a := 0) (b := 8) (by omega) hn (by omega) (b0 (c_io1 (a := 0) (b := 1) (by omega) hk (by omega) (b0 q)))))
theorem op_mean_ok : op_mean Rel0 := by
  intro X M x y z ⟨E, hN, hR⟩
  have hN' := hN
  obtain ⟨w, h9, hX, hM, hTk⟩ := hN
  unfold w_X7_mean
  rcases dR x 0 10 with ⟨v, -, hv, rfl⟩ | hno
  · rcases dR y 0 8 with ⟨n, -, hn, rfl⟩ | hno
    · rcases dR z 0 1 with ⟨k, -, hk, rfl⟩ | hno
      · refine c_hz1 hv hn hk (b0 ?_)
        refine c_mean hX w h9 hv hn hk (fun X' f => ?_)
        refine m_in1 (a := 0) (b := 10) (by omega) hv (by omega) (b1 (m_in1 (a := 0) (b := 8) (by omega) hn (by omega) (b1 (m_in1 (a := 0) (b := 1) (by omega) hk (by omega) (b1 ?_)))))
        exact m_byHaze (F := fun s => hT (hz s) n E) hM hTk w h9 hv hn hk (fun s => by have := hT_le (hz s) E w n (by omega); show hT (hz s) n E ≤ 480; omega) (fun s => if_pos rfl) (fun M' g => ⟨rfl, Rel0.q hN' hR f g⟩)
      · refine c_io1 (a := 0) (b := 10) (by omega) hv (by omega) (b0 ?_)
        refine c_io1 (a := 0) (b := 8) (by omega) hn (by omega) (b0 ?_)
        refine c_io0 (a := 0) (b := 1) hno (by omega) (by omega) (b1 (b1 ?_))
        refine m_in1 (a := 0) (b := 10) (by omega) hv (by omega) (b1 ?_)
        refine m_in1 (a := 0) (b := 8) (by omega) hn (by omega) (b1 ?_)
        exact m_in0 (a := 0) (b := 1) hno (by omega) (by omega) (b0 ⟨rfl, E, hN', hR⟩)
    · refine c_io1 (a := 0) (b := 10) (by omega) hv (by omega) (b0 ?_)
      refine c_io0 (a := 0) (b := 8) hno (by omega) (by omega) (b1 (b1 ?_))
      refine m_in1 (a := 0) (b := 10) (by omega) hv (by omega) (b1 ?_)
      exact m_in0 (a := 0) (b := 8) hno (by omega) (by omega) (b0 ⟨rfl, E, hN', hR⟩)
  · refine c_io0 (a := 0) (b := 10) hno (by omega) (by omega) (b1 (b1 ?_))
    exact m_in0 (a := 0) (b := 10) hno (by omega) (by omega) (b0 ⟨rfl, E, hN', hR⟩)
