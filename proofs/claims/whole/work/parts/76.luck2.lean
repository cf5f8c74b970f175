/-- would he be caught in the night i, if he was free all along -/
def cN (E : Es) (t i : Nat) : Bool := decide (E (27 + t) ≤ i) && hears (hE yes i E) t
def frB (E : Es) (t : Nat) (h : Nat → Bool) (n : Nat) : Bool := !(hB h n E).testBit t
theorem hears_any {E : Es} {t : Nat} {h : Nat → Bool} (w : WF E) (ht : t < E 44) {n : Nat} (hn : E 42 + n ≤ 5000) : hears (hE h n E) t = hears (hE yes n E) t := by
  have h5 := w.2.2.2.2.1
  obtain ⟨-, -, b, d⟩ := hE_fix h E w n hn
  obtain ⟨-, -, b', d'⟩ := hE_fix yes E w n hn
  refine hears_cg (fun i hi => ?_) (by omega) (by rw [b]; exact w.2.2.2.1)
  rcases hi with hi | hi
  · rw [hE_st w hi n hn, hE_st w hi n hn]
  · subst hi
    rw [d, d']
theorem held_free {E : Es} {t : Nat} {h : Nat → Bool} (w : WF E) (ht : t < E 44) : ∀ n, E 42 + n ≤ 5000 → frB E t h n = true → hE h n E (27 + t) = E (27 + t) - n
  | 0, _, _ => rfl
  | n + 1, hn, f => by
    obtain ⟨a, b, c, d⟩ := hE_fix h E w n (by omega)
    have f0 : (!(hB h n E ||| nB (h n) (hE h n E)).testBit t) = true := f
    rw [Nat.testBit_or, Bool.not_or, Bool.and_eq_true, nB_bit a (by omega)] at f0
    have ih := held_free w ht n (by omega) f0.1
    show nE (h n) (hE h n E) (27 + t) = _
    rw [nE_held a (by omega), ih]
    have f1 := f0.2
    rw [ih] at f1
    by_cases z : 0 < E (27 + t) - n
    · rw [if_pos z]
      omega
    · rw [if_neg z, if_neg]
      · omega
      · intro q
        rw [decide_eq_true (show E (27 + t) - n = 0 by omega), q.1, q.2] at f1
        exact absurd f1 (by decide)
theorem fr_step {E : Es} {t : Nat} {h : Nat → Bool} (w : WF E) (ht : t < E 44) {n : Nat} (hn : E 42 + n ≤ 5000) : frB E t h (n + 1) = (frB E t h n && (h n || !cN E t n)) := by
  obtain ⟨a, b, c, d⟩ := hE_fix h E w n hn
  show (!(hB h n E ||| nB (h n) (hE h n E)).testBit t) = _
  rw [Nat.testBit_or, Bool.not_or, nB_bit a (by omega)]
  show (frB E t h n && _) = _
  cases f : frB E t h n with
  | false => rfl
  | true =>
    rw [held_free w ht n hn f, hears_any w ht hn]
    unfold cN
    by_cases z : E (27 + t) ≤ n
    · rw [decide_eq_true (show E (27 + t) - n = 0 by omega), decide_eq_true z]
      cases h n <;> cases hears (hE yes n E) t <;> rfl
    · rw [decide_eq_false (show ¬ E (27 + t) - n = 0 by omega), decide_eq_false z]
      cases h n <;> rfl
theorem yes_held {E : Es} {t : Nat} (w : WF E) (ht : t < E 44) : ∀ n, E 42 + n ≤ 5000 → frB E t yes n = true
  | 0, _ => by show (!(0 : Nat).testBit t) = true; rw [Nat.zero_testBit]; rfl
  | n + 1, hn => by
    rw [fr_step w ht (by omega), yes_held w ht n (by omega)]
    rfl
theorem hz_tb : ∀ s, s < 256 → ∀ i, i < 8 → hz s i = s.testBit i := by decide +kernel
theorem suN_add (f : Nat → Nat) (a : Nat) : ∀ b, suN f (a + b) = suN f a + suN (fun s => f (a + s)) b
  | 0 => rfl
  | b + 1 => by
    show suN f (a + b) + f (a + b) = suN f a + (suN (fun s => f (a + s)) b + f (a + b))
    rw [suN_add f a b]
    omega
theorem suN_cg {f g : Nat → Nat} : ∀ n, (∀ s, s < n → f s = g s) → suN f n = suN g n
  | 0, _ => rfl
  | n + 1, h => by
    show suN f n + f n = suN g n + g n
    rw [suN_cg n (fun s hs => h s (by omega)), h n (by omega)]
theorem suN_mul (f : Nat → Nat) (c : Nat) : ∀ n, suN (fun s => c * f s) n = c * suN f n
  | 0 => rfl
  | n + 1 => by
    show suN (fun s => c * f s) n + c * f n = c * (suN f n + f n)
    rw [suN_mul f c n, Nat.mul_add]
theorem suN_two (f g : Nat → Nat) : ∀ n, suN f n + suN g n = suN (fun s => f s + g s) n
  | 0 => rfl
  | n + 1 => by
    have := suN_two f g n
    show suN f n + f n + (suN g n + g n) = suN (fun s => f s + g s) n + (f n + g n)
    omega
def luF (E : Es) (t v n s : Nat) : Nat := wN v (hz s) n * (if frB E t (hz s) n = true then 1 else 0)
def prN (E : Es) (t v : Nat) : Nat → Nat
  | 0 => 1
  | n + 1 => (if cN E t n = true then v else 10) * prN E t v n
theorem lu_sum {E : Es} {t v : Nat} (w : WF E) (ht : t < E 44) (h9 : E 42 ≤ 999) (hv : v ≤ 10) : ∀ n, n ≤ 8 → suN (luF E t v n) (2 ^ n) = prN E t v n
  | 0, _ => by
    show 0 + wN v (hz 0) 0 * (if frB E t (hz 0) 0 = true then 1 else 0) = 1
    have e : frB E t (hz 0) 0 = true := by
      show (!(0 : Nat).testBit t) = true
      rw [Nat.zero_testBit]
      rfl
    rw [if_pos e]
    rfl
  | n + 1, hn => by
    have b2 : 2 ^ n ≤ 128 := (show ∀ n, n ≤ 7 → 2 ^ n ≤ 128 by decide) n (by omega)
    have ih := lu_sum w ht h9 hv n (by omega)
    rw [show 2 ^ (n + 1) = 2 ^ n + 2 ^ n by rw [Nat.pow_succ]; omega, suN_add, suN_two]
    show _ = (if cN E t n = true then v else 10) * prN E t v n
    rw [← ih, ← suN_mul]
    refine suN_cg _ (fun s hs => ?_)
    have l1 : ∀ i, i < n → hz (2 ^ n + s) i = hz s i := fun i hi => by
      rw [hz_tb _ (by omega) i (by omega), hz_tb _ (by omega) i (by omega), Nat.testBit_two_pow_add_gt hi]
    have l2 : hz s n = false := by
      rw [hz_tb _ (by omega) n (by omega)]
      exact Nat.testBit_lt_two_pow hs
    have l3 : hz (2 ^ n + s) n = true := by
      rw [hz_tb _ (by omega) n (by omega), Nat.testBit_two_pow_add_eq, Nat.testBit_lt_two_pow hs]
      rfl
    unfold luF
    rw [fr_step w ht (by omega), fr_step w ht (by omega), l2, l3]
    rw [show wN v (hz s) (n + 1) = wN v (hz s) n * (if hz s n = true then v else 10 - v) from rfl, show wN v (hz (2 ^ n + s)) (n + 1) = wN v (hz (2 ^ n + s)) n * (if hz (2 ^ n + s) n = true then v else 10 - v) from rfl, l2, l3, wN_cg n l1]
    have fe : frB E t (hz (2 ^ n + s)) n = frB E t (hz s) n := by
      unfold frB
      rw [hB_cg n l1]
    rw [fe, if_neg (by decide), if_pos rfl, Bool.true_or, Bool.and_true, Bool.false_or]
    generalize wN v (hz s) n = W
    cases frB E t (hz s) n with
    | false =>
      rw [Bool.false_and, if_neg (by decide)]
      simp
    | true =>
      rw [Bool.true_and, if_pos rfl]
      cases cN E t n with
      | false =>
        rw [show (!false) = true from rfl, if_pos rfl, if_neg (by decide)]
        rw [Nat.mul_one, Nat.mul_one, Nat.mul_one, ← Nat.mul_add, Nat.mul_comm 10]
        congr 1
        omega
      | true =>
        rw [show (!true) = false from rfl, if_neg (by decide), if_pos rfl]
        rw [Nat.mul_zero, Nat.zero_add, Nat.mul_one, Nat.mul_one, Nat.mul_comm]
def nuN (E : Es) (t v : Nat) : Nat → Nat
  | 0 => 1
  | n + 1 => if cN E t n = true then nuN E t v n * v else nuN E t v n
def coN (E : Es) (t : Nat) : Nat → Nat
  | 0 => 1
  | n + 1 => if cN E t n = true then coN E t n else coN E t n * 10
theorem nuN_le {E : Es} {t v : Nat} (hv : v ≤ 10) : ∀ n, nuN E t v n ≤ 10 ^ n
  | 0 => Nat.le_refl _
  | n + 1 => by
    have := nuN_le (E := E) (t := t) hv n
    show (if cN E t n = true then nuN E t v n * v else nuN E t v n) ≤ 10 ^ (n + 1)
    rw [Nat.pow_succ]
    split
    · exact Nat.mul_le_mul this hv
    · omega
theorem nuN_pos {E : Es} {t : Nat} : ∀ n, 0 < nuN E t 10 n
  | 0 => by show 0 < 1; omega
  | n + 1 => by
    have := nuN_pos (E := E) (t := t) n
    show 0 < (if cN E t n = true then nuN E t 10 n * 10 else nuN E t 10 n)
    split <;> omega
theorem coN_pos {E : Es} {t : Nat} : ∀ n, 0 < coN E t n
  | 0 => by show 0 < 1; omega
  | n + 1 => by
    have := coN_pos (E := E) (t := t) n
    show 0 < (if cN E t n = true then coN E t n else coN E t n * 10)
    split <;> omega
theorem pr_split {E : Es} {t v : Nat} : ∀ n, prN E t v n = nuN E t v n * coN E t n
  | 0 => rfl
  | n + 1 => by
    have := pr_split (E := E) (t := t) (v := v) n
    show (if cN E t n = true then v else 10) * prN E t v n = (if cN E t n = true then nuN E t v n * v else nuN E t v n) * (if cN E t n = true then coN E t n else coN E t n * 10)
    rw [this]
    split
    · rw [Nat.mul_comm v, Nat.mul_assoc, Nat.mul_assoc, Nat.mul_comm v]
    · rw [Nat.mul_comm 10, Nat.mul_assoc]
theorem ten_split {E : Es} {t : Nat} : ∀ n, 10 ^ n = nuN E t 10 n * coN E t n
  | 0 => rfl
  | n + 1 => by
    have := ten_split (E := E) (t := t) n
    show 10 ^ (n + 1) = (if cN E t n = true then nuN E t 10 n * 10 else nuN E t 10 n) * (if cN E t n = true then coN E t n else coN E t n * 10)
    rw [Nat.pow_succ, this]
    split
    · rw [Nat.mul_assoc, Nat.mul_assoc, Nat.mul_comm 10]
    · rw [Nat.mul_assoc]
theorem fr_red {a b c k : Nat} (hc : 0 < c) : frV (a * c) (b * c) k = frV a b k := by
  unfold frV
  rw [Nat.gcd_mul_right, Nat.mul_div_mul_right _ _ hc, Nat.mul_div_mul_right _ _ hc]
theorem srb : ∀ b, b < 32 → ∀ t, t < 5 → 1 - ((sr (nI b) (nI t)) &&& 1) = nI (if (!b.testBit t) = true then 1 else 0) := by decide +kernel
theorem c_luck {X : Mem} {E : Es} {v t n k : Nat} {Q : Int64 → Mem → Prop} (h : EX X 1 E) (w : WF E) (h9 : E 42 ≤ 999) (hv : v ≤ 10) (ht : t < E 44) (hn : n ≤ 8) (hk : k ≤ 1) (q : ∀ X', qX X X' → Q (frV (nuN E t v n) (nuN E t 10 n) k) X') : w_X6_begin X (fun M6 => ∃ m, fu4 (w_X7_luck_42 (nI v) (nI t) (nI n) (nI k) Q) m 1 1 0 M6) := by
  have h5 := w.2.2.2.2.1
  have b10 := p10 n hn
  refine w_begin h (fun X6 t6 g6 => ?_)
  refine pk_loop (fun m i N => fu4 (w_X7_luck_42 (nI v) (nI t) (nI n) (nI k) Q) m (lN (nuN E t v i)) (lN (nuN E t 10 i)) (nI i) N) (fun i N => TXn N yes i E ∧ gX X N) n 0 X6 (by omega) ⟨t6, g6⟩ (fun m N hI => ?_) (fun m i N hi hI ih => ?_)
  · refine pk_le n n (fun _ => ?_) (fun z => by omega)
    unfold w_X7_luck_91
    have l1 := nuN_le (E := E) (t := t) hv n
    have l2 := nuN_le (E := E) (t := t) (v := 10) (by omega) n
    exact w_frac (by omega) (nuN_pos n) (by omega) (q N hI.2.q) hk
  · refine pk_le n i (fun z => by omega) (fun _ => ?_)
    obtain ⟨a, b, c, d⟩ := hE_fix yes E w i (by omega)
    refine w_wbc hI.1.1 a (by omega) ?_
    have hf := held_free w ht i (by omega) (yes_held w ht i (by omega))
    have ce : (hE yes i E (27 + t) = 0 ∧ hears (hE yes i E) t = true) ↔ cN E t i = true := by
      rw [hf]
      unfold cN
      rw [Bool.and_eq_true, decide_eq_true_iff]
      constructor
      · exact fun z => ⟨by omega, z.2⟩
      · exact fun z => ⟨by omega, z.2⟩
    refine w_step hI.1 w (by omega) ⟨fun z => absurd z (by decide), fun z => absurd (show true = false from z) (by decide)⟩ (fun N2 t2 g2 => ?_)
    have key := ih N2 ⟨t2, hI.2.tr g2⟩
    rw [nI_1]
    by_cases z : cN E t i = true
    · rw [if_pos (ce.mpr z), if_neg (by decide), if_neg (by decide), nI_l (by omega), lN_mul, show lN (nuN E t 10 i) * 10 = lN (nuN E t 10 i * 10) from lN_mul _ 10]
      rw [show nuN E t v (i + 1) = nuN E t v i * v from if_pos z, show nuN E t 10 (i + 1) = nuN E t 10 i * 10 from if_pos z] at key
      exact key
    · rw [if_neg (fun y => z (ce.mp y)), if_pos rfl, if_pos rfl]
      rw [show nuN E t v (i + 1) = nuN E t v i from if_neg z, show nuN E t 10 (i + 1) = nuN E t 10 i from if_neg z] at key
      exact key
theorem op_luck_ok : op_luck Rel0 := by
  intro X M x y z u ⟨E, hN, hR⟩
  have hN' := hN
  obtain ⟨w, h9, hX, hM, hTk⟩ := hN
  have h5 := w.2.2.2.2.1
  unfold w_X7_luck
  rcases dT y (E 44) with ⟨t, ht, rfl⟩ | hno
  · refine c_tk1 hX w ht (b0 ?_)
    rcases dR x 0 10 with ⟨v, -, hv, rfl⟩ | hno
    · rcases dR z 0 8 with ⟨n, -, hn, rfl⟩ | hno
      · rcases dR u 0 1 with ⟨k, -, hk, rfl⟩ | hno
        · refine c_hz1 hv hn hk (b0 ?_)
          refine c_luck hX w h9 hv ht hn hk (fun X' f => ?_)
          refine m_in1 (a := 0) (b := 10) (by omega) hv (by omega) (b1 (m_tk1 hTk w ht (b1 ?_)))
          refine m_in1 (a := 0) (b := 8) (by omega) hn (by omega) (b1 (m_in1 (a := 0) (b := 1) (by omega) hk (by omega) (b1 ?_)))
          refine m_byHaze (F := fun s => if frB E t (hz s) n = true then 1 else 0) hM hTk w h9 hv hn hk (fun s => ?_) (fun s => ?_) (fun M' g => ⟨?_, Rel0.q hN' hR f g⟩)
          · show (if frB E t (hz s) n = true then 1 else 0) ≤ 480
            split <;> omega
          · rw [if_neg (nI_nm4 (by omega))]
            exact srb _ (hB_lt (hz s) E w n (by omega)) t (by omega)
          · rw [show suN (fun s => wN v (hz s) n * (if frB E t (hz s) n = true then 1 else 0)) (2 ^ n) = prN E t v n from lu_sum w ht h9 hv n hn, pr_split, ten_split (E := E) (t := t) n, fr_red (coN_pos n)]
        · refine c_io1 (a := 0) (b := 10) (by omega) hv (by omega) (b0 ?_)
          refine c_io1 (a := 0) (b := 8) (by omega) hn (by omega) (b0 ?_)
          refine c_io0 (a := 0) (b := 1) hno (by omega) (by omega) (b1 (b1 ?_))
          refine m_in1 (a := 0) (b := 10) (by omega) hv (by omega) (b1 (m_tk1 hTk w ht (b1 ?_)))
          refine m_in1 (a := 0) (b := 8) (by omega) hn (by omega) (b1 ?_)
          exact m_in0 (a := 0) (b := 1) hno (by omega) (by omega) (b0 ⟨rfl, E, hN', hR⟩)
      · refine c_io1 (a := 0) (b := 10) (by omega) hv (by omega) (b0 ?_)
        refine c_io0 (a := 0) (b := 8) hno (by omega) (by omega) (b1 (b1 ?_))
        refine m_in1 (a := 0) (b := 10) (by omega) hv (by omega) (b1 (m_tk1 hTk w ht (b1 ?_)))
        exact m_in0 (a := 0) (b := 8) hno (by omega) (by omega) (b0 ⟨rfl, E, hN', hR⟩)
    · refine c_io0 (a := 0) (b := 10) hno (by omega) (by omega) (b1 (b1 ?_))
      exact m_in0 (a := 0) (b := 10) hno (by omega) (by omega) (b0 ⟨rfl, E, hN', hR⟩)
  · refine c_tk0 hX w hno (b1 ?_)
    rcases dR x 0 10 with ⟨v, -, hv, rfl⟩ | hno2
    · exact m_in1 (a := 0) (b := 10) (by omega) hv (by omega) (b1 (m_tk0 hTk w hno (b0 ⟨rfl, E, hN', hR⟩)))
    · exact m_in0 (a := 0) (b := 10) hno2 (by omega) (by omega) (b0 ⟨rfl, E, hN', hR⟩)
