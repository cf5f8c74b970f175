/-- would he be caught in the night i, if he was free all along -/
def cN (E : Es) (t i : Nat) : Bool := decide (E (27 + t) ≤ i) && hears (hE yes i E) t
def frB (E : Es) (t : Nat) (h : Nat → Bool) (n : Nat) : Bool := !(hB h n E).testBit t
theorem hears_any {E : Es} {t : Nat} {h : Nat → Bool} (w : WF E) (ht : t < E 44) {n : Nat} (hn : E 42 + n ≤ 5000) : hears (hE h n E) t = hears (hE yes n E) t := by
  have h5 := w.2.2.2.2.1
  obtain ⟨-, -, b, d⟩ := hE_fix h E w n hn
  obtain ⟨-, -, b', d'⟩ := hE_fix yes E w n hn
  refine hears_cg (fun i hi => ?_) (by omega) (by rw [b]; exact w.2.2.2.1)
  rcases hi with hi | hi
  · rw [hE_st w hi n hn, hE_st w hi n hn]
  · subst hi
    rw [d, d']
theorem held_free {E : Es} {t : Nat} {h : Nat → Bool} (w : WF E) (ht : t < E 44) : ∀ n, E 42 + n ≤ 5000 → frB E t h n = true → hE h n E (27 + t) = E (27 + t) - n
  | 0, _, _ => rfl
  | n + 1, hn, f => by
    obtain ⟨a, b, c, d⟩ := hE_fix h E w n (by omega)
    have f0 : (!(hB h n E ||| nB (h n) (hE h n E)).testBit t) = true := f
    rw [Nat.testBit_or, Bool.not_or, Bool.and_eq_true, nB_bit a (by omega)] at f0
    have ih := held_free w ht n (by omega) f0.1
    show nE (h n) (hE h n E) (27 + t) = _
    rw [nE_held a (by omega), ih]
    have f1 := f0.2
    rw [ih] at f1
    by_cases z : 0 < E (27 + t) - n
    · rw [if_pos z]
      omega
    · rw [if_neg z, if_neg]
      · omega
      · intro q
        rw [decide_eq_true (show E (27 + t) - n = 0 by omega), q.1, q.2] at f1
        exact absurd f1 (by decide)
theorem fr_step {E : Es} {t : Nat} {h : Nat → Bool} (w : WF E) (ht : t < E 44) {n : Nat} (hn : E 42 + n ≤ 5000) : frB E t h (n + 1) = (frB E t h n && (h n || !cN E t n)) := by
  obtain ⟨a, b, c, d⟩ := hE_fix h E w n hn
  show (!(hB h n E ||| nB (h n) (hE h n E)).testBit t) = _
  rw [Nat.testBit_or, Bool.not_or, nB_bit a (by omega)]
  show (frB E t h n && _) = _
  cases f : frB E t h n with
  | false => rfl
  | true =>
    rw [held_free w ht n hn f, hears_any w ht hn]
    unfold cN
    by_cases z : E (27 + t) ≤ n
    · rw [decide_eq_true (show E (27 + t) - n = 0 by omega), decide_eq_true z]
      cases h n <;> cases hears (hE yes n E) t <;> rfl
    · rw [decide_eq_false (show ¬ E (27 + t) - n = 0 by omega), decide_eq_false z]
      cases h n <;> rfl
theorem yes_held {E : Es} {t : Nat} (w : WF E) (ht : t < E 44) : ∀ n, E 42 + n ≤ 5000 → frB E t yes n = true
  | 0, _ => by show (!(0 : Nat).testBit t) = true; rw [Nat.zero_testBit]; rfl
  | n + 1, hn => by
    rw [fr_step w ht (by omega), yes_held w ht n (by omega)]
    rfl
theorem hz_tb : ∀ s, s < 256 → ∀ i, i < 8 → hz s i = s.testBit i := by decide +kernel
theorem suN_add (f : Nat → Nat) (a : Nat) : ∀ b, suN f (a + b) = suN f a + suN (fun s => f (a + s)) b
  | 0 => rfl
  | b + 1 => by
    show suN f (a + b) + f (a + b) = suN f a + (suN (fun s => f (a + s)) b + f (a + b))
    rw [suN_add f a b]
    omega
theorem suN_cg {f g : Nat → Nat} : ∀ n, (∀ s, s < n → f s = g s) → suN f n = suN g n
  | 0, _ => rfl
  | n + 1, h => by
    show suN f n + f n = suN g n + g n
    rw [suN_cg n (fun s hs => h s (by omega)), h n (by omega)]
theorem suN_mul (f : Nat → Nat) (c : Nat) : ∀ n, suN (fun s => c * f s) n = c * suN f n
  | 0 => rfl
  | n + 1 => by
    show suN (fun s => c * f s) n + c * f n = c * (suN f n + f n)
    rw [suN_mul f c n, Nat.mul_add]
theorem suN_two (f g : Nat → Nat) : ∀ n, suN f n + suN g n = suN (fun s => f s + g s) n
  | 0 => rfl
  | n + 1 => by
    have := suN_two f g n
    show suN f n + f n + (suN g n + g n) = suN (fun s => f s + g s) n + (f n + g n)
    omega
def luF (E : Es) (t v n s : Nat) : Nat := wN v (hz s) n * (if frB E t (hz s) n = true then 1 else 0)
def prN (E : Es) (t v : Nat) : Nat → Nat
  | 0 => 1
  | n + 1 => (if cN E t n = true then v else 10) * prN E t v n
theorem lu_sum {E : Es} {t v : Nat} (w : WF E) (ht : t < E 44) (h9 : E 42 ≤ 999) (hv : v ≤ 10) : ∀ n, n ≤ 8 → suN (luF E t v n) (2 ^ n) = prN E t v n
  | 0, _ => by
    show 0 + wN v (hz 0) 0 * (if frB E t (hz 0) 0 = true then 1 else 0) = 1
    rw [if_pos (show (!(0 : Nat).testBit t) = true by rw [Nat.zero_testBit]; rfl)]
    rfl
  | n + 1, hn => by
    have b2 : 2 ^ n ≤ 128 := (show ∀ n, n ≤ 7 → 2 ^ n ≤ 128 by decide) n (by omega)
    have ih := lu_sum w ht h9 hv n (by omega)
    rw [show 2 ^ (n + 1) = 2 ^ n + 2 ^ n by rw [Nat.pow_succ]; omega, suN_add, suN_two]
    show _ = (if cN E t n = true then v else 10) * prN E t v n
    rw [← ih, ← suN_mul]
    refine suN_cg _ (fun s hs => ?_)
    have l1 : ∀ i, i < n → hz (2 ^ n + s) i = hz s i := fun i hi => by
      rw [hz_tb _ (by omega) i (by omega), hz_tb _ (by omega) i (by omega), Nat.testBit_two_pow_add_gt hi]
    have l2 : hz s n = false := by
      rw [hz_tb _ (by omega) n (by omega)]
      exact Nat.testBit_lt_two_pow hs
    have l3 : hz (2 ^ n + s) n = true := by
      rw [hz_tb _ (by omega) n (by omega), Nat.testBit_two_pow_add_eq, Nat.testBit_lt_two_pow hs]
      rfl
    unfold luF
    rw [fr_step w ht (by omega), fr_step w ht (by omega), l2, l3]
    rw [show wN v (hz s) (n + 1) = wN v (hz s) n * (if hz s n = true then v else 10 - v) from rfl, show wN v (hz (2 ^ n + s)) (n + 1) = wN v (hz (2 ^ n + s)) n * (if hz (2 ^ n + s) n = true then v else 10 - v) from rfl, l2, l3, wN_cg n l1]
    have fe : frB E t (hz (2 ^ n + s)) n = frB E t (hz s) n := by
      unfold frB
      rw [hB_cg n l1]
    rw [fe, if_neg (by decide), if_pos rfl, Bool.true_or, Bool.and_true, Bool.false_or]
    generalize wN v (hz s) n = W
    cases frB E t (hz s) n with
    | false =>
      rw [Bool.false_and, if_neg (by decide)]
      simp
    | true =>
      rw [Bool.true_and, if_pos rfl]
      cases cN E t n with
      | false =>
        rw [show (!false) = true from rfl, if_pos rfl, if_neg (by decide)]
        rw [Nat.mul_one, Nat.mul_one, Nat.mul_one, ← Nat.mul_add, Nat.mul_comm 10]
        congr 1
        omega
      | true =>
        rw [show (!true) = false from rfl, if_neg (by decide), if_pos rfl]
        rw [Nat.mul_zero, Nat.zero_add, Nat.mul_one, Nat.mul_one, Nat.mul_comm]
