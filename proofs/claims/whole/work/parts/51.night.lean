/-! a night, in numbers -/
def noiseN (k : Nat) : Nat := if k = 0 then 3 else if k = 1 then 1 else 5
def takesN (k : Nat) : Nat := if k = 3 then 12 else if k = 2 then 3 else 6
theorem takes_eq : ∀ k, k < 4 → takesT k = nI (takesN k) := by decide +kernel
theorem noise_eq : ∀ k, k < 4 → noiseT k = nI (noiseN k) := by decide +kernel
theorem takes_le (k : Nat) : takesN k ≤ 12 := by unfold takesN; split <;> (try split) <;> omega
theorem noise_le (k : Nat) : noiseN k ≤ 5 := by unfold noiseN; split <;> (try split) <;> omega
def atN (E : Es) (k : Nat) : Nat := (E (32 + k) + E 42 * E (35 + k)) % 6
def hearsB (E : Es) (t : Nat) : Nat → Bool
  | 0 => false
  | k + 1 => hearsB E t k || (decide (atN E k = E (17 + t)) && decide (E (38 + k) ≤ noiseN (E (12 + t))))
def hears (E : Es) (t : Nat) : Bool := hearsB E t (E 41)
theorem hearsB_up {E : Es} {t k n : Nat} (h : hearsB E t k = true) (hk : k ≤ n) : hearsB E t n = true := by
  induction n with
  | zero =>
    have e : k = 0 := by omega
    rw [e] at h
    exact h
  | succ n ih =>
    rcases Nat.lt_or_ge k (n + 1) with q | q
    · simp [hearsB, ih (by omega)]
    · have e : k = n + 1 := by omega
      rw [← e]
      exact h
def goE (hz : Bool) (t : Nat) (E : Es) : Es :=
  if 0 < E (27 + t) then up E (27 + t) (E (27 + t) - 1)
  else if hz = false ∧ hears E t = true then up (up E (27 + t) 7) 43 (min 999 (E 43 + 1))
  else up (up E (E (17 + t)) (E (E (17 + t)) - min (takesN (E (12 + t))) (E (E (17 + t))))) (22 + t) (min 999 (E (22 + t) + min (takesN (E (12 + t))) (E (E (17 + t)))))
def goT (hz : Bool) (t : Nat) (E : Es) : Nat :=
  if 0 < E (27 + t) then 0 else if hz = false ∧ hears E t = true then 0 else min (takesN (E (12 + t))) (E (E (17 + t)))
def goC (hz : Bool) (t : Nat) (E : Es) : Nat :=
  if 0 < E (27 + t) then 0 else if hz = false ∧ hears E t = true then 1 else 0
def sE (hz : Bool) : Nat → Es → Es
  | 0, E => E
  | n + 1, E => goE hz n (sE hz n E)
def sT (hz : Bool) : Nat → Es → Nat
  | 0, _ => 0
  | n + 1, E => sT hz n E + goT hz n (sE hz n E)
def sB (hz : Bool) : Nat → Es → Nat
  | 0, _ => 0
  | n + 1, E => sB hz n E + goC hz n (sE hz n E) * 2 ^ n
def sC (hz : Bool) : Nat → Es → Nat
  | 0, _ => 0
  | n + 1, E => sC hz n E + goC hz n (sE hz n E)
def growK (n : Nat) (E : Es) : Es := fun i => if i < n then min 60 (E i + E (6 + i)) else E i
def nE (hz : Bool) (E : Es) : Es := up (growK 6 (sE hz (E 44) E)) 42 (E 42 + 1)
def nT (hz : Bool) (E : Es) : Nat := sT hz (E 44) E
def nB (hz : Bool) (E : Es) : Nat := sB hz (E 44) E
def nC (hz : Bool) (E : Es) : Nat := sC hz (E 44) E
theorem up_WF {E : Es} (w : WF E) {i v : Nat} (h41 : i ≠ 41) (h44 : i ≠ 44) (h : (i < 6 → v ≤ 60) ∧ (6 ≤ i → i < 12 → v ≤ 9) ∧ (12 ≤ i → i < 17 → v < 4) ∧ (17 ≤ i → i < 22 → v < 6) ∧ (22 ≤ i → i < 27 → v ≤ 999) ∧ (27 ≤ i → i < 32 → v ≤ 20) ∧ (32 ≤ i → i < 35 → v < 6) ∧ (35 ≤ i → i < 38 → v ≤ 5) ∧ (38 ≤ i → i < 41 → 1 ≤ v ∧ v ≤ 9) ∧ (i = 42 → v ≤ 5000) ∧ (i = 43 → v ≤ 999)) : WF (up E i v) := by
  obtain ⟨w1, w2, w3, w4, w5, w6, w7⟩ := w
  have e41 : up E i v 41 = E 41 := up_n (Ne.symm h41)
  have e44 : up E i v 44 = E 44 := up_n (Ne.symm h44)
  unfold WF
  rw [e41, e44]
  refine ⟨fun g hg => ?_, fun t ht => ?_, fun k hk => ?_, w4, w5, ?_, ?_⟩
  · have := w1 g hg
    unfold up
    constructor
    · split <;> omega
    · split <;> omega
  · have := w2 t ht
    unfold up
    refine ⟨?_, ?_, ?_, ?_⟩ <;> split <;> omega
  · have := w3 k hk
    unfold up
    refine ⟨?_, ?_, ?_, ?_⟩ <;> split <;> omega
  · unfold up
    split <;> omega
  · unfold up
    split <;> omega
theorem goE_fix (hz : Bool) (t : Nat) (E : Es) (w : WF E) (ht : t < E 44) : WF (goE hz t E) ∧ goE hz t E 44 = E 44 ∧ goE hz t E 41 = E 41 ∧ goE hz t E 42 = E 42 := by
  have h5 := w.2.2.2.2.1
  have h2 := w.2.1 t ht
  have hl := w.1 (E (17 + t)) h2.2.1
  unfold goE
  split
  · refine ⟨up_WF w (by omega) (by omega) (by omega), up_n (by omega), up_n (by omega), up_n (by omega)⟩
  · split
    · refine ⟨up_WF (up_WF w (by omega) (by omega) (by omega)) (by omega) (by omega) (by omega), ?_, ?_, ?_⟩ <;> rw [up_n (by omega), up_n (by omega)]
    · refine ⟨up_WF (up_WF w (by omega) (by omega) (by omega)) (by omega) (by omega) (by omega), ?_, ?_, ?_⟩ <;> rw [up_n (by omega), up_n (by omega)]
theorem sE_fix (hz : Bool) (E : Es) (w : WF E) : ∀ n, n ≤ E 44 → WF (sE hz n E) ∧ sE hz n E 44 = E 44 ∧ sE hz n E 41 = E 41 ∧ sE hz n E 42 = E 42
  | 0, _ => ⟨w, rfl, rfl, rfl⟩
  | n + 1, h => by
    obtain ⟨a, b, c, d⟩ := sE_fix hz E w n (by omega)
    obtain ⟨a2, b2, c2, d2⟩ := goE_fix hz n (sE hz n E) a (by omega)
    exact ⟨a2, b2.trans b, c2.trans c, d2.trans d⟩
theorem goT_le (hz : Bool) (t : Nat) (E : Es) : goT hz t E ≤ 12 := by
  unfold goT
  have := takes_le (E (12 + t))
  split
  · omega
  · split
    · omega
    · omega
theorem sT_le (hz : Bool) (E : Es) : ∀ n, sT hz n E ≤ 12 * n
  | 0 => Nat.le_refl _
  | n + 1 => by
    have := sT_le hz E n
    have := goT_le hz n (sE hz n E)
    show sT hz n E + goT hz n (sE hz n E) ≤ 12 * (n + 1)
    omega
theorem goC_le (hz : Bool) (t : Nat) (E : Es) : goC hz t E ≤ 1 := by
  unfold goC
  split
  · omega
  · split <;> omega
theorem sB_lt (hz : Bool) (E : Es) : ∀ n, sB hz n E < 2 ^ n
  | 0 => by show 0 < 2 ^ 0; omega
  | n + 1 => by
    have h1 := sB_lt hz E n
    have h2 := goC_le hz n (sE hz n E)
    show sB hz n E + goC hz n (sE hz n E) * 2 ^ n < 2 ^ (n + 1)
    have h3 : goC hz n (sE hz n E) * 2 ^ n ≤ 1 * 2 ^ n := Nat.mul_le_mul_right _ h2
    rw [Nat.pow_succ]
    omega
theorem sC_le (hz : Bool) (E : Es) : ∀ n, sC hz n E ≤ n
  | 0 => Nat.le_refl _
  | n + 1 => by
    have := sC_le hz E n
    have := goC_le hz n (sE hz n E)
    show sC hz n E + goC hz n (sE hz n E) ≤ n + 1
    omega
theorem growK_WF {E : Es} (w : WF E) {n : Nat} (hn : n ≤ 6) : WF (growK n E) ∧ growK n E 44 = E 44 ∧ growK n E 41 = E 41 ∧ growK n E 42 = E 42 := by
  have e : ∀ i, 6 ≤ i → growK n E i = E i := fun i hi => if_neg (by omega)
  refine ⟨?_, e _ (by omega), e _ (by omega), e _ (by omega)⟩
  obtain ⟨w1, w2, w3, w4, w5, w6, w7⟩ := w
  unfold WF
  rw [e 41 (by omega), e 44 (by omega), e 42 (by omega), e 43 (by omega)]
  refine ⟨fun g hg => ⟨?_, ?_⟩, fun t ht => ?_, fun k hk => ?_, w4, w5, w6, w7⟩
  · have := w1 g hg
    unfold growK
    split <;> omega
  · rw [e _ (by omega)]
    exact (w1 g hg).2
  · rw [e _ (by omega), e _ (by omega), e _ (by omega), e _ (by omega)]
    exact w2 t ht
  · rw [e _ (by omega), e _ (by omega), e _ (by omega)]
    exact w3 k hk
theorem nE_fix (hz : Bool) (E : Es) (w : WF E) (h : E 42 < 5000) : WF (nE hz E) ∧ nE hz E 44 = E 44 ∧ nE hz E 41 = E 41 ∧ nE hz E 42 = E 42 + 1 := by
  obtain ⟨a, b, c, d⟩ := sE_fix hz E w (E 44) (Nat.le_refl _)
  obtain ⟨a2, b2, c2, d2⟩ := growK_WF a (n := 6) (Nat.le_refl _)
  refine ⟨up_WF a2 (by omega) (by omega) (by omega), ?_, ?_, up_s _ _ _⟩
  · exact (up_n (by omega)).trans (b2.trans b)
  · exact (up_n (by omega)).trans (c2.trans c)
theorem nT_le (hz : Bool) (E : Es) (w : WF E) : nT hz E ≤ 60 := by
  have := sT_le hz E (E 44)
  have := w.2.2.2.2.1
  unfold nT
  omega
theorem nB_lt (hz : Bool) (E : Es) (w : WF E) : nB hz E < 32 := by
  have h1 := sB_lt hz E (E 44)
  have h2 : 2 ^ (E 44) ≤ 2 ^ 5 := Nat.pow_le_pow_right (by omega) w.2.2.2.2.1
  unfold nB
  omega
theorem nC_le (hz : Bool) (E : Es) (w : WF E) : nC hz E ≤ 5 := by
  have := sC_le hz E (E 44)
  have := w.2.2.2.2.1
  unfold nC
  omega
/-- how many bits -/
def pop (b : Nat) : Nat := b % 2 + b / 2 % 2 + b / 4 % 2 + b / 8 % 2 + b / 16 % 2
theorem pop_sB (hz : Bool) (E : Es) : ∀ n, n ≤ 5 → pop (sB hz n E) = sC hz n E
  | 0, _ => by show pop 0 = 0; decide
  | n + 1, h => by
    have ih := pop_sB hz E n (by omega)
    have h1 := sB_lt hz E n
    have h2 := goC_le hz n (sE hz n E)
    show pop (sB hz n E + goC hz n (sE hz n E) * 2 ^ n) = sC hz n E + goC hz n (sE hz n E)
    rw [← ih]
    generalize sB hz n E = b at *
    generalize goC hz n (sE hz n E) = c at *
    unfold pop
    rcases (show n = 0 ∨ n = 1 ∨ n = 2 ∨ n = 3 ∨ n = 4 by omega) with rfl | rfl | rfl | rfl | rfl <;> omega
theorem nB_pop (hz : Bool) (E : Es) (w : WF E) : pop (nB hz E) = nC hz E := pop_sB hz E _ w.2.2.2.2.1
theorem pop_0 : ∀ b, b < 32 → (b = 0 ↔ pop b = 0) := by decide +kernel
theorem nB_0 (hz : Bool) (E : Es) (w : WF E) : nB hz E = 0 ↔ nC hz E = 0 := by
  have h1 := nB_pop hz E w
  have h2 := nB_lt hz E w
  rw [← h1]
  exact pop_0 _ h2
