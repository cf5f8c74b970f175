/-! luck: who is caught under which hazes -/
def yes : Nat → Bool := fun _ => true
theorem hE_cg {h g : Nat → Bool} {E : Es} : ∀ n, (∀ i, i < n → h i = g i) → hE h n E = hE g n E
  | 0, _ => rfl
  | n + 1, e => by
    show nE (h n) (hE h n E) = nE (g n) (hE g n E)
    rw [hE_cg n (fun i hi => e i (by omega)), e n (by omega)]
theorem hB_cg {h g : Nat → Bool} {E : Es} : ∀ n, (∀ i, i < n → h i = g i) → hB h n E = hB g n E
  | 0, _ => rfl
  | n + 1, e => by
    show hB h n E ||| nB (h n) (hE h n E) = hB g n E ||| nB (g n) (hE g n E)
    rw [hB_cg n (fun i hi => e i (by omega)), hE_cg n (fun i hi => e i (by omega)), e n (by omega)]
theorem wN_cg {v : Nat} {h g : Nat → Bool} : ∀ n, (∀ i, i < n → h i = g i) → wN v h n = wN v g n
  | 0, _ => rfl
  | n + 1, e => by
    show wN v h n * (if h n = true then v else 10 - v) = wN v g n * (if g n = true then v else 10 - v)
    rw [wN_cg n (fun i hi => e i (by omega)), e n (by omega)]
/-- what no night changes -/
def stb (i : Nat) : Prop := (12 ≤ i ∧ i < 22) ∨ (32 ≤ i ∧ i < 42) ∨ i = 44
theorem goE_st {E : Es} {b : Bool} {u i : Nat} (w : WF E) (hu : u < E 44) (h : stb i ∨ i = 42 ∨ (27 ≤ i ∧ i < 32 ∧ i ≠ 27 + u)) : goE b u E i = E i := by
  have h5 := w.2.2.2.2.1
  have h2 := (w.2.1 u hu).2.1
  unfold stb at h
  unfold goE
  split
  · exact up_n (by omega)
  · split
    · rw [up_n (by omega), up_n (by omega)]
    · rw [up_n (by omega), up_n (by omega)]
theorem sE_st {E : Es} {b : Bool} {i : Nat} (w : WF E) : ∀ n, n ≤ E 44 → (stb i ∨ i = 42 ∨ (27 + n ≤ i ∧ i < 32)) → sE b n E i = E i
  | 0, _, _ => rfl
  | n + 1, hn, h => by
    obtain ⟨a, c, d, e⟩ := sE_fix b E w n (by omega)
    show goE b n (sE b n E) i = E i
    rw [goE_st a (by omega) (by rcases h with h | h | h; exact Or.inl h; exact Or.inr (Or.inl h); exact Or.inr (Or.inr (by omega)))]
    exact sE_st w n (by omega) (by rcases h with h | h | h; exact Or.inl h; exact Or.inr (Or.inl h); exact Or.inr (Or.inr (by omega)))
theorem sE_hi {E : Es} {b : Bool} {t : Nat} (w : WF E) : ∀ n, n ≤ E 44 → t < n → sE b n E (27 + t) = goE b t (sE b t E) (27 + t)
  | 0, _, h => by omega
  | n + 1, hn, h => by
    have h5 := w.2.2.2.2.1
    obtain ⟨a, c, d, e⟩ := sE_fix b E w n (by omega)
    by_cases z : t = n
    · subst z
      rfl
    · show goE b n (sE b n E) (27 + t) = _
      rw [goE_st a (by omega) (Or.inr (Or.inr (by omega)))]
      exact sE_hi w n (by omega) (by omega)
theorem nE_st {E : Es} {b : Bool} {i : Nat} (w : WF E) (h : stb i) : nE b E i = E i := by
  have h' := h
  unfold stb at h'
  show up (growK 6 (sE b (E 44) E)) 42 (E 42 + 1) i = E i
  rw [up_n (by omega)]
  show (if i < 6 then _ else sE b (E 44) E i) = E i
  rw [if_neg (by omega)]
  exact sE_st w _ (Nat.le_refl _) (Or.inl h)
theorem hE_st {E : Es} {h : Nat → Bool} {i : Nat} (w : WF E) (hi : stb i) : ∀ n, E 42 + n ≤ 5000 → hE h n E i = E i
  | 0, _ => rfl
  | n + 1, q => by
    obtain ⟨a, -, -, -⟩ := hE_fix h E w n (by omega)
    show nE (h n) (hE h n E) i = E i
    rw [nE_st a hi]
    exact hE_st w hi n (by omega)
theorem hears_cg {E F : Es} {t : Nat} (h : ∀ i, stb i ∨ i = 42 → E i = F i) (h5 : t < 5) (h3 : E 41 ≤ 3) : hears E t = hears F t := by
  unfold hears
  rw [← h 41 (Or.inl (Or.inr (Or.inl (by omega))))]
  have main : ∀ k, k ≤ 3 → hearsB E t k = hearsB F t k := by
    intro k
    induction k with
    | zero => intro _; rfl
    | succ k ih =>
      intro hk
      show (hearsB E t k || (decide (atN E k = E (17 + t)) && decide (E (38 + k) ≤ noiseN (E (12 + t))))) = (hearsB F t k || (decide (atN F k = F (17 + t)) && decide (F (38 + k) ≤ noiseN (F (12 + t)))))
      unfold atN
      rw [ih (by omega), h (32 + k) (Or.inl (Or.inr (Or.inl (by omega)))), h 42 (Or.inr rfl), h (35 + k) (Or.inl (Or.inr (Or.inl (by omega)))), h (17 + t) (Or.inl (Or.inl (by omega))), h (38 + k) (Or.inl (Or.inr (Or.inl (by omega)))), h (12 + t) (Or.inl (Or.inl (by omega)))]
  exact main _ h3
theorem nE_held {E : Es} {b : Bool} {t : Nat} (w : WF E) (ht : t < E 44) : nE b E (27 + t) = if 0 < E (27 + t) then E (27 + t) - 1 else if b = false ∧ hears E t = true then 7 else 0 := by
  have h5 := w.2.2.2.2.1
  obtain ⟨a, c, d, e⟩ := sE_fix b E w t (by omega)
  show up (growK 6 (sE b (E 44) E)) 42 (E 42 + 1) (27 + t) = _
  rw [up_n (by omega)]
  show (if 27 + t < 6 then _ else sE b (E 44) E (27 + t)) = _
  rw [if_neg (by omega), sE_hi w _ (Nat.le_refl _) ht]
  have e1 : sE b t E (27 + t) = E (27 + t) := sE_st w t (by omega) (Or.inr (Or.inr (by omega)))
  have e2 : hears (sE b t E) t = hears E t := hears_cg (fun i hi => sE_st w t (by omega) (by rcases hi with hi | hi; exact Or.inl hi; exact Or.inr (Or.inl hi))) (by omega) (by rw [d]; exact w.2.2.2.1)
  have g := (a.2.1 t (by omega)).2.1
  unfold goE
  rw [e1, e2]
  split
  · exact up_s _ _ _
  · split
    · rw [up_n (by omega), up_s]
    · rw [up_n (by omega), up_n (by omega), e1]
      omega
theorem sB_bit {E : Es} {b : Bool} {t : Nat} : ∀ n, t < n → (sB b n E).testBit t = decide (goC b t (sE b t E) = 1)
  | 0, h => by omega
  | n + 1, h => by
    have lt := sB_lt b E n
    have cl := goC_le b n (sE b n E)
    show (sB b n E + goC b n (sE b n E) * 2 ^ n).testBit t = _
    rw [Nat.add_comm, Nat.mul_comm, Nat.testBit_two_pow_mul_add _ lt]
    by_cases z : t < n
    · rw [if_pos z]
      exact sB_bit n z
    · rw [if_neg z]
      have : t = n := by omega
      subst this
      rw [Nat.sub_self]
      rcases (show goC b t (sE b t E) = 0 ∨ goC b t (sE b t E) = 1 by omega) with e | e
      · rw [e]
        rfl
      · rw [e]
        rfl
theorem nB_bit {E : Es} {b : Bool} {t : Nat} (w : WF E) (ht : t < E 44) : (nB b E).testBit t = (decide (E (27 + t) = 0) && (!b && hears E t)) := by
  have h5 := w.2.2.2.2.1
  obtain ⟨a, c, d, e⟩ := sE_fix b E w t (by omega)
  have e1 : sE b t E (27 + t) = E (27 + t) := sE_st w t (by omega) (Or.inr (Or.inr (by omega)))
  have e2 : hears (sE b t E) t = hears E t := hears_cg (fun i hi => sE_st w t (by omega) (by rcases hi with hi | hi; exact Or.inl hi; exact Or.inr (Or.inl hi))) (by omega) (by rw [d]; exact w.2.2.2.1)
  unfold nB
  rw [sB_bit _ ht]
  unfold goC
  rw [e1, e2]
  by_cases z : E (27 + t) = 0
  · rw [if_neg (by omega), decide_eq_true z]
    cases b <;> cases hears E t <;> rfl
  · rw [if_pos (by omega), decide_eq_false z]
    rfl
