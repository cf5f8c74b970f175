/-! numbers: Int32 and Nat -/
theorem vi {n N : Nat} (hn : n < 2 ^ 31) (hN : N < 2 ^ 31) : vp_in (nI n) N ↔ n < N := by
  constructor
  · intro h
    have := vp_in_iff.mp h
    rw [nI_toInt hn] at this
    omega
  · intro h
    exact vp_in_nI h hN
theorem l0 : (0 : Int32) = nI 0 := rfl
theorem l1 : (1 : Int32) = nI 1 := rfl
theorem l2 : (2 : Int32) = nI 2 := rfl
theorem l3 : (3 : Int32) = nI 3 := rfl
theorem l4 : (4 : Int32) = nI 4 := rfl
theorem l5 : (5 : Int32) = nI 5 := rfl
theorem l6 : (6 : Int32) = nI 6 := rfl
theorem l7 : (7 : Int32) = nI 7 := rfl
theorem l12 : (12 : Int32) = nI 12 := rfl
theorem l17 : (17 : Int32) = nI 17 := rfl
theorem l22 : (22 : Int32) = nI 22 := rfl
theorem l27 : (27 : Int32) = nI 27 := rfl
theorem l30 : (30 : Int32) = nI 30 := rfl
theorem l32 : (32 : Int32) = nI 32 := rfl
theorem l35 : (35 : Int32) = nI 35 := rfl
theorem l38 : (38 : Int32) = nI 38 := rfl
theorem l41 : (41 : Int32) = nI 41 := rfl
theorem l42 : (42 : Int32) = nI 42 := rfl
theorem l43 : (43 : Int32) = nI 43 := rfl
theorem l60 : (60 : Int32) = nI 60 := rfl
theorem l999 : (999 : Int32) = nI 999 := rfl
theorem irm6 {a : Nat} (h : a < 2 ^ 31) : irm (nI a) 6 = nI (a % 6) := pk_rem (d := 6) h (by omega) (by omega)
theorem sub_toInt {a b : Nat} (ha : a < 2 ^ 30) (hb : b < 2 ^ 30) : (nI a - nI b).toInt = (a : Int) - b := pk_sub_toInt ha hb
theorem sac (a b : Int32) : a - b + b = a := Int32.sub_add_cancel a b
theorem nIs {a b : Nat} (h : b ≤ a) : nI a - nI b = nI (a - b) := pk_sub h
theorem sub_sub_nI {a b c : Nat} (h : c ≤ a) : nI a - nI b - nI c = nI (a - c) - nI b := by
  rw [← nIs h]
  rw [Int32.sub_eq_add_neg, Int32.sub_eq_add_neg, Int32.sub_eq_add_neg, Int32.sub_eq_add_neg, Int32.add_assoc, Int32.add_assoc, Int32.add_comm (-nI b)]
theorem sl1 : ∀ t, t < 5 → sl 1 (nI t) = nI (2 ^ t) := by decide +kernel
theorem nI_or (a b : Nat) : nI a ||| nI b = nI (a ||| b) := by
  apply Int32.toBitVec_inj.mp
  show BitVec.ofNat 32 a ||| BitVec.ofNat 32 b = BitVec.ofNat 32 (a ||| b)
  rw [BitVec.ofNat_or]
/-- the estate, as one row of numbers: light 0.., growth 6.., kind 12.., gate 17.., bag 22.., held 27.., start 32.., step 35.., ear 38.., 41 keepers, 42 night, 43 catches, 44 takers -/
abbrev Es : Type := Nat → Nat
def up (E : Es) (i v : Nat) : Es := fun j => if j = i then v else E j
theorem up_s (E : Es) (i v : Nat) : up E i v i = v := if_pos rfl
theorem up_n {E : Es} {i v j : Nat} (h : j ≠ i) : up E i v j = E j := if_neg h
/-- where a number of the estate lies in the class's cells -/
def cx (i : Nat) : Nat × Nat := if i < 6 then (1, i) else if i < 12 then (2, i - 6) else if i < 17 then (3, i - 12) else if i < 22 then (4, i - 17) else if i < 27 then (5, i - 22) else if i < 32 then (6, i - 27) else if i < 35 then (7, i - 32) else if i < 38 then (8, i - 35) else if i < 41 then (9, i - 38) else if i = 41 then (0, 10) else if i = 42 then (0, 11) else if i = 43 then (0, 12) else (0, 9)
theorem cx_inj : ∀ i, i < 45 → ∀ j, j < 45 → cx i = cx j → i = j := by decide +kernel
theorem cx_lt : ∀ i, i < 45 → (cx i).1 < 10 ∧ (cx i).2 < 13 := by decide +kernel
def off (i : Nat) : Int32 := if i < 6 then nI 30 else if i < 12 then nI 2 else nI 0
/-- which numbers are told: those of the takers and keepers that there are -/
def ok (tk kp i : Nat) : Prop := i < 12 ∨ (12 ≤ i ∧ i < 32 ∧ (i - 12) % 5 < tk) ∨ (32 ≤ i ∧ i < 41 ∧ (i - 32) % 3 < kp) ∨ (41 ≤ i ∧ i < 45)
def EX (X : Mem) (o : Nat) (E : Es) : Prop := ∀ i, i < 45 → ok (E 44) (E 41) i → X (o + (cx i).1) (cx i).2 = nI (E i)
def PM (M : Mem) (p : Nat) (E : Es) : Prop := ∀ i, i < 44 → ok (E 44) (E 41) i → M 1 (p + i) = nI (E i) - off i
def WF (E : Es) : Prop := (∀ g, g < 6 → E g ≤ 60 ∧ E (6 + g) ≤ 9) ∧ (∀ t, t < E 44 → E (12 + t) < 4 ∧ E (17 + t) < 6 ∧ E (22 + t) ≤ 999 ∧ E (27 + t) ≤ 20) ∧ (∀ k, k < E 41 → E (32 + k) < 6 ∧ E (35 + k) ≤ 5 ∧ 1 ≤ E (38 + k) ∧ E (38 + k) ≤ 9) ∧ E 41 ≤ 3 ∧ E 44 ≤ 5 ∧ E 42 ≤ 5000 ∧ E 43 ≤ 999
theorem EX.lg {X : Mem} {o : Nat} {E : Es} (h : EX X o E) {g : Nat} (hg : g < 6) : X (o + 1) g = nI (E g) := by
  have := h g (by omega) (Or.inl (by omega))
  simpa [cx, hg] using this
theorem EX.gr {X : Mem} {o : Nat} {E : Es} (h : EX X o E) {g : Nat} (hg : g < 6) : X (o + 2) g = nI (E (6 + g)) := by
  have := h (6 + g) (by omega) (Or.inl (by omega))
  rw [show cx (6 + g) = (2, g) from by unfold cx; rw [if_neg (by omega), if_pos (by omega)]; simp] at this
  exact this
theorem okt {tk kp t b : Nat} (hb : b = 12 ∨ b = 17 ∨ b = 22 ∨ b = 27) (ht : t < tk) (h5 : tk ≤ 5) : ok tk kp (b + t) := by
  refine Or.inr (Or.inl ⟨by omega, by omega, ?_⟩)
  rcases hb with rfl | rfl | rfl | rfl <;> omega
theorem okk {tk kp k b : Nat} (hb : b = 32 ∨ b = 35 ∨ b = 38) (hk : k < kp) (h3 : kp ≤ 3) : ok tk kp (b + k) := by
  refine Or.inr (Or.inr (Or.inl ⟨by omega, by omega, ?_⟩))
  rcases hb with rfl | rfl | rfl <;> omega
theorem okl {tk kp i : Nat} (h : i < 12) : ok tk kp i := Or.inl h
theorem oks {tk kp i : Nat} (h : 41 ≤ i) (h2 : i < 45) : ok tk kp i := Or.inr (Or.inr (Or.inr ⟨h, h2⟩))
theorem cxt : ∀ t, t < 5 → cx (12 + t) = (3, t) ∧ cx (17 + t) = (4, t) ∧ cx (22 + t) = (5, t) ∧ cx (27 + t) = (6, t) := by decide +kernel
theorem cxk : ∀ k, k < 3 → cx (32 + k) = (7, k) ∧ cx (35 + k) = (8, k) ∧ cx (38 + k) = (9, k) := by decide +kernel
theorem cxg : ∀ g, g < 6 → cx g = (1, g) ∧ cx (6 + g) = (2, g) := by decide +kernel
theorem EX.tk {X : Mem} {o : Nat} {E : Es} (h : EX X o E) : X o 9 = nI (E 44) := h 44 (by omega) (oks (by omega) (by omega))
theorem EX.kp {X : Mem} {o : Nat} {E : Es} (h : EX X o E) : X o 10 = nI (E 41) := h 41 (by omega) (oks (by omega) (by omega))
theorem EX.ni {X : Mem} {o : Nat} {E : Es} (h : EX X o E) : X o 11 = nI (E 42) := h 42 (by omega) (oks (by omega) (by omega))
theorem EX.ca {X : Mem} {o : Nat} {E : Es} (h : EX X o E) : X o 12 = nI (E 43) := h 43 (by omega) (oks (by omega) (by omega))
theorem EX.tr {X : Mem} {o : Nat} {E : Es} (h : EX X o E) (w : WF E) {t : Nat} (ht : t < E 44) : X (o + 3) t = nI (E (12 + t)) ∧ X (o + 4) t = nI (E (17 + t)) ∧ X (o + 5) t = nI (E (22 + t)) ∧ X (o + 6) t = nI (E (27 + t)) := by
  have h5 := w.2.2.2.2.1
  obtain ⟨c1, c2, c3, c4⟩ := cxt t (by omega)
  have a1 := h (12 + t) (by omega) (okt (Or.inl rfl) ht h5)
  have a2 := h (17 + t) (by omega) (okt (Or.inr (Or.inl rfl)) ht h5)
  have a3 := h (22 + t) (by omega) (okt (Or.inr (Or.inr (Or.inl rfl))) ht h5)
  have a4 := h (27 + t) (by omega) (okt (Or.inr (Or.inr (Or.inr rfl))) ht h5)
  rw [c1] at a1
  rw [c2] at a2
  rw [c3] at a3
  rw [c4] at a4
  exact ⟨a1, a2, a3, a4⟩
theorem EX.kr {X : Mem} {o : Nat} {E : Es} (h : EX X o E) (w : WF E) {k : Nat} (hk : k < E 41) : X (o + 7) k = nI (E (32 + k)) ∧ X (o + 8) k = nI (E (35 + k)) ∧ X (o + 9) k = nI (E (38 + k)) := by
  have h3 := w.2.2.2.1
  obtain ⟨c1, c2, c3⟩ := cxk k (by omega)
  have a1 := h (32 + k) (by omega) (okk (Or.inl rfl) hk h3)
  have a2 := h (35 + k) (by omega) (okk (Or.inr (Or.inl rfl)) hk h3)
  have a3 := h (38 + k) (by omega) (okk (Or.inr (Or.inr rfl)) hk h3)
  rw [c1] at a1
  rw [c2] at a2
  rw [c3] at a3
  exact ⟨a1, a2, a3⟩
theorem mu_at (M : Mem) (o k : Nat) (v : Int32) (a b : Nat) : mu M o k v a b = if a = o ∧ b = k then v else M a b := by
  unfold mu mr upd
  by_cases h : a = o
  · subst h
    by_cases h2 : b = k <;> simp [h2]
  · simp [h]
theorem mu_c {M : Mem} {o k : Nat} {v : Int32} {a : Nat} (h : a ≠ o) : mu M o k v a = M a := by
  unfold mu
  exact mr_n h
/-- one number of an estate becomes another (not how many there are) -/
theorem EX.set {X : Mem} {o : Nat} {E : Es} (h : EX X o E) {i n : Nat} (hi : i < 45) (h41 : i ≠ 41) (h44 : i ≠ 44) : EX (mu X (o + (cx i).1) (cx i).2 (nI n)) o (up E i n) := by
  intro j hj hok
  rw [up_n (Ne.symm h41), up_n (Ne.symm h44)] at hok
  rw [mu_at]
  by_cases e : j = i
  · subst e
    rw [up_s, if_pos ⟨rfl, rfl⟩]
  · rw [up_n e, if_neg]
    · exact h j hj hok
    · intro q
      exact e (cx_inj j hj i hi (Prod.ext (by omega) q.2))
/-- a cell outside, or a place that is no number of the estate -/
theorem EX.out {X : Mem} {o : Nat} {E : Es} (h : EX X o E) {a k : Nat} {v : Int32} (ha : ∀ i, i < 45 → ¬ (o + (cx i).1 = a ∧ (cx i).2 = k)) : EX (mu X a k v) o E := by
  intro j hj hok
  rw [mu_at, if_neg (ha j hj)]
  exact h j hj hok
theorem EX.cell {X X' : Mem} {o : Nat} {E : Es} (h : EX X o E) (ha : ∀ c, c < 10 → X' (o + c) = X (o + c)) : EX X' o E := by
  intro j hj hok
  rw [ha _ (cx_lt j hj).1]
  exact h j hj hok
theorem PM.set {M : Mem} {p : Nat} {E : Es} (h : PM M p E) {i n : Nat} (hi : i < 44) (h41 : i ≠ 41) : PM (mu M 1 (p + i) (nI n - off i)) p (up E i n) := by
  intro j hj hok
  rw [up_n (Ne.symm h41), up_n (show (44 : Nat) ≠ i by omega)] at hok
  rw [mu_at]
  by_cases e : j = i
  · subst e
    rw [up_s, if_pos ⟨rfl, rfl⟩]
  · rw [up_n e, if_neg (by omega)]
    exact h j hj hok
theorem PM.out {M : Mem} {p : Nat} {E : Es} (h : PM M p E) {a k : Nat} {v : Int32} (ha : a ≠ 1 ∨ k < p ∨ p + 44 ≤ k) : PM (mu M a k v) p E := by
  intro j hj hok
  rw [mu_at, if_neg (by omega)]
  exact h j hj hok
