/-! where to look -/
def cnB (f : Nat → Bool) : Nat → Nat
  | 0 => 0
  | u + 1 => cnB f u + (if f u = true then 1 else 0)
theorem cnB_le (f : Nat → Bool) : ∀ u, cnB f u ≤ u
  | 0 => Nat.le_refl _
  | u + 1 => by
    have := cnB_le f u
    show cnB f u + (if f u = true then 1 else 0) ≤ u + 1
    split <;> omega
def ft6 (b0 b1 b2 b3 b4 b5 : Bool) : Int32 :=
  let x1 : Int32 := if b0 = true then 0 ||| sl 1 (nI 0) else 0
  let x2 : Int32 := if b1 = true then x1 ||| sl 1 (nI 1) else x1
  let x3 : Int32 := if b2 = true then x2 ||| sl 1 (nI 2) else x2
  let x4 : Int32 := if b3 = true then x3 ||| sl 1 (nI 3) else x3
  let x5 : Int32 := if b4 = true then x4 ||| sl 1 (nI 4) else x4
  if b5 = true then x5 ||| sl 1 (nI 5) else x5
theorem ft6_bits : ∀ b0 b1 b2 b3 b4 b5 : Bool, (sr (ft6 b0 b1 b2 b3 b4 b5) (nI 0) &&& 1 = if b0 = true then 1 else 0) ∧ (sr (ft6 b0 b1 b2 b3 b4 b5) (nI 1) &&& 1 = if b1 = true then 1 else 0) ∧ (sr (ft6 b0 b1 b2 b3 b4 b5) (nI 2) &&& 1 = if b2 = true then 1 else 0) ∧ (sr (ft6 b0 b1 b2 b3 b4 b5) (nI 3) &&& 1 = if b3 = true then 1 else 0) ∧ (sr (ft6 b0 b1 b2 b3 b4 b5) (nI 4) &&& 1 = if b4 = true then 1 else 0) ∧ (sr (ft6 b0 b1 b2 b3 b4 b5) (nI 5) &&& 1 = if b5 = true then 1 else 0) := by decide +kernel
theorem ft_bit (f : Nat → Bool) {u : Nat} (hu : u < 6) : sr (ftB f 6) (nI u) &&& 1 = if f u = true then 1 else 0 := by
  have e : ftB f 6 = ft6 (f 0) (f 1) (f 2) (f 3) (f 4) (f 5) := rfl
  obtain ⟨h0, h1, h2, h3, h4, h5⟩ := ft6_bits (f 0) (f 1) (f 2) (f 3) (f 4) (f 5)
  rw [e]
  rcases (show u = 0 ∨ u = 1 ∨ u = 2 ∨ u = 3 ∨ u = 4 ∨ u = 5 by omega) with rfl | rfl | rfl | rfl | rfl | rfl
  · exact h0
  · exact h1
  · exact h2
  · exact h3
  · exact h4
  · exact h5
/-- how many of the first u that fit are alike, and the most -/
def mA (f : Nat → Bool) (l : Nat → Nat) (x : Nat) : Nat → Nat
  | 0 => 0
  | b + 1 => mA f l x b + (if f b = true ∧ x = l b then 1 else 0)
def mW (f : Nat → Bool) (l : Nat → Nat) : Nat → Nat
  | 0 => 0
  | a + 1 => if f a = true then max (mW f l a) (mA f l (l a) 6) else mW f l a
theorem mA_le (f : Nat → Bool) (l : Nat → Nat) (x : Nat) : ∀ u, mA f l x u ≤ u
  | 0 => Nat.le_refl _
  | u + 1 => by
    have := mA_le f l x u
    show mA f l x u + (if f u = true ∧ x = l u then 1 else 0) ≤ u + 1
    split <;> omega
theorem mW_le (f : Nat → Bool) (l : Nat → Nat) : ∀ u, mW f l u ≤ 6
  | 0 => by show 0 ≤ 6; omega
  | u + 1 => by
    have := mW_le f l u
    have := mA_le f l (l u) 6
    show (if f u = true then max (mW f l u) (mA f l (l u) 6) else mW f l u) ≤ 6
    split <;> omega
/-- the same by the places of those that fit -/
def qrA (r : Nat → Nat) (x : Nat) : Nat → Nat
  | 0 => 0
  | b + 1 => qrA r x b + (if x = r b then 1 else 0)
def qrW (r : Nat → Nat) (c : Nat) : Nat → Nat
  | 0 => 0
  | a + 1 => max (qrW r c a) (qrA r (r a) c)
theorem qrA_eq {f : Nat → Bool} {l r : Nat → Nat} {n : Nat} (h : ∀ b, b < n → f b = true → r (cnB f b) = l b) (x : Nat) : ∀ u, u ≤ n → qrA r x (cnB f u) = mA f l x u
  | 0, _ => rfl
  | u + 1, hu => by
    have ih := qrA_eq h x u (by omega)
    show qrA r x (cnB f u + (if f u = true then 1 else 0)) = mA f l x u + (if f u = true ∧ x = l u then 1 else 0)
    by_cases z : f u = true
    · rw [if_pos z]
      show qrA r x (cnB f u) + (if x = r (cnB f u) then 1 else 0) = _
      rw [ih, h u (by omega) z]
      by_cases y : x = l u
      · rw [if_pos y, if_pos ⟨z, y⟩]
      · rw [if_neg y, if_neg (fun q => y q.2)]
    · rw [if_neg z, if_neg (fun q => z q.1)]
      exact ih
theorem qrW_eq {f : Nat → Bool} {l r : Nat → Nat} (h : ∀ b, b < 6 → f b = true → r (cnB f b) = l b) : ∀ u, u ≤ 6 → qrW r (cnB f 6) (cnB f u) = mW f l u
  | 0, _ => rfl
  | u + 1, hu => by
    have ih := qrW_eq h u (by omega)
    show qrW r (cnB f 6) (cnB f u + (if f u = true then 1 else 0)) = (if f u = true then max (mW f l u) (mA f l (l u) 6) else mW f l u)
    by_cases z : f u = true
    · rw [if_pos z, if_pos z]
      show max (qrW r (cnB f 6) (cnB f u)) (qrA r (r (cnB f u)) (cnB f 6)) = _
      rw [ih, h u (by omega) z, qrA_eq h _ 6 (by omega)]
    · rw [if_neg z, if_neg z]
      exact ih
theorem nI_max {a b : Nat} (ha : a < 2 ^ 31) (hb : b < 2 ^ 31) : (if nI a < nI b then nI b else nI a) = nI (max a b) := by
  by_cases z : a < b
  · rw [if_pos (nI_lt z hb), show max a b = b by omega]
  · rw [if_neg (nI_nlt (by omega) ha), show max a b = a by omega]
theorem nI_maxL {a b : Nat} (ha : a < 2 ^ 31) (hb : b < 2 ^ 31) : (if nI b ≤ nI a then nI a else nI b) = nI (max a b) := by
  by_cases z : b ≤ a
  · rw [if_pos (nI_le z ha), show max a b = a by omega]
  · rw [if_neg (nI_ge (by omega) hb), show max a b = b by omega]
theorem qrA_le (r : Nat → Nat) (x : Nat) : ∀ u, qrA r x u ≤ u
  | 0 => Nat.le_refl _
  | u + 1 => by
    have := qrA_le r x u
    show qrA r x u + (if x = r u then 1 else 0) ≤ u + 1
    split <;> omega
theorem qrW_le (r : Nat → Nat) (c : Nat) : ∀ u, qrW r c u ≤ c
  | 0 => Nat.zero_le _
  | u + 1 => by
    have := qrW_le r c u
    have := qrA_le r (r u) c
    show max (qrW r c u) (qrA r (r u) c) ≤ c
    omega
theorem w_worst {N : Mem} {c k g : Nat} {r : Nat → Nat} {Q : Int32 → Prop} (hc : c ≤ 6) (hk : k ≤ 20) (hg : g < 6) (h : N 29 1 = nI c) (hr : ∀ b, b < c → N (31 + b) (6 * k + g) = nI (r b)) (hb : ∀ b, b < c → r b ≤ 60) (q : Q (nI (qrW r c c))) : w_X1_leftAtWorst (nI k) (nI g) N Q := by
  unfold w_X1_leftAtWorst
  rw [show nI k * 6 + nI g = nI (6 * k + g) from by rw [show nI k * 6 = nI (k * 6) from nIm k 6, nI_add, Nat.mul_comm]]
  refine pk_loop (fun m a (_ : Unit) => fu2 (w_X1_leftAtWorst_13 (nI (6 * k + g)) N Q) m (nI (qrW r c a)) (nI a)) (fun _ _ => True) c 0 () (by omega) trivial (fun m _ _ => ?_) (fun m a _ ha _ ih => ?_)
  · show w_X1_leftAtWorst_13 _ _ _ _ _ _
    unfold w_X1_leftAtWorst_13
    rw [h]
    exact pk_le c c (fun _ => q) (fun z => by omega)
  · show w_X1_leftAtWorst_13 (nI (6 * k + g)) N Q (fu2 (w_X1_leftAtWorst_13 (nI (6 * k + g)) N Q) m) _ _
    generalize fu2 (w_X1_leftAtWorst_13 (nI (6 * k + g)) N Q) m = K at ih ⊢
    unfold w_X1_leftAtWorst_13
    rw [h]
    refine pk_le c a (fun z => by omega) (fun _ => ?_)
    refine pk_loop (fun m b (_ : Unit) => fu2 (w_X1_leftAtWorst_28 (nI (6 * k + g)) (nI (qrW r c a)) (nI a) N K Q) m (nI (qrA r (r a) b)) (nI b)) (fun _ _ => True) c 0 () (by omega) trivial (fun m _ _ => ?_) (fun m b _ hb' _ ih2 => ?_)
    · show w_X1_leftAtWorst_28 _ _ _ _ _ _ _ _ _
      unfold w_X1_leftAtWorst_28
      rw [h]
      refine pk_le c c (fun _ => ?_) (fun z => by omega)
      unfold w_X1_leftAtWorst_74
      have l1 := qrW_le r c a
      have l2 := qrA_le r (r a) c
      rw [nI_max (by omega) (by omega), nI_1]
      exact ih () trivial
    · show w_X1_leftAtWorst_28 (nI (6 * k + g)) (nI (qrW r c a)) (nI a) N K Q (fu2 (w_X1_leftAtWorst_28 (nI (6 * k + g)) (nI (qrW r c a)) (nI a) N K Q) m) _ _
      generalize fu2 (w_X1_leftAtWorst_28 (nI (6 * k + g)) (nI (qrW r c a)) (nI a) N K Q) m = K2 at ih2 ⊢
      unfold w_X1_leftAtWorst_28
      rw [h]
      refine pk_le c b (fun z => by omega) (fun _ => ?_)
      have e1 : N (rowI (nI a).toNatClampNeg) (nI (6 * k + g)).toNatClampNeg = nI (r a) := by
        rw [nI_clamp (by omega), nI_clamp (by omega)]
        exact hr a ha
      have e2 : N (rowI (nI b).toNatClampNeg) (nI (6 * k + g)).toNatClampNeg = nI (r b) := by
        rw [nI_clamp (by omega), nI_clamp (by omega)]
        exact hr b hb'
      rw [e1, e2]
      refine ⟨vp_in_nI (by omega) (by omega), vp_in_nI (by omega) (by omega), vp_in_nI (by omega) (by omega), vp_in_nI (by omega) (by omega), fun v6 e6 => ?_⟩
      have key := ih2 () trivial
      rw [nI_1]
      have b1 := hb a ha
      have b2 := hb b hb'
      have e7 : v6 = nI (qrA r (r a) (b + 1)) := by
        rw [e6]
        show _ = nI (qrA r (r a) b + (if r a = r b then 1 else 0))
        by_cases z : r a = r b
        · rw [if_pos (by rw [z]), if_pos z]
          exact nI_add _ 1
        · rw [if_neg (fun e => z ((nI_eq (by omega) (by omega)).mp e)), if_neg z]
          exact nI_add _ 0
      rw [e7]
      exact key
theorem m_worst {N : Mem} {f : Nat → Bool} {k g : Nat} {l : Nat → Nat} {Q : Int32 → Prop} (hk : k ≤ 20) (hg : g < 6) (hl : ∀ b, b < 6 → N 7 (126 * b + (6 * k + g)) = nI (l b) - nI 30) (hb : ∀ b, b < 6 → l b ≤ 60) (q : Q (nI (mW f l 6))) : w_X8_worstAt (ftB f 6) (nI (6 * k + g)) N Q := by
  refine pk_loop (fun m a (_ : Unit) => fu2 (w_X8_worstAt_5 (ftB f 6) (nI (6 * k + g)) N Q) m (nI (mW f l a)) (nI a)) (fun _ _ => True) 6 0 () (by omega) trivial (fun m _ _ => ?_) (fun m a _ ha _ ih => ?_)
  · exact pk_le 6 6 (fun _ => q) (fun z => by omega)
  · show w_X8_worstAt_5 (ftB f 6) (nI (6 * k + g)) N Q (fu2 (w_X8_worstAt_5 (ftB f 6) (nI (6 * k + g)) N Q) m) _ _
    generalize fu2 (w_X8_worstAt_5 (ftB f 6) (nI (6 * k + g)) N Q) m = K at ih ⊢
    refine pk_le 6 a (fun z => by omega) (fun _ => ?_)
    have key := ih () trivial
    have w1 := mW_le f l a
    by_cases z : f a = true
    · rw [show mW f l (a + 1) = max (mW f l a) (mA f l (l a) 6) from if_pos z] at key
      refine pk_loop (fun m b (_ : Unit) => fu2 (w_X8_worstAt_18 (ftB f 6) (nI (6 * k + g)) (nI (mW f l a)) (nI a) N K Q) m (nI (mA f l (l a) b)) (nI b)) (fun _ _ => True) 6 0 () (by omega) trivial (fun m _ _ => ?_) (fun m b _ hb' _ ih2 => ?_)
      · refine pk_le 6 6 (fun _ => ?_) (fun z => by omega)
        unfold w_X8_worstAt_88
        have w2 := mA_le f l (l a) 6
        rw [nI_maxL (by omega) (by omega), nI_1]
        exact key
      · show w_X8_worstAt_18 (ftB f 6) (nI (6 * k + g)) (nI (mW f l a)) (nI a) N K Q (fu2 (w_X8_worstAt_18 (ftB f 6) (nI (6 * k + g)) (nI (mW f l a)) (nI a) N K Q) m) _ _
        generalize fu2 (w_X8_worstAt_18 (ftB f 6) (nI (6 * k + g)) (nI (mW f l a)) (nI a) N K Q) m = K2 at ih2 ⊢
        have key2 := ih2 () trivial
        refine pk_le 6 b (fun z => by omega) (fun _ => ?_)
        rw [ft_bit f ha, ft_bit f hb', if_pos z]
        refine ⟨fun _ => ?_, fun y => absurd rfl y⟩
        unfold w_X8_worstAt_78 w_X8_worstAt_79
        rw [show (126 : Int32) * nI a = nI (126 * a) from nIm 126 a, show (126 : Int32) * nI b = nI (126 * b) from nIm 126 b, nI_add, nI_add, nI_clamp (by omega), nI_clamp (by omega), hl a ha, hl b hb', nI_1]
        by_cases y : f b = true
        · rw [if_pos y]
          refine ⟨fun _ => ⟨vp_in_nI (by omega) (by omega), vp_in_nI (by omega) (by omega), fun e => ?_, fun e => ?_⟩, fun q => absurd rfl q⟩
          · have e' : l a = l b := by
              have := congrArg (· + nI 30) e
              simp only [sac] at this
              exact (nI_eq (by have := hb a ha; omega) (by have := hb b hb'; omega)).mp this
            rw [show mA f l (l a) (b + 1) = mA f l (l a) b + 1 from by show mA f l (l a) b + (if f b = true ∧ l a = l b then 1 else 0) = _; rw [if_pos ⟨y, e'⟩]] at key2
            rw [nI_1]
            exact key2
          · have e' : ¬ l a = l b := fun q => e (by rw [q])
            rw [show mA f l (l a) (b + 1) = mA f l (l a) b from by show mA f l (l a) b + (if f b = true ∧ l a = l b then 1 else 0) = _; rw [if_neg (fun q => e' q.2)]; rfl] at key2
            rw [Int32.add_zero, nI_1]
            exact key2
        · rw [if_neg y]
          refine ⟨fun q => absurd q (by decide), fun _ => ?_⟩
          rw [show mA f l (l a) (b + 1) = mA f l (l a) b from by show mA f l (l a) b + (if f b = true ∧ l a = l b then 1 else 0) = _; rw [if_neg (fun q => y q.1)]; rfl] at key2
          rw [Int32.add_zero, nI_1]
          exact key2
    · rw [show mW f l (a + 1) = mW f l a from if_neg z] at key
      refine ⟨1, ?_⟩
      show w_X8_worstAt_18 _ _ _ _ _ _ _ _ _ _
      unfold w_X8_worstAt_18
      rw [ft_bit f ha, if_neg z]
      refine pk_le 6 0 (fun z => by omega) (fun _ => ⟨fun q => absurd q (by decide), fun _ => ?_⟩)
      unfold w_X8_worstAt_88
      rw [if_pos (nI_pos' (by omega)), nI_1]
      exact key
/-- the class's rows -/
def hX' (X N : Mem) (c : Nat) : Prop := ∀ a, a < 11 ∨ (22 ≤ a ∧ a ≠ 29 ∧ a ≠ 31 + c) → N a = X a
def rowX (N : Mem) (c k : Nat) (E : Es) : Prop := ∀ i j, i < k → j < 6 → N (31 + c) (6 * i + j) = nI (hE no i E j)
theorem mc_at2 {M : Mem} {o0 o1 d n j : Nat} (hd : d < 2 ^ 31) (hn : n < 2 ^ 31) : mc M o0 0 o1 (nI d) (nI n) o1 j = if d ≤ j ∧ j < d + n then M o0 (j - d) else M o1 j := by
  unfold mc
  rw [mr_s, nI_clamp hn, nI_clamp hd, show (0 : Int32).toNatClampNeg = 0 from rfl]
  by_cases z : d ≤ j ∧ j < d + n
  · rw [if_pos z, pk_cpy_in z.1 z.2, Nat.zero_add]
  · rw [if_neg z, pk_cpy_out (by omega)]
theorem w_add {N : Mem} {E : Es} {c : Nat} {Q : Mem → Prop} (t : TX N E 0 0 0 0 0) (w : WF E) (h9 : E 42 ≤ 999) (hc : c < 6) (h : N 29 1 = nI c) (q : ∀ N', rowX N' c 21 E → N' 29 1 = nI (c + 1) → hX' N N' c → Q N') : w_X1_add N Q := by
  unfold w_X1_add
  rw [h]
  refine pk_lt c 6 (fun _ => ?_) (fun z => by omega)
  refine pk_loop (fun m k K => fu2 (w_X1_add_12 Q) m (nI k) K) (fun k K => TXn K no k E ∧ K 29 1 = nI c ∧ rowX K c k E ∧ hX' N K c) 21 0 N (by omega) ⟨t, h, fun i j hi => by omega, fun _ _ => rfl⟩ (fun m K hI => ?_) (fun m k K hk hI ih => ?_)
  · obtain ⟨t1, c1, r1, f1⟩ := hI
    refine pk_lt 20 21 (fun _ => ?_) (fun z => by omega)
    intro M3 e3
    rw [c1, nI_1] at e3
    refine q M3 (fun i j hi hj => ?_) ?_ (fun a ha => ?_)
    · rw [e3, mu_c (by omega)]
      exact r1 i j hi hj
    · rw [e3, mu_at, if_pos ⟨rfl, rfl⟩]
    · rw [e3, mu_c (by omega)]
      exact f1 a ha
  · obtain ⟨t1, c1, r1, f1⟩ := hI
    show w_X1_add_12 Q (fu2 (w_X1_add_12 Q) m) _ _
    generalize fu2 (w_X1_add_12 Q) m = K12 at ih ⊢
    unfold w_X1_add_12
    rw [c1, nI_clamp (by omega), show nI k * 6 = nI (k * 6) from nIm k 6]
    refine pk_lt 20 k (fun z => by omega) (fun _ => ⟨vp_in_nI (by omega) (by omega), ?_, fun M5 e5 => ?_⟩)
    · unfold cpOk
      rw [nI_clamp (by omega), show (0 : Int32).toNatClampNeg = 0 from rfl, show (6 : Int32).toNatClampNeg = 6 from rfl]
      exact ⟨by decide, nI_pos (by omega), by decide, by omega, by omega⟩
    · have e5' : M5 = mc K 13 0 (31 + c) (nI (k * 6)) (nI 6) := e5
      have z5 : ∀ a, a ≠ 31 + c → M5 a = K a := fun a ha => by rw [e5', mc_c ha]
      have t5 : TXn M5 no k E := by
        obtain ⟨y0, y1, y2, y3, y4, y5⟩ := t1
        exact ⟨y0.cell (fun x hx => z5 _ (by omega)), by rw [z5 11 (by omega)]; exact y1, by rw [z5 11 (by omega)]; exact y2, by rw [z5 11 (by omega)]; exact y3, by rw [z5 11 (by omega)]; exact y4, by rw [z5 11 (by omega)]; exact y5⟩
      refine w_step t5 w (by omega) ⟨fun _ => rfl, fun _ => rfl⟩ (fun M7 t7 g7 => ?_)
      rw [nI_1]
      refine ih M7 ⟨t7, ?_, fun i j hi hj => ?_, fun a ha => ?_⟩
      · rw [g7 29 (by omega), z5 29 (by omega)]
        exact c1
      · rw [g7 (31 + c) (by omega), e5', mc_at2 (by omega) (by omega)]
        by_cases z : i = k
        · subst z
          rw [if_pos (by omega), show 6 * i + j - i * 6 = j by omega]
          exact t1.1.lg hj
        · rw [if_neg (by omega)]
          exact r1 i j (by omega) hj
      · rw [g7 a (by omega), z5 a (by omega)]
        exact f1 a ha
/-- what is least, and where -/
def akm (z : Nat) (f : Nat → Nat) : Nat → Int32
  | 0 => nI z
  | p + 1 => if akm z f p ≤ nI (f p) then akm z f p else nI (f p)
def akw (z : Nat) (f : Nat → Nat) : Nat → Int32
  | 0 => -4
  | p + 1 => if akm z f p ≤ nI (f p) then akw z f p else (10 * nI (p / 6)) + nI (p % 6)
def akV (z : Nat) (f : Nat → Nat) (k : Int32) : Int32 := if k = 0 then akw z f 126 else (if akw z f 126 = -4 then akw z f 126 else akm z f 126)
def lyt (E : Es) (t p b : Nat) : Nat := hE no (p / 6) (up E (17 + t) b) (p % 6)
def akF (f : Nat → Bool) (E : Es) (t p : Nat) : Nat := mW f (lyt E t p) 6
/-- all but the trial and the outlook -/
def yX (X N : Mem) : Prop := ∀ a, a < 11 ∨ (22 ≤ a ∧ a < 29) ∨ 37 ≤ a → N a = X a
theorem yX.q {X N : Mem} (h : yX X N) : qX X N := ⟨fun a ha => h a (by omega), fun a ha => h a (by omega)⟩
theorem yX.ex {X N : Mem} {E : Es} (f : yX X N) (h : EX X 1 E) : EX N 1 E := h.cell (fun c hc => f _ (by omega))
theorem c_ask {X : Mem} {f : Nat → Bool} {E : Es} {t : Nat} {y : Int32} {Q : Int32 → Mem → Prop} (h : EX X 1 E) (w : WF E) (h9 : E 42 ≤ 999) (ht : t < E 44) (X8 : Mem) (y8 : yX X X8) (c8 : X8 29 1 = nI 0) (q : ∀ X', qX X X' → Q (akV (cnB f 6) (akF f E t) y) X') : ∃ m, fu2 (w_X7_ask_46 (nI t) y (ftB f 6) Q) m 0 X8 := by
  have h5 := w.2.2.2.2.1
  have wu : ∀ b, b < 6 → WF (up E (17 + t) b) := fun b hb => up_WF w (by omega) (by omega) (by omega)
  have nu : ∀ b, up E (17 + t) b 42 = E 42 := fun b => up_n (by omega)
  refine pk_loop (fun m u N => fu2 (w_X7_ask_46 (nI t) y (ftB f 6) Q) m (nI u) N) (fun u N => yX X N ∧ N 29 1 = nI (cnB f u) ∧ ∀ b, b < u → f b = true → rowX N (cnB f b) 21 (up E (17 + t) b)) 6 0 X8 (by omega) ⟨y8, c8, fun b hb => by omega⟩ (fun m N hI => ?_) (fun m u N hu hI ih => ?_)
  · obtain ⟨yN, cN, rN⟩ := hI
    refine pk_le 6 6 (fun _ => ?_) (fun z => by omega)
    unfold w_X7_ask_105
    rw [cN]
    have hc6 := cnB_le f 6
    refine pk_loop (fun m n (_ : Unit) => fu3 (w_X7_ask_121 y N Q) m (akw (cnB f 6) (akF f E t) (6 * n)) (akm (cnB f 6) (akF f E t) (6 * n)) (nI n)) (fun _ _ => True) 21 0 () (by omega) trivial (fun m _ _ => ?_) (fun m n _ hn _ ih => ?_)
    · exact pk_lt 20 21 (fun _ => q N yN.q) (fun z => by omega)
    · show w_X7_ask_121 y N Q (fu3 (w_X7_ask_121 y N Q) m) _ _ _
      generalize fu3 (w_X7_ask_121 y N Q) m = K at ih ⊢
      refine pk_lt 20 n (fun z => by omega) (fun _ => ?_)
      refine pk_loop (fun m g (_ : Unit) => fu3 (w_X7_ask_131 y (nI n) N K Q) m (akw (cnB f 6) (akF f E t) (6 * n + g)) (akm (cnB f 6) (akF f E t) (6 * n + g)) (nI g)) (fun _ _ => True) 6 0 () (by omega) trivial (fun m _ _ => ?_) (fun m g _ hg _ ih2 => ?_)
      · refine pk_le 6 6 (fun _ => ?_) (fun z => by omega)
        unfold w_X7_ask_178
        rw [nI_1]
        exact ih () trivial
      · show w_X7_ask_131 y (nI n) N K Q (fu3 (w_X7_ask_131 y (nI n) N K Q) m) _ _ _
        generalize fu3 (w_X7_ask_131 y (nI n) N K Q) m = K2 at ih2 ⊢
        refine pk_le 6 g (fun z => by omega) (fun _ => ?_)
        have d1 : (6 * n + g) / 6 = n := by omega
        have d2 : (6 * n + g) % 6 = g := by omega
        have ex : ∃ r : Nat → Nat, ∀ b, b < 6 → f b = true → r (cnB f b) = lyt E t (6 * n + g) b ∧ N (31 + cnB f b) (6 * n + g) = nI (r (cnB f b)) := by
          refine ⟨fun c => (N (31 + c) (6 * n + g)).toNatClampNeg, fun b hb fb => ?_⟩
          have e := rN b hb fb n g (by omega) hg
          obtain ⟨w2, -, -, -⟩ := hE_fix no _ (wu b hb) n (by rw [nu]; omega)
          have bd := (w2.1 g hg).1
          have e1 : (N (31 + cnB f b) (6 * n + g)).toNatClampNeg = hE no n (up E (17 + t) b) g := by rw [e, nI_clamp (by omega)]
          have e2 : lyt E t (6 * n + g) b = hE no n (up E (17 + t) b) g := by
            unfold lyt
            rw [d1, d2]
          simp only [e1, e2]
          exact ⟨trivial, e⟩
        obtain ⟨r, hr⟩ := ex
        have onto : ∀ u, u ≤ 6 → ∀ c, c < cnB f u → ∃ b, b < u ∧ f b = true ∧ cnB f b = c := by
          intro u
          induction u with
          | zero => intro _ c hc; exact absurd hc (Nat.not_lt_zero _)
          | succ u ihu =>
            intro hu c hc
            have hc' : c < cnB f u + (if f u = true then 1 else 0) := hc
            by_cases z : c < cnB f u
            · obtain ⟨b, b1, b2, b3⟩ := ihu (by omega) c z
              exact ⟨b, by omega, b2, b3⟩
            · by_cases z2 : f u = true
              · rw [if_pos z2] at hc'
                exact ⟨u, by omega, z2, by omega⟩
              · rw [if_neg z2] at hc'
                omega
        have key := ih2 () trivial
        refine w_worst (r := r) hc6 (by omega) hg cN (fun c hc => ?_) (fun c hc => ?_) ?_
        · obtain ⟨b, b1, b2, b3⟩ := onto 6 (by omega) c hc
          rw [← b3]
          exact (hr b b1 b2).2
        · obtain ⟨b, b1, b2, b3⟩ := onto 6 (by omega) c hc
          rw [← b3, (hr b b1 b2).1]
          unfold lyt
          rw [d1, d2]
          obtain ⟨w2, -, -, -⟩ := hE_fix no _ (wu b b1) n (by rw [nu]; omega)
          exact (w2.1 g hg).1
        · rw [qrW_eq (fun b hb fb => (hr b hb fb).1) 6 (by omega), nI_1]
          rw [show akw (cnB f 6) (akF f E t) (6 * n + (g + 1)) = (if akm (cnB f 6) (akF f E t) (6 * n + g) ≤ nI (akF f E t (6 * n + g)) then akw (cnB f 6) (akF f E t) (6 * n + g) else (10 * nI ((6 * n + g) / 6)) + nI ((6 * n + g) % 6)) from rfl, show akm (cnB f 6) (akF f E t) (6 * n + (g + 1)) = (if akm (cnB f 6) (akF f E t) (6 * n + g) ≤ nI (akF f E t (6 * n + g)) then akm (cnB f 6) (akF f E t) (6 * n + g) else nI (akF f E t (6 * n + g))) from rfl, d1, d2] at key
          exact key
  · obtain ⟨yN, cN, rN⟩ := hI
    show w_X7_ask_46 (nI t) y (ftB f 6) Q (fu2 (w_X7_ask_46 (nI t) y (ftB f 6) Q) m) _ _
    generalize fu2 (w_X7_ask_46 (nI t) y (ftB f 6) Q) m = K at ih ⊢
    refine pk_le 6 u (fun z => by omega) (fun _ => ?_)
    rw [ft_bit f hu]
    have hcu := cnB_le f u
    by_cases z : f u = true
    · rw [if_pos z]
      refine ⟨fun _ => ?_, fun q => absurd rfl q⟩
      refine w_begin (yN.ex h) (fun X18 t18 g18 => ⟨vp_in_nI (by omega) (by omega), fun X19 e19 => ?_⟩)
      rw [nI_clamp (by omega)] at e19
      have t19 : TX X19 (up E (17 + t) u) 0 0 0 0 0 := by
        rw [e19]
        exact t18.set (cxt t (by omega)).2.1 (by omega) (by omega) (by omega)
      have g19 : gX N X19 := by
        rw [e19]
        exact g18.mu (by omega) (by omega)
      refine w_add (c := cnB f u) t19 (wu u hu) (by rw [nu]; exact h9) (by omega) (by rw [g19 29 (by omega)]; exact cN) (fun N2 r2 c2 f2 => ?_)
      unfold w_X7_ask_99
      rw [nI_1]
      have cs : cnB f (u + 1) = cnB f u + 1 := by
        show cnB f u + (if f u = true then 1 else 0) = _
        rw [if_pos z]
      have cm : ∀ b, b < u → f b = true → cnB f b < cnB f u := by
        intro b hb fb
        have mono : ∀ d, b < d → cnB f b < cnB f d := by
          intro d
          induction d with
          | zero => intro hd; omega
          | succ d ihd =>
            intro hd
            show cnB f b < cnB f d + (if f d = true then 1 else 0)
            by_cases e : b = d
            · subst e
              rw [if_pos fb]
              omega
            · have := ihd (by omega)
              omega
        exact mono u hb
      refine ih N2 ⟨fun a ha => ?_, by rw [cs]; exact c2, fun b hb fb => ?_⟩
      · rw [f2 a (by omega), g19 a (by omega)]
        exact yN a ha
      · by_cases e : b = u
        · subst e
          exact r2
        · have := cm b (by omega) fb
          intro i j hi hj
          rw [f2 (31 + cnB f b) (by omega), g19 (31 + cnB f b) (by omega)]
          exact rN b (by omega) fb i j hi hj
    · rw [if_neg z]
      refine ⟨fun q => absurd q (by decide), fun _ => ?_⟩
      unfold w_X7_ask_99
      rw [nI_1]
      have cs : cnB f (u + 1) = cnB f u := by
        show cnB f u + (if f u = true then 1 else 0) = _
        rw [if_neg z]
        rfl
      refine ih N ⟨yN, by rw [cs]; exact cN, fun b hb fb => ?_⟩
      by_cases e : b = u
      · subst e
        exact absurd fb z
      · exact rN b (by omega) fb
theorem m_ask {N : Mem} {f : Nat → Bool} {E : Es} {t : Nat} {y : Int32} {Q : Int32 → Mem → Prop} (w : WF E) (h9 : E 42 ≤ 999) (ht : t < E 44) (lr : ∀ u, u < 6 → lrow N u 21 (up E (17 + t) u)) (q : Q (akV (cnB f 6) (akF f E t) y) N) : ∃ m, fu2 (w_X8_ask_32 y (ftB f 6) N Q) m 0 0 := by
  have h5 := w.2.2.2.2.1
  have wu : ∀ b, b < 6 → WF (up E (17 + t) b) := fun b hb => up_WF w (by omega) (by omega) (by omega)
  have nu : ∀ b, up E (17 + t) b 42 = E 42 := fun b => up_n (by omega)
  refine pk_loop (fun m u (_ : Unit) => fu2 (w_X8_ask_32 y (ftB f 6) N Q) m (nI (cnB f u)) (nI u)) (fun _ _ => True) 6 0 () (by omega) trivial (fun m _ _ => ?_) (fun m u _ hu _ ih => ?_)
  · refine pk_le 6 6 (fun _ => ?_) (fun z => by omega)
    refine pk_loop (fun m p (_ : Unit) => fu3 (w_X8_ask_63 y (ftB f 6) N Q) m (akm (cnB f 6) (akF f E t) p) (akw (cnB f 6) (akF f E t) p) (nI p)) (fun _ _ => True) 126 0 () (by omega) trivial (fun m _ _ => ?_) (fun m p _ hp _ ih => ?_)
    · refine pk_le 126 126 (fun _ => ?_) (fun z => by omega)
      unfold w_X8_ask_129
      unfold akV at q
      by_cases z2 : akw (cnB f 6) (akF f E t) 126 = -4
      · rw [if_pos z2]
        rw [if_pos z2] at q
        by_cases z : y = 0
        · rw [if_pos z] at q
          exact q
        · rw [if_neg z] at q
          exact q
      · rw [if_neg z2]
        rw [if_neg z2] at q
        exact q
    · show w_X8_ask_63 y (ftB f 6) N Q (fu3 (w_X8_ask_63 y (ftB f 6) N Q) m) _ _ _
      generalize fu3 (w_X8_ask_63 y (ftB f 6) N Q) m = K at ih ⊢
      refine pk_le 126 p (fun z => by omega) (fun _ => ?_)
      have key := ih () trivial
      have ep : p = 6 * (p / 6) + p % 6 := by omega
      have ml : w_X8_worstAt (ftB f 6) (nI (6 * (p / 6) + p % 6)) N (fun r11 => (akm (cnB f 6) (akF f E t) p ≤ r11 → w_X8_ask_105 y (ftB f 6) (akm (cnB f 6) (akF f E t) p) (nI p) r11 (akw (cnB f 6) (akF f E t) p) N K Q) ∧ (¬ akm (cnB f 6) (akF f E t) p ≤ r11 → w_X8_ask_105 y (ftB f 6) (akm (cnB f 6) (akF f E t) p) (nI p) r11 ((10 * (nI p / 6)) + (irm (nI p) 6)) N K Q)) := by
        refine m_worst (l := lyt E t p) (by omega) (by omega) (fun b hb => ?_) (fun b hb => ?_) ?_
        · have := lr b hb (p / 6) (p % 6) (by omega) (by omega)
          rw [Nat.add_assoc] at this
          exact this
        · unfold lyt
          obtain ⟨w2, -, -, -⟩ := hE_fix no _ (wu b hb) (p / 6) (by rw [nu]; omega)
          exact (w2.1 (p % 6) (by omega)).1
        · unfold w_X8_ask_105
          rw [nI_1, pk6 (by omega), irm6 (by omega)]
          refine ⟨fun z => ?_, fun z => ?_⟩
          · rw [if_pos z]
            rw [show akw (cnB f 6) (akF f E t) (p + 1) = akw (cnB f 6) (akF f E t) p from if_pos z, show akm (cnB f 6) (akF f E t) (p + 1) = akm (cnB f 6) (akF f E t) p from if_pos z] at key
            exact key
          · rw [if_neg z]
            rw [show akw (cnB f 6) (akF f E t) (p + 1) = (10 * nI (p / 6)) + nI (p % 6) from if_neg z, show akm (cnB f 6) (akF f E t) (p + 1) = nI (akF f E t p) from if_neg z] at key
            exact key
      rw [← ep] at ml
      exact ml
  · show w_X8_ask_32 y (ftB f 6) N Q (fu2 (w_X8_ask_32 y (ftB f 6) N Q) m) _ _
    generalize fu2 (w_X8_ask_32 y (ftB f 6) N Q) m = K at ih ⊢
    refine pk_le 6 u (fun z => by omega) (fun _ => ?_)
    rw [ft_bit f hu, nI_1]
    have key := ih () trivial
    have e : nI (cnB f u) + (if f u = true then 1 else 0) = nI (cnB f (u + 1)) := by
      show _ = nI (cnB f u + (if f u = true then 1 else 0))
      by_cases z : f u = true
      · rw [if_pos z, if_pos z]
        exact nI_add _ 1
      · rw [if_neg z, if_neg z]
        exact nI_add _ 0
    rw [e]
    exact key
theorem op_ask_ok : op_ask Rel0 := by
  intro X M x y ⟨E, hN, hR⟩
  have hN' := hN
  obtain ⟨w, h9, hX, hM, hTk⟩ := hN
  have h5 := w.2.2.2.2.1
  obtain ⟨n, a, g, v, s⟩ := hR.2.2.1.sv
  unfold w_X7_ask
  rcases dT x (E 44) with ⟨t, ht, rfl⟩ | hno
  · refine c_tk1 hX w ht (b0 ?_)
    rcases dR y 0 1 with ⟨k, -, hk, rfl⟩ | hno
    · refine c_io1 (a := 0) (b := 1) (by omega) hk (by omega) (b0 ?_)
      intro X6 e6
      refine c_fitting (b := 17) (c := 4) (e := 5) s hX w h9 ht (by omega) (cxt t (by omega)).2.1 (by omega) (by omega) (fun u hu => up_WF w (by omega) (by omega) (by omega)) X6 (fun b hb => by rw [e6, mu_c (by omega)]) (fun X8 g8 => ?_)
      refine c_ask hX w h9 ht X8 (fun b hb => by rw [g8 b (by omega), e6, mu_c (by omega)]) (by rw [g8 29 (by omega), e6, mu_at, if_pos ⟨rfl, rfl⟩]; rfl) (fun X' f => ?_)
      refine m_tk1 hTk w ht (b1 (m_in1 (a := 0) (b := 1) (by omega) hk (by omega) (b1 (m_gatesOf s hM hTk w h9 ht (fun M' g lr => ?_)))))
      exact m_ask w h9 ht lr ⟨rfl, Rel0.q hN' hR f g⟩
    · exact c_io0 (a := 0) (b := 1) hno (by omega) (by omega) (b1 (m_tk1 hTk w ht (b1 (m_in0 (a := 0) (b := 1) hno (by omega) (by omega) (b0 ⟨rfl, E, hN', hR⟩)))))
  · exact c_tk0 hX w hno (b1 (m_tk0 hTk w hno (b0 ⟨rfl, E, hN', hR⟩)))
