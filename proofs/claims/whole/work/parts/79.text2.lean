/-! the class's numbers, names and lines -/
theorem tS_le {b : Nat → Nat} {n p : Nat} : tS b n p ≤ 3 := by
  unfold tS
  split
  · omega
  · split
    · omega
    · split <;> omega
/-- what is wrong with a token that should be a number from lo to hi; with one that should be a semicolon -/
def nF (b : Nat → Nat) (n p lo hi : Nat) : Nat := if tBad b n p then 1 else if tS b n p = 2 then (if lo ≤ tV b n p ∧ tV b n p ≤ hi then 0 else 3) else 2
def sF (b : Nat → Nat) (n p : Nat) : Nat := if tBad b n p then 1 else if tS b n p = 3 then 0 else 2
theorem nF_le {b : Nat → Nat} {n p lo hi : Nat} : nF b n p lo hi ≤ 3 := by
  unfold nF
  split
  · omega
  · split
    · split <;> omega
    · omega
theorem sF_le {b : Nat → Nat} {n p : Nat} : sF b n p ≤ 3 := by
  unfold sF
  split
  · omega
  · split <;> omega
theorem nF_0 {b : Nat → Nat} {n p lo hi : Nat} (h : nF b n p lo hi = 0) : ¬ tBad b n p ∧ tS b n p = 2 ∧ lo ≤ tV b n p ∧ tV b n p ≤ hi := by
  unfold nF at h
  split at h
  · omega
  · next h1 =>
    split at h
    · next h2 =>
      split at h
      · next h3 => exact ⟨h1, h2, h3⟩
      · omega
    · omega
theorem sF_0 {b : Nat → Nat} {n p : Nat} (h : sF b n p = 0) : ¬ tBad b n p ∧ tS b n p = 3 := by
  unfold sF at h
  split at h
  · omega
  · next h1 =>
    split at h
    · next h2 => exact ⟨h1, h2⟩
    · omega
theorem tV_lt {b : Nat → Nat} {n p : Nat} (hb : ∀ j, j < n → b j ≤ 127) (hp : p ≤ n) (hs : tS b n p = 2) (nb : ¬ tBad b n p) : tV b n p ≤ 169 := by
  obtain ⟨g1, g2, g3⟩ := tB_le (b := b) hp
  have g := g3 (by omega)
  have hd : 48 ≤ b (tF b n p) ∧ b (tF b n p) ≤ 57 := by
    unfold tS at hs
    split at hs
    · omega
    · split at hs
      · omega
      · split at hs
        · assumption
        · omega
  have l2 : tB b n p - tF b n p ≤ 2 := by
    unfold tBad at nb
    omega
  unfold tV
  split
  · omega
  · have := hb (tF b n p + 1) (by omega)
    omega
theorem w_ref {X : Mem} {f pl : Nat} {Q : Int32 → Mem → Prop} (h2 : X 24 2 = nI pl) (q : ∀ X', kX X X' → X' 24 6 = nI f → X' 24 7 = nI pl → Q 0 X') : w_X5_refuse (nI f) X Q := by
  intro M1 e1 M2 e2
  refine q M2 (by rw [e2, e1]; exact kX.rf.mu.mu) ?_ ?_
  · rw [e2, e1, mu_at, if_neg (by omega), mu_at, if_pos ⟨rfl, rfl⟩]
  · rw [e2, mu_at, if_pos ⟨rfl, rfl⟩, e1, mu_at, if_neg (by omega), h2]
theorem w_num {X : Mem} {n p lo hi : Nat} {b : Nat → Nat} {Q : Int32 → Mem → Prop} (t : TC X n b) (hp : p ≤ n) (h3 : X 24 3 = nI p) (hl : lo < 1000) (hh : hi < 1000) (q : (nF b n p lo hi = 0 → ∀ X', kX X X' → X' 24 2 = nI (tF b n p) → X' 24 3 = nI (tB b n p) → X' 24 4 = nI (tV b n p) → (∀ k, k = 5 ∨ k = 6 ∨ k = 7 → X' 24 k = X 24 k) → Q 1 X') ∧ (nF b n p lo hi ≠ 0 → ∀ X', kX X X' → X' 24 6 = nI (nF b n p lo hi) → X' 24 7 = nI (tF b n p) → Q 0 X')) : w_X5_readNumber (nI lo) (nI hi) X Q := by
  have s3 := tS_le (b := b) (n := n) (p := p)
  unfold w_X5_readNumber
  refine w_tok t hp h3 ⟨fun nb X' kx c1 c2 c3 c4 c5 => b1 ?_, fun bd X' kx c6 c7 => b0 ?_⟩
  · rw [c1]
    refine pk_eq (tS b n p) 2 (fun s => ?_) (fun s => ?_)
    · rw [if_pos s] at c4
      have v := tV_lt (fun j hj => (t.2.2 j hj).1) hp s nb
      have r3 : ¬ (lo ≤ tV b n p ∧ tV b n p ≤ hi) → w_X5_readNumber_39 X' Q := fun w => by
        have e : nF b n p lo hi = 3 := by unfold nF; rw [if_neg nb, if_pos s, if_neg w]
        exact w_ref (f := 3) c2 (fun X2 k2 a6 a7 => b0 (q.2 (by omega) X2 (kx.tr k2) (by rw [a6, e]) a7))
      rw [c4]
      refine pk_lt (tV b n p) lo (fun z => r3 (by omega)) (fun z => pk_le (tV b n p) hi (fun y => ?_) (fun y => r3 (by omega)))
      have e : nF b n p lo hi = 0 := by unfold nF; rw [if_neg nb, if_pos s, if_pos ⟨z, y⟩]
      exact q.1 e X' kx c2 c3 c4 c5
    · have e : nF b n p lo hi = 2 := by unfold nF; rw [if_neg nb, if_neg s]
      exact w_ref (f := 2) c2 (fun X2 k2 a6 a7 => ⟨nb0, q.2 (by omega) X2 (kx.tr k2) (by rw [a6, e]) a7⟩)
  · have e : nF b n p lo hi = 1 := by unfold nF; rw [if_pos bd]
    exact q.2 (by omega) X' kx (by rw [c6, e]; rfl) c7
theorem w_semi {X : Mem} {n p : Nat} {b : Nat → Nat} {Q : Int32 → Mem → Prop} (t : TC X n b) (hp : p ≤ n) (h3 : X 24 3 = nI p) (q : (sF b n p = 0 → ∀ X', kX X X' → X' 24 3 = nI (tB b n p) → (∀ k, k = 4 ∨ k = 5 ∨ k = 6 ∨ k = 7 → X' 24 k = X 24 k) → Q 1 X') ∧ (sF b n p ≠ 0 → ∀ X', kX X X' → X' 24 6 = nI (sF b n p) → X' 24 7 = nI (tF b n p) → Q 0 X')) : w_X5_readSemicolonBehind X Q := by
  have s3 := tS_le (b := b) (n := n) (p := p)
  unfold w_X5_readSemicolonBehind
  refine w_tok t hp h3 ⟨fun nb X' kx c1 c2 c3 c4 c5 => b1 ?_, fun bd X' kx c6 c7 => b0 ?_⟩
  · rw [c1]
    refine pk_eq (tS b n p) 3 (fun s => ?_) (fun s => ?_)
    · rw [if_neg (by omega)] at c4
      have e : sF b n p = 0 := by unfold sF; rw [if_neg nb, if_pos s]
      refine q.1 e X' kx c3 (fun k hk => ?_)
      rcases hk with rfl | hk
      · exact c4
      · exact c5 k hk
    · have e : sF b n p = 2 := by unfold sF; rw [if_neg nb, if_neg s]
      exact w_ref (f := 2) c2 (fun X2 k2 a6 a7 => b0 (q.2 (by omega) X2 (kx.tr k2) (by rw [a6, e]) a7))
  · have e : sF b n p = 1 := by unfold sF; rw [if_pos bd]
    exact q.2 (by omega) X' kx (by rw [c6, e]; rfl) c7
/-- names -/
def chN (i k : Nat) : Nat := (chT i k).toNatClampNeg
theorem chT_eq : ∀ i, i < 6 → ∀ j, j < 6 → chT i j = nI (chN i j) ∧ chN i j < 128 := by decide +kernel
theorem sr_len : ∀ i, i < 6 → sr (nI (txLen.getD i 0)) 0 = nI (txLen.getD i 0) := by decide +kernel
def isNm (b : Nat → Nat) (n p i : Nat) : Prop := tS b n p = 1 ∧ tB b n p - tF b n p = txLen.getD i 0 ∧ ∀ j, j < txLen.getD i 0 → b (tF b n p + j) = chN i j
theorem w_isName {X : Mem} {n p i : Nat} {b : Nat → Nat} {Q : Int32 → Prop} (t : TC X n b) (hp : p ≤ n) (hi : i < 6) (h1 : X 24 1 = nI (tS b n p)) (h2 : X 24 2 = nI (tF b n p)) (h3 : X 24 3 = nI (tB b n p)) (q : (isNm b n p i → Q 1) ∧ (¬ isNm b n p i → Q 0)) : w_X5_isName i X Q := by
  have hn := t.1
  have s3 := tS_le (b := b) (n := n) (p := p)
  have hl := txLen_lt i hi
  obtain ⟨g1, g2, g3⟩ := tB_le (b := b) hp
  have sl := sr_len i hi
  unfold w_X5_isName w_J0_length_8abf5
  rw [h1, h2, h3, sl, nIs g1]
  refine pk_eq (tS b n p) 1 (fun z => ?_) (fun z => q.2 (fun w => z w.1))
  refine pk_eq (tB b n p - tF b n p) (txLen.getD i 0) (fun y => ?_) (fun y => q.2 (fun w => y w.2.1))
  have main : ∀ r k, r + k = txLen.getD i 0 → (∀ j, j < k → b (tF b n p + j) = chN i j) → fu1 (w_X5_isName_28 i X Q) (r + 1) (nI k) := by
    intro r
    induction r with
    | zero =>
      intro k hk hd
      show w_X5_isName_28 _ _ _ _ _
      unfold w_X5_isName_28 w_J0_length_8abf5
      rw [sl]
      exact pk_le (txLen.getD i 0) k (fun _ => q.1 ⟨z, y, fun j hj => hd j (by omega)⟩) (fun w => by omega)
    | succ r ih =>
      intro k hk hd
      show w_X5_isName_28 i X Q (fu1 (w_X5_isName_28 i X Q) (r + 1)) (nI k)
      generalize fu1 (w_X5_isName_28 i X Q) (r + 1) = K at ih ⊢
      unfold w_X5_isName_28 w_J0_length_8abf5 w_J0_charAt_5068e
      obtain ⟨c1, c2⟩ := chT_eq i hi k (by omega)
      rw [sl, h2, nI_clamp (by omega), nI_add, c1]
      refine pk_le (txLen.getD i 0) k (fun w => by omega) (fun _ => ⟨vp_in_nI (by omega) (by omega), vp_in_nI (by omega) (by omega), w_betw (lo := chN i k) (hi := chN i k) t (by omega) (by omega) (by omega) ⟨fun v => b1 ?_, fun v => b0 ?_⟩⟩)
      · rw [nI_1]
        refine ih (k + 1) (by omega) (fun j hj => ?_)
        by_cases u : j = k
        · subst u
          omega
        · exact hd j (by omega)
      · refine q.2 (fun w => v ?_)
        have := w.2.2 k (by omega)
        omega
  exact ⟨_, main (txLen.getD i 0) 0 (by omega) (fun j hj => by omega)⟩
theorem w_nok {X : Mem} {k : Nat} {Q : Nat → Prop} (hk : k < 4) (q : Q k) : w_X5_nameOfKind (nI k) X Q := by
  unfold w_X5_nameOfKind
  refine pk_eq k 0 (fun z => by rw [z] at q; exact q) (fun z => pk_eq k 1 (fun z => by rw [z] at q; exact q) (fun z1 => pk_eq k 2 (fun z => by rw [z] at q; exact q) (fun z2 => ?_)))
  have z : k = 3 := by omega
  rw [z] at q
  exact q
/-- the first name that the token is; 6: none -/
def nmIs (b : Nat → Nat) (n p i : Nat) : Prop := i ≤ 6 ∧ (i < 6 → isNm b n p i) ∧ ∀ j, j < i → ¬ isNm b n p j
theorem nm_ex (b : Nat → Nat) (n p : Nat) : ∃ i, nmIs b n p i := by
  have step : ∀ r k, r + k = 6 → (∀ j, j < k → ¬ isNm b n p j) → ∃ i, nmIs b n p i := by
    intro r
    induction r with
    | zero => exact fun k hk h => ⟨6, by omega, fun z => by omega, fun j hj => h j (by omega)⟩
    | succ r ih =>
      intro k hk h
      by_cases z : isNm b n p k
      · exact ⟨k, by omega, fun _ => z, h⟩
      · refine ih (k + 1) (by omega) (fun j hj => ?_)
        by_cases u : j = k
        · rw [u]
          exact z
        · exact h j (by omega)
  exact step 6 0 (by omega) (fun j hj => by omega)
theorem w_line {X : Mem} {n p i : Nat} {b : Nat → Nat} {Q : Int32 → Mem → Prop} (t : TC X n b) (hp : p ≤ n) (h1 : X 24 1 = nI (tS b n p)) (h2 : X 24 2 = nI (tF b n p)) (h3 : X 24 3 = nI (tB b n p)) (hi : nmIs b n p i)
    (q1 : i < 4 → w_X5_readTaker (nI i) X (fun r X' => narrow .boolean (.int r) = .int r ∧ Q r X')) (q2 : i = 4 → w_X5_readKeeper X (fun r X' => narrow .boolean (.int r) = .int r ∧ Q r X')) (q3 : i = 5 → w_X5_readGate X (fun r X' => narrow .boolean (.int r) = .int r ∧ Q r X')) (q4 : i = 6 → ∀ X', kX X X' → X' 24 6 = nI 2 → X' 24 7 = nI (tF b n p) → Q 0 X') : w_X5_readLine X Q := by
  obtain ⟨i6, ii, ij⟩ := hi
  have main : ∀ r k, r + k = 4 → k ≤ i → fu1 (w_X5_readLine_2 X Q) (r + 1) (nI k) := by
    intro r
    induction r with
    | zero =>
      intro k hk hd
      show w_X5_readLine_2 _ _ _ _
      unfold w_X5_readLine_2
      refine pk_le 4 k (fun _ => ?_) (fun w => by omega)
      unfold w_X5_readLine_31
      refine w_isName t hp (by omega) h1 h2 h3 ⟨fun v => b1 (q2 ?_), fun v => b0 (w_isName t hp (by omega) h1 h2 h3 ⟨fun v1 => b1 (q3 ?_), fun v1 => b0 (w_ref (f := 2) h2 (fun X2 k2 a6 a7 => ⟨nb0, q4 ?_ X2 k2 a6 a7⟩))⟩)⟩
      · by_cases z : 4 < i
        · exact absurd v (ij 4 z)
        · omega
      · by_cases z : 5 < i
        · exact absurd v1 (ij 5 z)
        · by_cases y : i = 4
          · subst y
            exact absurd (ii (by omega)) v
          · omega
      · by_cases y : i = 4
        · subst y
          exact absurd (ii (by omega)) v
        · by_cases y1 : i = 5
          · subst y1
            exact absurd (ii (by omega)) v1
          · omega
    | succ r ih =>
      intro k hk hd
      show w_X5_readLine_2 X Q (fu1 (w_X5_readLine_2 X Q) (r + 1)) (nI k)
      generalize fu1 (w_X5_readLine_2 X Q) (r + 1) = K at ih ⊢
      unfold w_X5_readLine_2
      refine pk_le 4 k (fun w => by omega) (fun _ => w_nok (by omega) ⟨by omega, w_isName t hp (by omega) h1 h2 h3 ⟨fun v => b1 ?_, fun v => b0 ?_⟩⟩)
      · have e : i = k := by
          by_cases z : k < i
          · exact absurd v (ij k z)
          · omega
        unfold w_X5_readLine_18
        rw [← e]
        exact q1 (by omega)
      · rw [nI_1]
        refine ih (k + 1) (by omega) ?_
        by_cases z : i = k
        · rw [z] at ii
          exact absurd (ii (by omega)) v
        · omega
  exact ⟨_, main 4 0 (by omega) (by omega)⟩
