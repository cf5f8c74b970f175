/-! the reference's names; a line on both sides -/
def ofs (i : Nat) : Nat := (mm8 4 i).toNatClampNeg
theorem nmT : ∀ i, i < 6 → mm8 4 i = nI (ofs i) ∧ mm8 4 (i + 1) - mm8 4 i = nI (txLen.getD i 0) ∧ ofs i + txLen.getD i 0 ≤ 25 := by decide +kernel
theorem nmC : ∀ i, i < 6 → ∀ j, j < 6 → j < txLen.getD i 0 → mm8 5 (ofs i + j) = nI (chN i j) := by decide +kernel
theorem m_name {M : Mem} {n p i : Nat} {b : Nat → Nat} {Q : Int32 → Prop} (t : TD M n b) (hp : p ≤ n) (h10 : M 0 10 = nI (tB b n p)) (h11 : M 0 11 = nI (tF b n p)) (h12 : M 0 12 = nI (tS b n p)) (lt : RLt M) (hi : nmIs b n p i) (q : Q (if i = 6 then -4 else nI i)) : w_X8_nameHere M Q := by
  have hn := t.1
  have s3 := tS_le (b := b) (n := n) (p := p)
  obtain ⟨g1, g2, g3⟩ := tB_le (b := b) hp
  obtain ⟨i6, ii, ij⟩ := hi
  have main : ∀ r k, r + k = 6 → k ≤ i → fu1 (w_X8_nameHere_2 M Q) (r + 1) (nI k) := by
    intro r
    induction r with
    | zero =>
      intro k hk hd
      show w_X8_nameHere_2 _ _ _ _
      unfold w_X8_nameHere_2
      refine pk_le 6 k (fun _ => ?_) (fun z => by omega)
      rw [if_pos (by omega)] at q
      exact q
    | succ r ih =>
      intro k hk hd
      show w_X8_nameHere_2 M Q (fu1 (w_X8_nameHere_2 M Q) (r + 1)) (nI k)
      generalize fu1 (w_X8_nameHere_2 M Q) (r + 1) = K at ih ⊢
      obtain ⟨u1, u2, u3⟩ := nmT k (by omega)
      have l7 := txLen_lt k (by omega)
      have nx : ¬ isNm b n p k → K (nI k + 1) := fun z => by
        rw [nI_1]
        refine ih (k + 1) (by omega) ?_
        by_cases y : i = k
        · rw [y] at ii
          exact absurd (ii (by omega)) z
        · omega
      unfold w_X8_nameHere_2
      rw [h12, h10, h11, nIs g1, lt.1, nI_1, nI_clamp (n := k + 1) (by omega), nI_clamp (n := k) (by omega), u2]
      refine pk_le 6 k (fun z => by omega) (fun _ => pk_eq (tS b n p) 1 (fun z => ⟨vp_in_nI (by omega) (by omega), vp_in_nI (by omega) (by omega), fun v ev => ?_⟩) (fun z => ?_))
      · by_cases y : tB b n p - tF b n p = txLen.getD k 0
        · rw [if_pos (by rw [y])] at ev
          rw [ev]
          have inn : ∀ r2 j, r2 + j = txLen.getD k 0 → (∀ x, x < j → b (tF b n p + x) = chN k x) → fu2 (w_X8_nameHere_51 (nI k) M K Q) (r2 + 1 + 1) 1 (nI j) := by
            intro r2
            induction r2 with
            | zero =>
              intro j hj hx
              show w_X8_nameHere_51 (nI k) M K Q (fu2 (w_X8_nameHere_51 (nI k) M K Q) (0 + 1)) 1 (nI j)
              unfold w_X8_nameHere_51
              rw [h10, h11, nIs g1]
              refine b1 (pk_le (tB b n p - tF b n p) j (fun _ => b1 ?_) (fun w => by omega))
              have nm : isNm b n p k := ⟨z, y, fun x hx' => hx x (by omega)⟩
              have e : i = k := by
                by_cases w : k < i
                · exact absurd nm (ij k w)
                · omega
              rw [if_neg (by omega), e] at q
              exact q
            | succ r2 ih2 =>
              intro j hj hx
              show w_X8_nameHere_51 (nI k) M K Q (fu2 (w_X8_nameHere_51 (nI k) M K Q) (r2 + 1 + 1)) 1 (nI j)
              have zz : ¬ isNm b n p k → fu2 (w_X8_nameHere_51 (nI k) M K Q) (r2 + 1 + 1) 0 (nI (j + 1)) := fun nn => by
                show w_X8_nameHere_51 (nI k) M K Q (fu2 (w_X8_nameHere_51 (nI k) M K Q) (r2 + 1)) 0 (nI (j + 1))
                exact b0 (b0 (nx nn))
              generalize fu2 (w_X8_nameHere_51 (nI k) M K Q) (r2 + 1 + 1) = K2 at ih2 zz ⊢
              have cc := nmC k (by omega) j (by omega) (by omega)
              have c2 := (chT_eq k (by omega) j (by omega)).2
              unfold w_X8_nameHere_51
              rw [h10, h11, nIs g1, lt.1, lt.2, nI_clamp (n := k) (by omega), u1, nI_add, nI_add, nI_clamp (n := ofs k + j) (by omega), cc]
              refine b1 (pk_le (tB b n p - tF b n p) j (fun w => by omega) (fun _ => m_byte t (by omega) ⟨fun w => by omega, fun w => ⟨vp_in_nI (by omega) (by omega), vp_in_nI (by omega) (by omega), fun v10 e10 => ?_⟩⟩))
              have b7 := (t.2.2 _ w).1
              rw [nI_1]
              by_cases x : b (tF b n p + j) = chN k j
              · rw [if_pos (by rw [x])] at e10
                rw [e10]
                refine ih2 (j + 1) (by omega) (fun x' hx' => ?_)
                by_cases u : x' = j
                · rw [u]
                  exact x
                · exact hx x' (by omega)
              · rw [if_neg (fun w' => x ((nI_eq (by omega) (by omega)).mp w'))] at e10
                rw [e10]
                exact zz (fun nm => x (nm.2.2 j (by omega)))
          exact ⟨_, inn (txLen.getD k 0) 0 (by omega) (fun x hx => by omega)⟩
        · rw [if_neg (fun w => y ((nI_eq (by omega) (by omega)).mp w))] at ev
          rw [ev]
          refine ⟨1, ?_⟩
          show w_X8_nameHere_51 (nI k) M K Q (fu2 (w_X8_nameHere_51 (nI k) M K Q) 0) 0 0
          exact b0 (b0 (nx (fun nm => y nm.2.1)))
      · have e : i = 6 := by
          by_cases w : i < 6
          · exact absurd (ii w).1 z
          · omega
        rw [if_pos e] at q
        exact q
  exact ⟨_, main 6 0 (by omega) (by omega)⟩
theorem m_l57 {M : Mem} {n p : Nat} {b : Nat → Nat} {x : Int32} {Q : Mem → Prop} (t : TD M n b) (hp : p ≤ n) (h8 : M 0 8 = 0) (h10 : M 0 10 = nI p) (q1 : tBad b n p → ∀ M', zM M M' → M' 0 8 = nI 1 → M' 0 9 = nI (tF b n p) → Q M') (q2 : ¬ tBad b n p → ∀ M', zM M M' → St M' b n p → w_X8_readMore x M' (fun M10 => mEnd M10 Q)) : w_X8_readLine_57 x M Q := by
  unfold w_X8_readLine_57
  refine m_tok t hp h8 h10 (fun M' h => ?_)
  have s := h.st hp
  by_cases bd : tBad b n p
  · obtain ⟨a8, a9⟩ := s.1 bd
    refine ⟨fun z => ?_, fun _ => q1 bd M' h.1 a8 a9⟩
    rw [a8] at z
    exact absurd z (by decide)
  · obtain ⟨a8, -⟩ := s.2 bd
    refine ⟨fun _ => q2 bd M' h.1 s, fun z => ?_⟩
    rw [a8] at z
    exact absurd (Int32.le_refl 0) z
theorem P2.cg {M N : Mem} {D : Es} (h : P2 M D) (z : zM M N) : P2 N D := by
  unfold P2
  rw [z.1 2 (by omega), z.2 3 (by omega)]
  exact h
theorem m_line {M : Mem} {n p i : Nat} {b : Nat → Nat} {D : Es} {G : Int32} {Q : Mem → Prop} (t : TD M n b) (hp : p ≤ n) (s : St M b n p) (nb : ¬ tBad b n p) (lt : RLt M) (h2 : P2 M D) (h4 : M 0 4 = G) (w : WD D) (hi : nmIs b n p i)
    (q1 : i < 4 → NQ M b n (tkF b n (tB b n p) (tF b n p) D) (tB b n (tB b n (tB b n p))) (addE D i (tV b n (tB b n p))) G Q)
    (q2 : i = 4 → NQ M b n (kpF b n (tB b n p) (tF b n p) D) (tB b n (tB b n (tB b n (tB b n (tB b n p))))) (hirE D (tV b n (tB b n p)) (tV b n (tB b n (tB b n p))) (tV b n (tB b n (tB b n (tB b n p))))) G Q)
    (q3 : i = 5 → NQ M b n (gtF b n (tB b n p) G) (tB b n (tB b n (tB b n (tB b n (tB b n p))))) (gatE D (tV b n (tB b n p)) (tV b n (tB b n (tB b n p))) (tV b n (tB b n (tB b n (tB b n p))))) (G ||| sl 1 (nI (tV b n (tB b n p)))) Q)
    (q4 : i = 6 → ∀ M', yM M M' → M' 0 8 = nI 2 → M' 0 9 = nI (tF b n p) → Q M') : w_X8_readLine M Q := by
  obtain ⟨g1, g2, -⟩ := tB_le (b := b) hp
  obtain ⟨e8, e10, e11, e12, e13⟩ := s.2 nb
  have w4 := w.1.2.2.2.1
  have w5 := w.1.2.2.2.2.1
  have i6 := hi.1
  have n1 : tBad b n (tB b n p) → nF b n (tB b n p) 0 5 = 1 := fun bd => by unfold nF; rw [if_pos bd]
  have i41 : vp_in 41 44 := vp_in_nI (n := 41) (by omega) (by omega)
  have full : ∀ x, (∀ M', yM M M' → M' 0 8 = nI 5 → M' 0 9 = nI (tF b n p) → Q M') → w_X8_readLine_52 x M Q := by
    intro x hQ
    refine m_fail (f := 5) e8 e11 (fun M' z' a8 a9 => ?_)
    unfold w_X8_readLine_57
    refine m_stepB a8 (by omega) (by omega) ⟨fun z => ?_, fun _ => hQ M' z'.y a8 a9⟩
    rw [a8] at z
    exact absurd z (nI_np (by omega) (by omega))
  unfold w_X8_readLine
  refine m_name t hp e10 e11 e12 lt hi ?_
  by_cases z6 : i = 6
  · rw [if_pos z6]
    exact m_rng4 (lo := 0) (hi := 5) (by omega) (by omega) (b0 (m_fail (f := 2) e8 e11 (fun M' z' a8 a9 => q4 z6 M' z'.y a8 a9)))
  · rw [if_neg z6]
    refine m_rng (v := i) (lo := 0) (hi := 5) (by omega) (by omega) (by omega) ⟨fun _ => b1 ?_, fun z => by omega⟩
    refine pk_lt 3 i (fun z3 => ?_) (fun z3 => ?_)
    · unfold w_X8_readLine_36
      refine pk_eq i 4 (fun z4 => ⟨i41, ?_⟩) (fun z4 => ?_)
      · have q := q2 z4
        rw [k41, h2.z (i := 41) (by omega) (by omega)]
        refine pk_eq (D 41) 3 (fun y => full _ (fun M' y' a8 a9 => q.bad (if_pos (by omega)) (by omega) y' a8 a9)) (fun y => ?_)
        refine m_l57 t g2 e8 e10 (fun bd M' z' a8 a9 => q.bad ?_ (show (1 : Nat) ≠ 0 by omega) z'.y a8 a9) (fun nbd M' z' s' => ?_)
        · unfold kpF
          rw [if_neg (by omega), th_n (by rw [n1 bd]; omega), n1 bd]
        · rw [z4]
          exact m_keeper (z'.td t) g2 s' (h2.cg z') (by rw [z'.2 4 (by omega), h4]) w (by omega) (q.on z'.y)
      · have z5 : i = 5 := by omega
        have q := q3 z5
        refine m_l57 t g2 e8 e10 (fun bd M' z' a8 a9 => q.bad ?_ (show (1 : Nat) ≠ 0 by omega) z'.y a8 a9) (fun nbd M' z' s' => ?_)
        · unfold gtF
          rw [th_n (by rw [n1 bd]; omega), n1 bd]
        · rw [z5]
          exact m_gate (z'.td t) g2 s' nbd (h2.cg z') (by rw [z'.2 4 (by omega), h4]) (q.on z'.y)
    · have q := q1 (by omega)
      rw [h2.2]
      refine pk_eq (D 44) 5 (fun y => full _ (fun M' y' a8 a9 => q.bad (if_pos (by omega)) (by omega) y' a8 a9)) (fun y => ?_)
      unfold w_X8_readLine_36
      refine pk_eq i 4 (fun z4 => by omega) (fun _ => ?_)
      refine m_l57 t g2 e8 e10 (fun bd M' z' a8 a9 => q.bad ?_ (show (1 : Nat) ≠ 0 by omega) z'.y a8 a9) (fun nbd M' z' s' => ?_)
      · unfold tkF
        rw [if_neg (by omega), th_n (by rw [n1 bd]; omega), n1 bd]
      · exact m_taker (z'.td t) g2 s' (h2.cg z') (by rw [z'.2 4 (by omega), h4]) w (by omega) (by omega) (q.on z'.y)
