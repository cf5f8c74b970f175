/-! lines on both sides -/
theorem th_00 {f pl : Nat} {o : Nat × Nat} (h : (th f pl o).1 = 0) : f = 0 ∧ o.1 = 0 := by
  unfold th at h
  split at h
  · next z => exact ⟨z, h⟩
  · next z => exact absurd h z
theorem th_le {f pl m : Nat} {o : Nat × Nat} (h : f ≤ m) (h2 : o.1 ≤ m) : (th f pl o).1 ≤ m := by
  unfold th
  split
  · exact h2
  · exact h
theorem nF_5 {b : Nat → Nat} {n p lo hi : Nat} : nF b n p lo hi ≤ 5 := Nat.le_trans nF_le (by omega)
theorem sF_5 {b : Nat → Nat} {n p : Nat} : sF b n p ≤ 5 := Nat.le_trans sF_le (by omega)
theorem addE_WD {D : Es} {k g : Nat} (w : WD D) (h : D 44 < 5) (h1 : k < 4) (h2 : g < 6) : WD (addE D k g) := by
  refine ⟨addE_WF w.1 h h1 h2, fun i a c => ?_, ?_, ?_⟩
  · unfold addE
    rw [if_neg (show ¬ i = 44 by omega)]
    by_cases q2 : i = 27 + D 44
    · rw [if_pos q2]
    · rw [if_neg q2]
      by_cases q3 : i = 22 + D 44
      · rw [if_pos q3]
      · rw [if_neg q3, if_neg (by omega), if_neg (by omega)]
        exact w.2.1 i a c
  · rw [addE_o h (by omega) (by omega)]
    exact w.2.2.1
  · rw [addE_o h (by omega) (by omega)]
    exact w.2.2.2
theorem hirE_WD {D : Es} {s st e : Nat} (w : WD D) (h : D 41 < 3) (h1 : s < 6) (h2 : st ≤ 5) (h3 : 1 ≤ e) (h4 : e ≤ 9) : WD (hirE D s st e) := by
  have ol : ∀ i, i < 32 ∨ 42 ≤ i → hirE D s st e i = D i := fun i hi => by
    unfold hirE
    rw [if_neg (by omega), if_neg (by omega), if_neg (by omega), if_neg (by omega)]
  refine ⟨hirE_WF w.1 h h1 h2 h3 h4, fun i a c => ?_, ?_, ?_⟩
  · rw [ol i (by omega)]
    exact w.2.1 i a c
  · rw [ol 42 (by omega)]
    exact w.2.2.1
  · rw [ol 43 (by omega)]
    exact w.2.2.2
theorem gatE_WD {D : Es} {g l r : Nat} (w : WD D) (h1 : g < 6) (h2 : l ≤ 60) (h3 : r ≤ 9) : WD (gatE D g l r) := by
  have ol : ∀ i, 12 ≤ i → gatE D g l r i = D i := fun i hi => by
    unfold gatE
    rw [up_n (by omega), up_n (by omega)]
  refine ⟨up_WF (up_WF w.1 (by omega) (by omega) (by omega)) (by omega) (by omega) (by omega), fun i a c => ?_, ?_, ?_⟩
  · rw [ol i (by omega)]
    exact w.2.1 i a c
  · rw [ol 42 (by omega)]
    exact w.2.2.1
  · rw [ol 43 (by omega)]
    exact w.2.2.2
theorem line_both {n p : Nat} {b : Nat → Nat} {D : Es} {G : Int32} (hp : p ≤ n) (nb : ¬ tBad b n p) (hs : tS b n p ≠ 0) (w : WD D) : ∃ (o : Nat × Nat) (p' : Nat) (D' : Es) (G' : Int32), o.1 ≤ 5 ∧ p < p' ∧ p' ≤ n ∧ (o.1 = 0 → WD D') ∧
    (∀ (X : Mem) (Q : Int32 → Mem → Prop), TC X n b → X 24 1 = nI (tS b n p) → X 24 2 = nI (tF b n p) → X 24 3 = nI (tB b n p) → X 24 5 = G → EX X 12 D → CQ X o p' D' G' Q → w_X5_readLine X Q) ∧
    (∀ (M : Mem) (Q : Mem → Prop), TD M n b → St M b n p → RLt M → P2 M D → M 0 4 = G → NQ M b n o p' D' G' Q → w_X8_readLine M Q) := by
  obtain ⟨f1, f2⟩ := tF_le (b := b) hp
  obtain ⟨g1, g2, g3⟩ := tB_le (b := b) hp
  have g := g3 hs
  obtain ⟨h1, h2, -⟩ := tB_le (b := b) g2
  obtain ⟨h1', -⟩ := tF_le (b := b) g2
  obtain ⟨i1, i2, -⟩ := tB_le (b := b) h2
  obtain ⟨i1', -⟩ := tF_le (b := b) h2
  obtain ⟨j1, j2, -⟩ := tB_le (b := b) i2
  obtain ⟨j1', -⟩ := tF_le (b := b) i2
  obtain ⟨k1, k2, -⟩ := tB_le (b := b) j2
  obtain ⟨k1', -⟩ := tF_le (b := b) j2
  obtain ⟨i, hi⟩ := nm_ex b n p
  by_cases z1 : i < 4
  · refine ⟨tkF b n (tB b n p) (tF b n p) D, tB b n (tB b n (tB b n p)), addE D i (tV b n (tB b n p)), G, ?_, by omega, i2, fun z => ?_, fun X Q t a1 a2 a3 a5 ex q => ?_, fun M Q t s lt p2 a4 q => ?_⟩
    · unfold tkF
      split
      · exact Nat.le_refl 5
      · exact th_le nF_5 sF_5
    · unfold tkF at z
      split at z
      · exact absurd z (show (5 : Nat) ≠ 0 by omega)
      · next h5 =>
        obtain ⟨-, -, -, v⟩ := nF_0 (th_00 z).1
        exact addE_WD w (by omega) z1 (by omega)
    · exact w_line t hp a1 a2 a3 hi (fun _ => w_taker t g2 a2 a3 a5 ex w.1 q) (fun z => by omega) (fun z => by omega) (fun z => by omega)
    · exact m_line t hp s nb lt p2 a4 w hi (fun _ => q) (fun z => by omega) (fun z => by omega) (fun z => by omega)
  · by_cases z2 : i = 4
    · refine ⟨kpF b n (tB b n p) (tF b n p) D, tB b n (tB b n (tB b n (tB b n (tB b n p)))), hirE D (tV b n (tB b n p)) (tV b n (tB b n (tB b n p))) (tV b n (tB b n (tB b n (tB b n p)))), G, ?_, by omega, k2, fun z => ?_, fun X Q t a1 a2 a3 a5 ex q => ?_, fun M Q t s lt p2 a4 q => ?_⟩
      · unfold kpF
        split
        · exact Nat.le_refl 5
        · exact th_le nF_5 (th_le nF_5 (th_le nF_5 sF_5))
      · unfold kpF at z
        split at z
        · exact absurd z (show (5 : Nat) ≠ 0 by omega)
        · next h5 =>
          have y1 := th_00 z
          have y2 := th_00 y1.2
          have y3 := th_00 y2.2
          obtain ⟨-, -, -, v1⟩ := nF_0 y1.1
          obtain ⟨-, -, -, v2⟩ := nF_0 y2.1
          obtain ⟨-, -, v3, v4⟩ := nF_0 y3.1
          exact hirE_WD w (by omega) (by omega) (by omega) v3 v4
      · exact w_line t hp a1 a2 a3 hi (fun z => by omega) (fun _ => w_keeper t g2 a2 a3 a5 ex w.1 q) (fun z => by omega) (fun z => by omega)
      · exact m_line t hp s nb lt p2 a4 w hi (fun z => by omega) (fun _ => q) (fun z => by omega) (fun z => by omega)
    · by_cases z3 : i = 5
      · refine ⟨gtF b n (tB b n p) G, tB b n (tB b n (tB b n (tB b n (tB b n p)))), gatE D (tV b n (tB b n p)) (tV b n (tB b n (tB b n p))) (tV b n (tB b n (tB b n (tB b n p)))), G ||| sl 1 (nI (tV b n (tB b n p))), ?_, by omega, k2, fun z => ?_, fun X Q t a1 a2 a3 a5 ex q => ?_, fun M Q t s lt p2 a4 q => ?_⟩
        · unfold gtF
          refine th_le nF_5 ?_
          split
          · exact (by decide : (4 : Nat) ≤ 5)
          · exact th_le nF_5 (th_le nF_5 sF_5)
        · unfold gtF at z
          have y1 := th_00 z
          have y := y1.2
          split at y
          · exact absurd y (show (4 : Nat) ≠ 0 by omega)
          · have y2 := th_00 y
            have y3 := th_00 y2.2
            obtain ⟨-, -, -, v1⟩ := nF_0 y1.1
            obtain ⟨-, -, -, v2⟩ := nF_0 y2.1
            obtain ⟨-, -, -, v4⟩ := nF_0 y3.1
            exact gatE_WD w (by omega) v2 v4
        · exact w_line t hp a1 a2 a3 hi (fun z => by omega) (fun z => by omega) (fun _ => w_gate t g2 a3 a5 ex q) (fun z => by omega)
        · exact m_line t hp s nb lt p2 a4 w hi (fun z => by omega) (fun z => by omega) (fun _ => q) (fun z => by omega)
      · have i6 := hi.1
        refine ⟨(2, tF b n p), tB b n p, D, G, show (2 : Nat) ≤ 5 by omega, by omega, g2, fun z => absurd z (show (2 : Nat) ≠ 0 by omega), fun X Q t a1 a2 a3 a5 ex q => ?_, fun M Q t s lt p2 a4 q => ?_⟩
        · exact w_line t hp a1 a2 a3 hi (fun z => by omega) (fun z => by omega) (fun z => by omega) (fun _ X' kx c6 c7 => q.bad rfl (by omega) kx.c c6 c7)
        · exact m_line t hp s nb lt p2 a4 w hi (fun z => by omega) (fun z => by omega) (fun z => by omega) (fun _ M' y c8 c9 => q.bad rfl (by omega) y c8 c9)
/-- what comes of all lines -/
def CL (X : Mem) (o : Nat × Nat) (L : Nat) (D : Es) (Q : Int32 → Mem → Prop) : Prop :=
  (o.1 = 0 → ∀ X', cX X X' → EX X' 12 D → X' 24 6 = 0 → Q (nI L) X') ∧ (o.1 ≠ 0 → ∀ x X', cX X X' → X' 24 6 = nI o.1 → X' 24 7 = nI o.2 → Q x X')
def NL (M : Mem) (o : Nat × Nat) (L : Nat) (D : Es) (Q : Int32 → Mem → Prop) : Prop :=
  (o.1 = 0 → ∀ M', yM M M' → P2 M' D → M' 0 8 = 0 → Q (nI L) M') ∧ (o.1 ≠ 0 → ∀ x M', yM M M' → M' 0 8 = nI o.1 → M' 0 9 = nI o.2 → Q x M')
theorem CL.on {X Y : Mem} {o : Nat × Nat} {L : Nat} {D : Es} {Q : Int32 → Mem → Prop} (h : CL X o L D Q) (c : cX X Y) : CL Y o L D Q := ⟨fun z X' c2 => h.1 z X' (c.tr c2), fun z x X' c2 => h.2 z x X' (c.tr c2)⟩
theorem NL.on {X Y : Mem} {o : Nat × Nat} {L : Nat} {D : Es} {Q : Int32 → Mem → Prop} (h : NL X o L D Q) (c : yM X Y) : NL Y o L D Q := ⟨fun z X' c2 => h.1 z X' (c.tr c2), fun z x X' c2 => h.2 z x X' (c.tr c2)⟩
theorem yM.lt {M N : Mem} (h : yM M N) (l : RLt M) : RLt N := by
  unfold RLt
  rw [h.1 4 (by omega) (by omega), h.1 5 (by omega) (by omega)]
  exact l
theorem lines_both {n : Nat} {b : Nat → Nat} (hn : n ≤ 160) : ∀ (r p : Nat) (D : Es) (G : Int32) (L : Nat), n - p < r → p ≤ n → L ≤ p → WD D → ∃ (o : Nat × Nat) (L' : Nat) (D' : Es), o.1 ≤ 5 ∧ (o.1 = 0 → WD D') ∧
    (∀ (X : Mem) (Q : Int32 → Mem → Prop) (m : Nat), n - p < m → TC X n b → X 24 3 = nI p → X 24 5 = G → X 24 6 = 0 → EX X 12 D → CL X o L' D' Q → fu3 (w_X5_readLines_28 Q) m (nI L) (nI L) X) ∧
    (∀ (M : Mem) (Q : Int32 → Mem → Prop) (m : Nat), n - p + 1 < m → TD M n b → St M b n p → RLt M → P2 M D → M 0 4 = G → NL M o L' D' (fun x N => w_X8_text_71 x N Q) → fu2 (w_X8_text_47 Q) m (nI L) M) := by
  intro r
  induction r with
  | zero => exact fun p D G L h => by omega
  | succ r ih =>
    intro p D G L hr hp hL w
    have s3 := tS_le (b := b) (n := n) (p := p)
    by_cases bd : tBad b n p
    · refine ⟨(1, tF b n p), L, D, show (1 : Nat) ≤ 5 by omega, fun z => absurd z (show (1 : Nat) ≠ 0 by omega), fun X Q m hm t h3 h5 h6 ex q => ?_, fun M Q m hm t s lt p2 h4 q => ?_⟩
      · obtain ⟨m, rfl⟩ : ∃ k, m = k + 1 := ⟨m - 1, by omega⟩
        show w_X5_readLines_28 Q (fu3 (w_X5_readLines_28 Q) m) (nI L) (nI L) X
        generalize fu3 (w_X5_readLines_28 Q) m = K
        unfold w_X5_readLines_28
        exact pk_lt 160 L (fun z => by omega) (fun _ => w_tok t hp h3 ⟨fun nb => absurd bd nb, fun _ X' kx c6 c7 => b0 (q.2 (show (1 : Nat) ≠ 0 by omega) _ X' kx.c c6 c7)⟩)
      · obtain ⟨m, rfl⟩ : ∃ k, m = k + 1 := ⟨m - 1, by omega⟩
        show w_X8_text_47 Q (fu2 (w_X8_text_47 Q) m) (nI L) M
        generalize fu2 (w_X8_text_47 Q) m = K
        obtain ⟨a8, a9⟩ := s.1 bd
        unfold w_X8_text_47
        rw [a8]
        exact b1 (q.2 (show (1 : Nat) ≠ 0 by omega) _ M yM.rf a8 a9)
    · by_cases s0 : tS b n p = 0
      · refine ⟨(0, 0), L, D, by decide, fun _ => w, fun X Q m hm t h3 h5 h6 ex q => ?_, fun M Q m hm t s lt p2 h4 q => ?_⟩
        · obtain ⟨m, rfl⟩ : ∃ k, m = k + 1 := ⟨m - 1, by omega⟩
          show w_X5_readLines_28 Q (fu3 (w_X5_readLines_28 Q) m) (nI L) (nI L) X
          generalize fu3 (w_X5_readLines_28 Q) m = K
          unfold w_X5_readLines_28
          refine pk_lt 160 L (fun z => by omega) (fun _ => w_tok t hp h3 ⟨fun nb X' kx c1 c2 c3 c4 c5 => b1 ?_, fun z => absurd z bd⟩)
          rw [c1, s0]
          exact b0 (q.1 rfl X' kx.c (kx.ex ex) (by rw [c5 6 (by omega), h6]))
        · obtain ⟨m, rfl⟩ : ∃ k, m = k + 1 := ⟨m - 1, by omega⟩
          show w_X8_text_47 Q (fu2 (w_X8_text_47 Q) m) (nI L) M
          generalize fu2 (w_X8_text_47 Q) m = K
          obtain ⟨a8, -, -, a12, -⟩ := s.2 bd
          unfold w_X8_text_47
          rw [a8, a12, s0]
          exact b0 (b0 (q.1 rfl M yM.rf p2 a8))
      · obtain ⟨o1, p1, D1, G1, l1, pa, pb, w1, cl, rf⟩ := line_both (G := G) hp bd s0 w
        by_cases z : o1.1 = 0
        · obtain ⟨o, L', D', l, wd, c2, r2⟩ := ih p1 D1 G1 (L + 1) (by omega) pb (by omega) (w1 z)
          refine ⟨o, L', D', l, wd, fun X Q m hm t h3 h5 h6 ex q => ?_, fun M Q m hm t s lt p2 h4 q => ?_⟩
          · obtain ⟨m, rfl⟩ : ∃ k, m = k + 1 := ⟨m - 1, by omega⟩
            have kk : ∀ X2, cX X X2 → EX X2 12 D1 → X2 24 3 = nI p1 → X2 24 5 = G1 → X2 24 6 = 0 → fu3 (w_X5_readLines_28 Q) m (nI (L + 1)) (nI (L + 1)) X2 := fun X2 c e e3 e5 e6 => c2 X2 Q m (by omega) (c.tc t) e3 e5 e6 e (q.on c)
            show w_X5_readLines_28 Q (fu3 (w_X5_readLines_28 Q) m) (nI L) (nI L) X
            generalize fu3 (w_X5_readLines_28 Q) m = K at kk ⊢
            unfold w_X5_readLines_28
            refine pk_lt 160 L (fun z => by omega) (fun _ => w_tok t hp h3 ⟨fun nb X' kx c1 d2 c3 c4 c5 => b1 ?_, fun z => absurd z bd⟩)
            rw [nI_1]
            refine ⟨fun y => ?_, fun _ => ?_⟩
            · rw [c1] at y
              exact absurd ((nI_eq (b := 0) (by omega) (by omega)).mp y) s0
            · exact cl X' _ (kx.tc t) c1 d2 c3 (by rw [c5 5 (by omega), h5]) (kx.ex ex) ⟨fun _ X2 x2 e2 e3 e5 e6 _ => b1 (kk X2 (kx.c.tr x2) e2 e3 e5 (by rw [e6, c5 6 (by omega), h6])), fun y => absurd z y⟩
          · obtain ⟨m, rfl⟩ : ∃ k, m = k + 1 := ⟨m - 1, by omega⟩
            have kk : ∀ N, yM M N → St N b n p1 → P2 N D1 → N 0 4 = G1 → fu2 (w_X8_text_47 Q) m (nI (L + 1)) N := fun N y s' p' g' => r2 N Q m (by omega) (y.td t) s' (y.lt lt) p' g' (q.on y)
            show w_X8_text_47 Q (fu2 (w_X8_text_47 Q) m) (nI L) M
            generalize fu2 (w_X8_text_47 Q) m = K at kk ⊢
            obtain ⟨a8, -, -, a12, -⟩ := s.2 bd
            unfold w_X8_text_47
            rw [a8, a12, nI_1]
            refine b0 ⟨fun y => absurd ((nI_eq (b := 0) (by omega) (by omega)).mp y) s0, fun _ => ?_⟩
            exact rf M _ t s lt p2 h4 ⟨fun _ N y s' p' g' => kk N y s' p' g', fun y => absurd z y⟩
        · refine ⟨o1, L, D, l1, fun y => absurd y z, fun X Q m hm t h3 h5 h6 ex q => ?_, fun M Q m hm t s lt p2 h4 q => ?_⟩
          · obtain ⟨m, rfl⟩ : ∃ k, m = k + 1 := ⟨m - 1, by omega⟩
            show w_X5_readLines_28 Q (fu3 (w_X5_readLines_28 Q) m) (nI L) (nI L) X
            generalize fu3 (w_X5_readLines_28 Q) m = K
            unfold w_X5_readLines_28
            refine pk_lt 160 L (fun z => by omega) (fun _ => w_tok t hp h3 ⟨fun nb X' kx c1 d2 c3 c4 c5 => b1 ?_, fun z => absurd z bd⟩)
            refine ⟨fun y => ?_, fun _ => ?_⟩
            · rw [c1] at y
              exact absurd ((nI_eq (b := 0) (by omega) (by omega)).mp y) s0
            · exact cl X' _ (kx.tc t) c1 d2 c3 (by rw [c5 5 (by omega), h5]) (kx.ex ex) ⟨fun y => absurd y z, fun _ X2 x2 e6 e7 => b0 (q.2 z _ X2 (kx.c.tr x2) e6 e7)⟩
          · obtain ⟨m, rfl⟩ : ∃ k, m = k + 1 + 1 := ⟨m - 2, by omega⟩
            have kk : ∀ N x, yM M N → N 0 8 = nI o1.1 → N 0 9 = nI o1.2 → fu2 (w_X8_text_47 Q) (m + 1) x N := by
              intro N x y n8 n9
              show w_X8_text_47 Q (fu2 (w_X8_text_47 Q) m) x N
              generalize fu2 (w_X8_text_47 Q) m = K
              unfold w_X8_text_47
              refine ⟨fun u => ?_, fun _ => q.2 z x N y n8 n9⟩
              rw [n8] at u
              exact absurd u (nI_nz (by omega) (by omega))
            show w_X8_text_47 Q (fu2 (w_X8_text_47 Q) (m + 1)) (nI L) M
            generalize fu2 (w_X8_text_47 Q) (m + 1) = K at kk ⊢
            obtain ⟨a8, -, -, a12, -⟩ := s.2 bd
            unfold w_X8_text_47
            rw [a8, a12]
            refine b0 ⟨fun y => absurd ((nI_eq (b := 0) (by omega) (by omega)).mp y) s0, fun _ => ?_⟩
            exact rf M _ t s lt p2 h4 ⟨fun y => absurd y z, fun _ N y n8 n9 => kk N _ y n8 n9⟩
