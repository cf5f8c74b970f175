/-! the text -/
theorem w_clr {X : Mem} {o : Nat} {Q : Mem → Prop} (q : ∀ X', EX X' o E00 → frX o X X' → Q X') : w_X0_clear o X Q := by
  refine pk_loop (fun n i N => fu2 (w_X0_clear_2 o Q) n (nI i) N) (fun k N => frX o X N ∧ ∀ j, j < k → N (o + 1) j = nI 30 ∧ N (o + 2) j = nI 2) 6 0 X (by omega) ⟨frX.rf, fun j hj => by omega⟩ (fun n N h => ?_) (fun n k N hk h ih => ?_)
  · show w_X0_clear_2 o Q (fu2 (w_X0_clear_2 o Q) n) (nI 6) N
    generalize fu2 (w_X0_clear_2 o Q) n = K
    refine pk_le 6 6 (fun _ => ?_) (fun z => by omega)
    intro M2 e2 M3 e3 M4 e4 M5 e5
    have f5 : frX o X M5 := by
      rw [e5, e4, e3, e2]
      exact (((h.1.mu (by omega) (by omega)).mu (by omega) (by omega)).mu (by omega) (by omega)).mu (by omega) (by omega)
    have c5 : ∀ a, a ≠ o → M5 a = N a := fun a ha => by rw [e5, e4, e3, e2, mu_c ha, mu_c ha, mu_c ha, mu_c ha]
    refine q M5 (fun i hi hok => ?_) f5
    have h12 := ok0 i hi hok
    by_cases z : i < 6
    · rw [(cxg i z).1, E00_l i z, c5 (o + 1) (by omega)]
      exact (h.2 i z).1
    · by_cases z2 : i < 12
      · have e := (cxg (i - 6) (by omega)).2
        rw [show 6 + (i - 6) = i by omega] at e
        rw [e, E00_g i (by omega) z2, c5 (o + 2) (by omega)]
        exact (h.2 (i - 6) (by omega)).2
      · rw [E00_z i (by omega)]
        rcases (show i = 41 ∨ i = 42 ∨ i = 43 ∨ i = 44 by omega) with rfl | rfl | rfl | rfl
        · show M5 (o + 0) 10 = nI 0
          rw [e5, e4, e3, mu_at, if_neg (by omega), mu_at, if_neg (by omega), mu_at, if_pos ⟨rfl, rfl⟩]
          rfl
        · show M5 (o + 0) 11 = nI 0
          rw [e5, e4, mu_at, if_neg (by omega), mu_at, if_pos ⟨rfl, rfl⟩]
          rfl
        · show M5 (o + 0) 12 = nI 0
          rw [e5, mu_at, if_pos ⟨rfl, rfl⟩]
          rfl
        · show M5 (o + 0) 9 = nI 0
          rw [e5, e4, e3, e2, mu_at, if_neg (by omega), mu_at, if_neg (by omega), mu_at, if_neg (by omega), mu_at, if_pos ⟨rfl, rfl⟩]
          rfl
  · show w_X0_clear_2 o Q (fu2 (w_X0_clear_2 o Q) n) (nI k) N
    generalize fu2 (w_X0_clear_2 o Q) n = K at ih ⊢
    refine pk_le 6 k (fun z => by omega) (fun _ => ?_)
    rw [nI_clamp (by omega)]
    refine ⟨vp_in_nI hk (by omega), fun M6 e6 => ⟨vp_in_nI hk (by omega), fun M7 e7 => ?_⟩⟩
    rw [nI_1]
    refine ih M7 ⟨?_, fun j hj => ?_⟩
    · rw [e7, e6]
      exact (h.1.mu (by omega) (by omega)).mu (by omega) (by omega)
    · by_cases u : j = k
      · rw [u]
        constructor
        · rw [e7, mu_c (by omega), e6, mu_at, if_pos ⟨rfl, rfl⟩]
          rfl
        · rw [e7, mu_at, if_pos ⟨rfl, rfl⟩]
          rfl
      · have := h.2 j (by omega)
        constructor
        · rw [e7, mu_c (by omega), e6, mu_at, if_neg (by omega)]
          exact this.1
        · rw [e7, mu_at, if_neg (by omega), e6, mu_c (by omega)]
          exact this.2
theorem E00_WD : WD E00 := ⟨E00_WF, fun i h1 _ => E00_z i (by omega), E00_z 42 (by omega), E00_z 43 (by omega)⟩
theorem zero_P2 {M : Mem} (h : ∀ i, i < 44 → M 2 i = 0) (h3 : M 0 3 = 0) : P2 M E00 := by
  refine ⟨fun i hi => ?_, h3⟩
  rw [h i hi]
  unfold off
  by_cases z : i < 6
  · rw [if_pos z, E00_l i z]
    exact (Int32.sub_self _).symm
  · by_cases z2 : i < 12
    · rw [if_neg z, if_pos z2, E00_g i (by omega) z2]
      exact (Int32.sub_self _).symm
    · rw [if_neg z, if_neg z2, E00_z i (by omega)]
      exact (Int32.sub_self _).symm
/-- the reference's text: to its lines -/
theorem m_begins {M : Mem} {Q : Int32 → Mem → Prop} (q : ∀ M', yM M M' → (∀ i, i < 44 → M' 2 i = 0) → M' 0 3 = 0 → M' 0 4 = 0 → M' 0 8 = 0 → M' 0 10 = 0 → w_X8_text_43 0 M' Q) : w_X8_text M Q := by
  intro M1 e1 M2 e2 M3 e3 M4 e4
  have y4 : yM M M4 := by
    refine ⟨fun a h0 _ => by rw [e4, e3, e2, e1, mu_c h0, mu_c h0, mu_c h0, mu_c h0], fun k h3 h4 hk => ?_⟩
    rw [e4, e3, e2, e1, mu_at, if_neg (by omega), mu_at, if_neg (by omega), mu_at, if_neg (by omega), mu_at, if_neg (by omega)]
  have a3 : M4 0 3 = 0 := by rw [e4, e3, mu_at, if_neg (by omega), mu_at, if_pos ⟨rfl, rfl⟩]
  have a4 : M4 0 4 = 0 := by rw [e4, mu_at, if_pos ⟨rfl, rfl⟩]
  have a8 : M4 0 8 = 0 := by rw [e4, e3, e2, e1, mu_at, if_neg (by omega), mu_at, if_neg (by omega), mu_at, if_neg (by omega), mu_at, if_pos ⟨rfl, rfl⟩]
  have a10 : M4 0 10 = 0 := by rw [e4, e3, e2, mu_at, if_neg (by omega), mu_at, if_neg (by omega), mu_at, if_pos ⟨rfl, rfl⟩]
  refine pk_loop (fun n i N => fu2 (w_X8_text_24 0 Q) n (nI i) N) (fun k N => yM M N ∧ N 0 = M4 0 ∧ ∀ j, j < k → N 2 j = 0) 44 0 M4 (by omega) ⟨y4, rfl, fun j hj => by omega⟩ (fun n N h => ?_) (fun n k N hk h ih => ?_)
  · show w_X8_text_24 0 Q (fu2 (w_X8_text_24 0 Q) n) (nI 44) N
    generalize fu2 (w_X8_text_24 0 Q) n = K
    exact pk_le 44 44 (fun _ => q N h.1 h.2.2 (by rw [h.2.1, a3]) (by rw [h.2.1, a4]) (by rw [h.2.1, a8]) (by rw [h.2.1, a10])) (fun z => by omega)
  · show w_X8_text_24 0 Q (fu2 (w_X8_text_24 0 Q) n) (nI k) N
    generalize fu2 (w_X8_text_24 0 Q) n = K at ih ⊢
    refine pk_le 44 k (fun z => by omega) (fun _ => ?_)
    rw [nI_clamp (by omega)]
    refine ⟨vp_in_nI hk (by omega), fun M21 e21 => ?_⟩
    rw [nI_1]
    refine ih M21 ⟨by rw [e21]; exact h.1.mu2, by rw [e21, mu_c (by omega)]; exact h.2.1, fun j hj => ?_⟩
    rw [e21, mu_s]
    by_cases u : j = k
    · rw [if_pos u]
    · rw [if_neg u]
      exact h.2.2 j (by omega)
/-- the reference's text: from a good end -/
theorem m_good {M : Mem} {x : Int32} {D : Es} {Q : Int32 → Mem → Prop} (p2 : P2 M D) (h8 : M 0 8 = 0) (q : ∀ M', PM M' 0 D → M' 0 1 = nI (D 44) → M' 0 6 = 0 → M' 0 7 = 0 → M' 0 21 = 0 → (∀ k, k ≠ 1 → k ≠ 6 → k ≠ 7 → k ≠ 21 → M' 0 k = M 0 k) → (∀ k, k < 2 → M' 8 k = 0) → (∀ a, a ≠ 0 → a ≠ 1 → a ≠ 8 → M' a = M a) → Q x M') : w_X8_text_71 x M Q := by
  intro M9 e9 M10 e10
  have c9 : M9 0 8 = 0 := by rw [e9, mu_at, if_neg (by omega), h8]
  rw [c9] at e10
  have o10 : ∀ k, k ≠ 6 → k ≠ 7 → M10 0 k = M 0 k := fun k h6 h7 => by rw [e10, e9, mu_at, if_neg (by omega), mu_at, if_neg (by omega)]
  have a6 : M10 0 6 = 0 := by rw [e10, e9, mu_at, if_neg (by omega), mu_at, if_pos ⟨rfl, rfl⟩]
  have a7 : M10 0 7 = 0 := by rw [e10, mu_at, if_pos ⟨rfl, rfl⟩]
  have c10 : ∀ a, a ≠ 0 → M10 a = M a := fun a h => by rw [e10, e9, mu_c h, mu_c h]
  rw [o10 8 (by omega) (by omega), h8]
  refine ⟨fun _ => ?_, fun z => absurd (Int32.le_refl 0) z⟩
  refine pk_loop (fun n i N => fu2 (w_X8_text_101 x Q) n (nI i) N) (fun k N => (∀ a, a ≠ 1 → N a = M10 a) ∧ ∀ j, j < k → N 1 j = M 2 j) 44 0 M10 (by omega) ⟨fun _ _ => rfl, fun j hj => by omega⟩ (fun n N h => ?_) (fun n k N hk h ih => ?_)
  · show w_X8_text_101 x Q (fu2 (w_X8_text_101 x Q) n) (nI 44) N
    generalize fu2 (w_X8_text_101 x Q) n = K
    refine pk_le 44 44 (fun _ => ?_) (fun z => by omega)
    intro M13 e13 M14 e14
    refine ⟨vp_in_nI (n := 0) (by omega) (by omega), fun M15 e15 => ⟨vp_in_nI (n := 1) (by omega) (by omega), fun M16 e16 => ?_⟩⟩
    rw [vb0, k0] at e15
    rw [vb0, k1] at e16
    rw [h.1 0 (by omega), o10 3 (by omega) (by omega), p2.2] at e13
    have r0 : ∀ k, M16 0 k = M14 0 k := fun k => by rw [e16, e15, mu_c (by omega), mu_c (by omega)]
    refine q M16 (fun i hi _ => ?_) ?_ ?_ ?_ ?_ (fun k h1 h6 h7 h21 => ?_) (fun k hk => ?_) (fun a h0 h1 h8 => ?_)
    · rw [Nat.zero_add, e16, e15, e14, e13, mu_c (by omega), mu_c (by omega), mu_c (by omega), mu_c (by omega), h.2 i hi]
      exact p2.1 i hi
    · rw [r0, e14, e13, mu_at, if_neg (by omega), mu_at, if_pos ⟨rfl, rfl⟩]
    · rw [r0, e14, e13, mu_at, if_neg (by omega), mu_at, if_neg (by omega), h.1 0 (by omega), a6]
    · rw [r0, e14, e13, mu_at, if_neg (by omega), mu_at, if_neg (by omega), h.1 0 (by omega), a7]
    · rw [r0, e14, mu_at, if_pos ⟨rfl, rfl⟩]
    · rw [r0, e14, e13, mu_at, if_neg (by omega), mu_at, if_neg (by omega), h.1 0 (by omega), o10 k h6 h7]
    · rcases (show k = 0 ∨ k = 1 by omega) with rfl | rfl
      · rw [e16, e15, mu_at, if_neg (by omega), mu_at, if_pos ⟨rfl, rfl⟩]
      · rw [e16, mu_at, if_pos ⟨rfl, rfl⟩]
    · rw [e16, e15, e14, e13, mu_c h8, mu_c h8, mu_c h0, mu_c h0, h.1 a h1, c10 a h0]
  · show w_X8_text_101 x Q (fu2 (w_X8_text_101 x Q) n) (nI k) N
    generalize fu2 (w_X8_text_101 x Q) n = K at ih ⊢
    refine pk_le 44 k (fun z => by omega) (fun _ => ?_)
    rw [nI_clamp (by omega)]
    refine ⟨vp_in_nI hk (by omega), vp_in_nI (by omega) (by omega), fun M17 e17 => ?_⟩
    rw [nI_1]
    rw [h.1 2 (by omega), c10 2 (by omega)] at e17
    refine ih M17 ⟨fun a ha => by rw [e17, mu_c ha]; exact h.1 a ha, fun j hj => ?_⟩
    rw [e17, mu_s]
    by_cases u : j = k
    · rw [if_pos u, u]
    · rw [if_neg u]
      exact h.2 j (by omega)
/-- the reference's text: from a fault -/
theorem m_faults {M : Mem} {x : Int32} {f pl : Nat} {Q : Int32 → Mem → Prop} (h8 : M 0 8 = nI f) (h9 : M 0 9 = nI pl) (h1 : 1 ≤ f) (h5 : f ≤ 5) (q : ∀ M', M' 0 6 = 0 → M' 0 7 = nI f → (∀ k, k ≠ 6 → k ≠ 7 → M' 0 k = M 0 k) → (∀ a, a ≠ 0 → M' a = M a) → Q (-10 - nI pl) M') : w_X8_text_71 x M Q := by
  intro M9 e9 M10 e10
  have c9 : M9 0 8 = nI f := by rw [e9, mu_at, if_neg (by omega), h8]
  rw [c9] at e10
  have o10 : ∀ k, k ≠ 6 → k ≠ 7 → M10 0 k = M 0 k := fun k h6 h7 => by rw [e10, e9, mu_at, if_neg (by omega), mu_at, if_neg (by omega)]
  rw [o10 8 (by omega) (by omega), o10 9 (by omega) (by omega), h8, h9]
  refine ⟨fun z => absurd z (nI_np h1 (by omega)), fun _ => q M10 ?_ ?_ o10 (fun a h => by rw [e10, e9, mu_c h, mu_c h])⟩
  · rw [e10, e9, mu_at, if_neg (by omega), mu_at, if_pos ⟨rfl, rfl⟩]
  · rw [e10, mu_at, if_pos ⟨rfl, rfl⟩]
/-- the class's images go -/
theorem w_gone {X : Mem} {x : Int32} {Q : Int32 → Mem → Prop} (q : ∀ X', (∀ a, a ≠ 38 → X' a = X a) → (∀ k, k < 2 → X' 38 k = 0) → Q x X') : ∃ n, fu2 (w_X7_text_79 x Q) n 0 X := by
  refine pk_loop (fun n i N => fu2 (w_X7_text_79 x Q) n (nI i) N) (fun k N => (∀ a, a ≠ 38 → N a = X a) ∧ ∀ j, j < k → N 38 j = 0) 2 0 X (by omega) ⟨fun _ _ => rfl, fun j hj => by omega⟩ (fun n N h => ?_) (fun n k N hk h ih => ?_)
  · show w_X7_text_79 x Q (fu2 (w_X7_text_79 x Q) n) (nI 2) N
    generalize fu2 (w_X7_text_79 x Q) n = K
    exact pk_le 2 2 (fun _ => q N h.1 h.2) (fun z => by omega)
  · show w_X7_text_79 x Q (fu2 (w_X7_text_79 x Q) n) (nI k) N
    generalize fu2 (w_X7_text_79 x Q) n = K at ih ⊢
    refine pk_le 2 k (fun z => by omega) (fun _ => ?_)
    rw [nI_clamp (by omega), vb0]
    refine ⟨vp_in_nI hk (by omega), fun N2 e => ?_⟩
    rw [nI_1]
    refine ih N2 ⟨fun a ha => by rw [e, mu_c ha]; exact h.1 a ha, fun j hj => ?_⟩
    rw [e, mu_s]
    by_cases u : j = k
    · rw [if_pos u]
    · rw [if_neg u]
      exact h.2 j (by omega)
theorem op_text_ok : op_text Rel0 := by
  intro X M ⟨E, hN, hR⟩
  obtain ⟨n, b, hn, t1, t2, t3⟩ := hR.2.1.tp
  have tc : TC X n b := ⟨hn, t1, fun j hj => ⟨(t3 j hj).1, (t3 j hj).2.1⟩⟩
  have td : TD M n b := ⟨hn, t2, fun j hj => ⟨(t3 j hj).1, (t3 j hj).2.2⟩⟩
  obtain ⟨o, L, D, ho, wd, cl, rf⟩ := lines_both (n := n) (b := b) hn (n + 1) 0 E00 0 0 (by omega) (by omega) (by omega) E00_WD
  unfold w_X7_text w_X5_readLines
  refine w_clr (fun X2 ex2 f2 => ?_)
  intro X3 e3 X4 e4 X5 e5 X6 e6
  have k6 : kX X2 X6 := by rw [e6, e5, e4, e3]; exact kX.rf.mu.mu.mu.mu
  have x6 : cX X X6 := f2.c.tr k6.c
  have a3 : X6 24 3 = 0 := by rw [e6, e5, e4, e3, mu_at, if_neg (by omega), mu_at, if_neg (by omega), mu_at, if_neg (by omega), mu_at, if_pos ⟨rfl, rfl⟩]
  have a5 : X6 24 5 = 0 := by rw [e6, e5, e4, mu_at, if_neg (by omega), mu_at, if_neg (by omega), mu_at, if_pos ⟨rfl, rfl⟩]
  have a6 : X6 24 6 = 0 := by rw [e6, e5, mu_at, if_neg (by omega), mu_at, if_pos ⟨rfl, rfl⟩]
  /- the reference -/
  have ref : ∀ (Q : Int32 → Mem → Prop), (∀ N, yM M N → NL N o L D (fun x N => w_X8_text_71 x N Q)) → w_X8_text M Q := by
    intro Q q
    refine m_begins (fun M1 y1 z2 b3 b4 b8 b10 => ?_)
    unfold w_X8_text_43
    refine m_tok (y1.td td) (p := 0) (by omega) b8 b10 (fun M2 h => ⟨n + 2, ?_⟩)
    have y2 := y1.tr h.1.y
    exact rf M2 Q (n + 2) (by omega) (y2.td td) (h.st (by omega)) (y2.lt hR.2.2.2.2.2) ((zero_P2 z2 b3).cg h.1) (by rw [h.1.2 4 (by omega), b4]) (q M2 y2)
  refine ⟨n + 1, cl X6 _ (n + 1) (by omega) (x6.tc tc) a3 a5 a6 (k6.ex ex2) ⟨fun z X7 c7 ex7 d6 => ?_, fun z x X7 c7 d6 d7 => ?_⟩⟩
  · intro X8 e8 X9 e9
    have g9 : ∀ a, a ≠ 0 → a ≠ 22 → X9 a = X7 a := fun a h0 h2 => by rw [e9, e8, mu_c h0, mu_c h2]
    have s24 : X8 24 6 = 0 := by rw [e8, mu_c (by omega), d6]
    rw [s24] at e9
    refine ⟨fun _ => ?_, fun u => absurd (by rw [g9 24 (by omega) (by omega), d6]) u⟩
    refine w_copy (o := 1) (o2 := 12) (ex7.cell (fun c hc => g9 (12 + c) (by omega) (by omega))) (by omega) (fun X10 ex10 f10 => ?_)
    intro X11 e11
    refine w_gone (fun X12 g12 z12 => ?_)
    refine ref _ (fun N yN => ⟨fun _ N2 y2 p2 n8 => ?_, fun u => absurd z u⟩)
    have yy := yN.tr y2
    refine m_good p2 n8 (fun N3 pm m1 m6 m7 m21 mo m8 mc => ⟨rfl, D, ?_⟩)
    have w := wd z
    have ex12 : EX X12 1 D := ex10.cell (fun c hc => by rw [g12 _ (by omega), e11, mu_c (by omega)])
    have cc : ∀ a, (a = 26 ∨ a = 27 ∨ a = 28 ∨ 39 ≤ a) → X12 a = X a := fun a ha => by rw [g12 a (by omega), e11, mu_c (by omega), f10 a (by omega), g9 a (by omega) (by omega), c7 a (by omega), x6 a (by omega)]
    have c0 : ∀ k, X12 0 k = X9 0 k := fun k => by rw [g12 0 (by omega), e11, mu_c (by omega), f10 0 (by omega)]
    have mm : ∀ a, (a = 4 ∨ a = 5 ∨ 9 ≤ a) → N3 a = M a := fun a ha => by rw [mc a (by omega) (by omega) (by omega), yy.1 a (by omega) (by omega)]
    refine ⟨⟨w.1, by rw [w.2.2.1]; omega, ex12, pm, m1⟩, fun k hk => ⟨by rw [z12 k hk, m8 k hk], Or.inl (m8 k hk)⟩, ⟨0, by omega, ?_, m6, fun j hj => by omega⟩, ⟨0, by omega, ?_, m21, fun j hj => by omega⟩, hR.2.2.2.1.cg (fun a ha => cc a (by omega)) (mm 9 (by omega)) (mm 10 (by omega)) (mm 11 (by omega)), ⟨?_, ?_⟩, ⟨?_, ?_⟩⟩
    · rw [g12 22 (by omega), e11, mu_c (by omega), f10 22 (by omega), e9, mu_c (by omega), e8, mu_at, if_pos ⟨rfl, rfl⟩]
      rfl
    · rw [g12 25 (by omega), e11, mu_at, if_pos ⟨rfl, rfl⟩]
      rfl
    · rw [c0, e9, mu_at, if_pos ⟨rfl, rfl⟩, m7]
    · rw [c0, e9, mu_at, if_neg (by omega), e8, mu_c (by omega), c7 0 (by omega), x6 0 (by omega), mo 27 (by omega) (by omega) (by omega) (by omega), yy.2 27 (by omega) (by omega) (by omega)]
      exact hR.2.2.2.2.1.2
    · rw [mm 4 (by omega)]
      exact hR.2.2.2.2.2.1
    · rw [mm 5 (by omega)]
      exact hR.2.2.2.2.2.2
  · intro X8 e8 X9 e9
    have g9 : ∀ a, a ≠ 0 → a ≠ 22 → X9 a = X7 a := fun a h0 h2 => by rw [e9, e8, mu_c h0, mu_c h2]
    have s24 : X8 24 6 = nI o.1 := by rw [e8, mu_c (by omega), d6]
    rw [s24] at e9
    have nz : ¬ nI o.1 = 0 := nI_nz (by omega) (by omega)
    refine ⟨fun u => ?_, fun _ => ?_⟩
    · rw [g9 24 (by omega) (by omega), d6] at u
      exact absurd u nz
    · rw [g9 24 (by omega) (by omega), d7]
      refine ref _ (fun N yN => ⟨fun u => absurd u z, fun _ x2 N2 y2 n8 n9 => ?_⟩)
      have yy := yN.tr y2
      refine m_faults n8 n9 (by omega) ho (fun N3 m6 m7 mo mc => ⟨rfl, E, ?_⟩)
      have cc : ∀ a, ((1 ≤ a ∧ a < 12) ∨ (25 ≤ a)) → X9 a = X a := fun a ha => by rw [g9 a (by omega) (by omega), c7 a (by omega), x6 a (by omega)]
      have mm : ∀ a, (a ≠ 0 ∧ a ≠ 2) → N3 a = M a := fun a ha => by rw [mc a (by omega), yy.1 a (by omega) (by omega)]
      have m0 : ∀ k, k ≠ 3 → k ≠ 4 → k ≠ 6 → k ≠ 7 → (k < 8 ∨ 14 ≤ k) → N3 0 k = M 0 k := fun k h3 h4 h6 h7 hk => by rw [mo k h6 h7, yy.2 k h3 h4 hk]
      refine ⟨hN.cg (fun a h1 h2 => cc a (by omega)) (fun j hj => by rw [mm 1 (by omega)]) (m0 1 (by omega) (by omega) (by omega) (by omega) (by omega)), hR.1.cg (cc 38 (by omega)) (fun a h1 h2 => cc a (by omega)) (mm 8 (by omega)) (fun j h1 h2 => by rw [mm 1 (by omega)]), ⟨0, by omega, ?_, m6, fun j hj => by omega⟩, hR.2.2.1.cg (by rw [cc 25 (by omega)]) (cc 26 (by omega)) (cc 27 (by omega)) (cc 28 (by omega)) (m0 21 (by omega) (by omega) (by omega) (by omega) (by omega)) (mm 6 (by omega)), hR.2.2.2.1.cg (fun a ha => cc a (by omega)) (mm 9 (by omega)) (mm 10 (by omega)) (mm 11 (by omega)), ⟨?_, ?_⟩, ⟨?_, ?_⟩⟩
      · rw [e9, mu_c (by omega), e8, mu_at, if_pos ⟨rfl, rfl⟩]
        rfl
      · rw [e9, mu_at, if_pos ⟨rfl, rfl⟩, m7]
      · rw [e9, mu_at, if_neg (by omega), e8, mu_c (by omega), c7 0 (by omega), x6 0 (by omega), m0 27 (by omega) (by omega) (by omega) (by omega) (by omega)]
        exact hR.2.2.2.2.1.2
      · rw [mm 4 (by omega)]
        exact hR.2.2.2.2.2.1
      · rw [mm 5 (by omega)]
        exact hR.2.2.2.2.2.2
