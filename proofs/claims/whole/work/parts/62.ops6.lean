theorem op_nights_ok : op_nights Rel0 := by
  intro X M x ⟨E, hN, hR⟩
  have hN' := hN
  obtain ⟨w, h9, hX, hM, hTk⟩ := hN
  unfold w_X7_nights
  rcases dR x 0 30 with ⟨n, -, hn, rfl⟩ | hno
  · refine c_io1 (a := 0) (b := 30) (by omega) hn (by omega) (b0 ?_)
    rw [hX.ni, nI_add]
    have mIn : ∀ {Q : Int32 → Mem → Prop}, ((E 42 + n ≤ 999 → ∀ M', PM M' 0 (hE no n E) → frM 0 M M' → Q (nI (hT no n E)) M') ∧ (999 < E 42 + n → Q (-3) M)) → w_X8_nights (nI n) M Q := by
      intro Q ⟨q1, q2⟩
      unfold w_X8_nights
      refine m_in1 (a := 0) (b := 30) (by omega) hn (by omega) (b1 ⟨i42, ?_⟩)
      rw [hM.k42, nI_add]
      refine pk_le (E 42 + n) 999 (fun hl => ?_) (fun hl => q2 hl)
      intro M3 e3 M4 e4 M5 e5
      have f5 : frM 0 M M5 := by
        rw [e5, e4, e3]
        exact ((frM.rf.ct (Or.inl rfl)).ct (Or.inr (Or.inl rfl))).ct (Or.inr (Or.inr rfl))
      have p5 : PM M5 0 E := by
        rw [e5, e4, e3]
        exact ((hM.out (Or.inl (by omega))).out (Or.inl (by omega))).out (Or.inl (by omega))
      have t5 : M5 0 16 = nI 0 := by
        rw [e5, e4, e3, mu_at, if_neg (by omega), mu_at, if_neg (by omega), mu_at, if_pos ⟨rfl, rfl⟩]
        rfl
      refine pk_loop (fun m i N => fu2 (w_X8_nights_38 (nI n) Q) m (nI i) N) (fun i N => PM N 0 (hE no i E) ∧ N 0 16 = nI (hT no i E) ∧ frM 0 M N) n 0 M5 (by omega) ⟨p5, t5, f5⟩ (fun m N h => ?_) (fun m i N hi h ih => ?_)
      · show w_X8_nights_38 (nI n) Q (fu2 (w_X8_nights_38 (nI n) Q) m) (nI n) N
        generalize fu2 (w_X8_nights_38 (nI n) Q) m = K
        refine pk_le n n (fun _ => ?_) (fun z => by omega)
        unfold w_X8_nights_55
        rw [h.2.1]
        exact q1 hl N h.1 h.2.2
      · show w_X8_nights_38 (nI n) Q (fu2 (w_X8_nights_38 (nI n) Q) m) (nI i) N
        generalize fu2 (w_X8_nights_38 (nI n) Q) m = K at ih ⊢
        refine pk_le n i (fun z => by omega) (fun _ => ?_)
        obtain ⟨a, b, c, d⟩ := hE_fix no E w i (by omega)
        refine m_night (p := 0) (hz := false) h.1 (by rw [b, h.2.2.2.2 1 (by omega) (by omega) (by omega)]; exact hTk) a (by omega) ⟨fun _ => rfl, fun _ => rfl⟩ (fun N2 p2 f2 a1 a2 a3 => ?_)
        rw [nI_1]
        refine ih N2 ⟨p2, ?_, h.2.2.tr f2⟩
        rw [a1, h.2.1, nI_add]
        rfl
    refine pk_le (E 42 + n) 999 (fun hl => ?_) (fun hl => mIn ⟨fun z => by omega, fun _ => ⟨rfl, E, hN', hR⟩⟩)
    refine pk_loop (fun m i (N : Mem) => fu3 (w_X7_nights_34 (nI n) _) m (nI (hT no i E)) (nI i) N) (fun i N => EX N 1 (hE no i E) ∧ frX 1 X N) n 0 X (by omega) ⟨hX, frX.rf⟩ (fun m N h => ?_) (fun m i N hi h ih => ?_)
    · refine pk_le n n (fun _ => ?_) (fun z => by omega)
      refine mIn ⟨fun _ M' pM' fM' => ⟨rfl, ?_⟩, fun z => by omega⟩
      obtain ⟨a, b, c, d⟩ := hE_fix no E w n (by omega)
      refine Rel0.n hR ⟨a, by omega, h.1, pM', ?_⟩ b h.2.f ⟨fun a h0 h1 _ => fM'.1 a h0 h1, fun j h1 h2 => fM'.2.1 j (by omega), fun k h1 h2 h3 _ => fM'.2.2 k h1 h2 h3⟩
      rw [b, fM'.2.2 1 (by omega) (by omega) (by omega)]
      exact hTk
    · refine pk_le n i (fun z => by omega) (fun _ => ?_)
      obtain ⟨a, b, c, d⟩ := hE_fix no E w i (by omega)
      refine w_night (hz := false) h.1 a ⟨fun _ => rfl, fun _ => rfl⟩ (by omega) (fun N2 p2 f2 _ => ?_)
      rw [nI_1, nI_add]
      exact ih N2 ⟨p2, h.2.tr f2⟩
  · exact c_io0 (a := 0) (b := 30) hno (by omega) (by omega) (b1 (m_in0 (a := 0) (b := 30) hno (by omega) (by omega) (b0 ⟨rfl, E, hN', hR⟩)))
theorem vb1 : vp_nar .boolean 1 = 1 := by decide
theorem vb0 : vp_nar .boolean 0 = 0 := by decide
theorem op_keep_ok : op_keep Rel0 := by
  intro X M x ⟨E, hN, hR⟩
  have hN' := hN
  obtain ⟨w, h9, hX, hM, hTk⟩ := hN
  unfold w_X7_keep w_X8_keep
  rcases dR x 0 1 with ⟨k, -, hk, rfl⟩ | hno
  · refine c_io1 (a := 0) (b := 1) (by omega) hk (by omega) (b0 ?_)
    have ev : vp_in (nI k) 2 := vp_in_nI (by omega) (by omega)
    rw [nI_clamp (by omega), vb1]
    refine ⟨ev, ev, w_copy hX (by unfold imgI; omega) (fun X6 a6 f6 => ⟨ev, fun X7 e7 => ?_⟩)⟩
    refine m_in1 (a := 0) (b := 1) (by omega) hk (by omega) (b1 ?_)
    rw [nI_1, show (44 : Int32) * nI (k + 1) = nI (44 * (k + 1)) from nIm 44 _]
    refine m_copies (a := 0) (by omega) (by omega) (by omega) (fun M4 c1 c2 c3 => ⟨ev, ev, fun M6 e6 => ?_⟩)
    have z3 : ∀ a, a ≠ 38 → (a < imgI k ∨ imgI k + 10 ≤ a) → X7 a = X a := fun a h h2 => by rw [e7, mu_c h, f6 a h2]
    have z5 : ∀ a, a ≠ 1 → a ≠ 8 → M6 a = M a := fun a h h2 => by rw [e6, mu_c h2, c2 a h]
    have y5 : ∀ j, j < 44 * (k + 1) ∨ 44 * (k + 1) + 44 ≤ j → M6 1 j = M 1 j := fun j h => by rw [e6, mu_c (by omega), c3 j h]
    have ik : imgI k = 40 + 10 * k := rfl
    refine ⟨?_, E, hN'.cg (fun a h1 h2 => z3 a (by omega) (by omega)) (fun j hj => y5 j (by omega)) (by rw [z5 0 (by omega) (by omega)]), fun j hj => ?_, hR.2.1.cg (by rw [z3 22 (by omega) (by omega)]) (z3 _ (by omega) (by omega)) (by rw [z5 0 (by omega) (by omega)]) (z5 _ (by omega) (by omega)), hR.2.2.1.cg (by rw [z3 25 (by omega) (by omega)]) (z3 _ (by omega) (by omega)) (z3 _ (by omega) (by omega)) (z3 _ (by omega) (by omega)) (by rw [z5 0 (by omega) (by omega)]) (z5 _ (by omega) (by omega)), hR.2.2.2.1.cg (fun a ha => z3 a (by omega) (by omega)) (z5 _ (by omega) (by omega)) (z5 _ (by omega) (by omega)) (z5 _ (by omega) (by omega)), ⟨?_, ?_⟩, ⟨?_, ?_⟩⟩
    · rw [c2 8 (by omega), (hR.1 k (by omega)).1]
    · have e38 : X7 38 j = if j = k then 1 else X 38 j := by
        rw [e7, mu_at]
        by_cases q : j = k
        · rw [if_pos ⟨rfl, q⟩, if_pos q]
        · rw [if_neg (by omega), if_neg q, f6 38 (by omega)]
      have e8 : M6 8 j = if j = k then 1 else M 8 j := by
        rw [e6, mu_at]
        by_cases q : j = k
        · rw [if_pos ⟨rfl, q⟩, if_pos q]
        · rw [if_neg (by omega), if_neg q, c2 8 (by omega)]
      rw [e38, e8]
      by_cases q : j = k
      · subst q
        rw [if_pos rfl, if_pos rfl]
        refine ⟨rfl, Or.inr ⟨rfl, E, w, rfl, h9, ?_, fun i hi hok => ?_⟩⟩
        · rw [e7]
          exact a6.cell (fun c hc => mu_c (by omega))
        · rw [e6, mu_c (by omega), c1 i hi]
          exact hM i hi hok
      · rw [if_neg q, if_neg q]
        obtain ⟨a, b⟩ := hR.1 j hj
        refine ⟨a, ?_⟩
        have ij : imgI j = 40 + 10 * j := rfl
        rcases b with b | ⟨b, Ej, wj, ej, gj, xj, mj⟩
        · exact Or.inl b
        · refine Or.inr ⟨b, Ej, wj, ej, gj, xj.cell (fun c hc => z3 _ (by omega) (by omega)), fun i hi hok => ?_⟩
          rw [y5 _ (by omega)]
          exact mj i hi hok
    · rw [z3 0 (by omega) (by omega), z5 0 (by omega) (by omega)]
      exact hR.2.2.2.2.1.1
    · rw [z3 0 (by omega) (by omega), z5 0 (by omega) (by omega)]
      exact hR.2.2.2.2.1.2
    · rw [z5 4 (by omega) (by omega)]
      exact hR.2.2.2.2.2.1
    · rw [z5 5 (by omega) (by omega)]
      exact hR.2.2.2.2.2.2
  · exact c_io0 (a := 0) (b := 1) hno (by omega) (by omega) (b1 (m_in0 (a := 0) (b := 1) hno (by omega) (by omega) (b0 ⟨rfl, E, hN', hR⟩)))
theorem op_back_ok : op_back Rel0 := by
  intro X M x ⟨E, hN, hR⟩
  have hN' := hN
  obtain ⟨w, h9, hX, hM, hTk⟩ := hN
  unfold w_X7_back w_X8_back
  rcases dR x 0 1 with ⟨k, -, hk, rfl⟩ | hno
  · refine c_io1 (a := 0) (b := 1) (by omega) hk (by omega) (b0 ?_)
    have ev : vp_in (nI k) 2 := vp_in_nI (by omega) (by omega)
    have ik : imgI k = 40 + 10 * k := rfl
    rw [nI_clamp (by omega)]
    obtain ⟨i1, i2⟩ := hR.1 k (by omega)
    rw [i1]
    rcases i2 with b | ⟨b, Ek, wk, ek, gk, xk, mk⟩
    · rw [b]
      exact ⟨ev, b0 (m_in1 (a := 0) (b := 1) (by omega) hk (by omega) (b1 ⟨ev, b0 ⟨rfl, E, hN', hR⟩⟩))⟩
    · rw [b]
      refine ⟨ev, b1 ⟨ev, w_copy xk (by omega) (fun X6 a6 f6 => ?_)⟩⟩
      refine m_in1 (a := 0) (b := 1) (by omega) hk (by omega) (b1 ⟨ev, b1 ?_⟩)
      rw [nI_1, show (44 : Int32) * nI (k + 1) = nI (44 * (k + 1)) from nIm 44 _]
      refine m_copies (b := 0) (by omega) (by omega) (by omega) (fun M4 c1 c2 c3 => ?_)
      have p4 : PM M4 0 Ek := fun i hi hok => by
        rw [c1 i hi]
        exact mk i hi hok
      refine ⟨i42, ?_, ?_⟩
      · rw [a6.ni, p4.k42]
      · refine Rel0.n hR ⟨wk, gk, a6, p4, ?_⟩ ek f6.f ⟨fun a h0 h1 _ => c2 a h1, fun j h1 h2 => c3 j (by omega), fun k _ _ _ _ => by rw [c2 0 (by omega)]⟩
        rw [c2 0 (by omega), ek]
        exact hTk
  · exact c_io0 (a := 0) (b := 1) hno (by omega) (by omega) (b1 (m_in0 (a := 0) (b := 1) hno (by omega) (by omega) (b0 ⟨rfl, E, hN', hR⟩)))
