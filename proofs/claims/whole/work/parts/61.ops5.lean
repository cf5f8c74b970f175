/-! keepers come and go; nights; images -/
theorem mu_cx {X : Mem} {o i j : Nat} {v : Int32} (hi : i < 45) (hj : j < 45) : mu X (o + (cx j).1) (cx j).2 v (o + (cx i).1) (cx i).2 = if i = j then v else X (o + (cx i).1) (cx i).2 := by
  rw [mu_at]
  by_cases e : i = j
  · subst e
    rw [if_pos ⟨rfl, rfl⟩, if_pos rfl]
  · rw [if_neg e, if_neg]
    intro q
    exact e (cx_inj i hi j hj (Prod.ext (by omega) q.2))
def hirE (E : Es) (s st e : Nat) : Es := fun i => if i = 41 then E 41 + 1 else if i = 38 + E 41 then e else if i = 35 + E 41 then st else if i = 32 + E 41 then s else E i
theorem hirE_44 {E : Es} {s st e : Nat} (h : E 41 < 3) : hirE E s st e 44 = E 44 := by
  unfold hirE
  rw [if_neg (by omega), if_neg (by omega), if_neg (by omega), if_neg (by omega)]
theorem hirE_42 {E : Es} {s st e : Nat} (h : E 41 < 3) : hirE E s st e 42 = E 42 := by
  unfold hirE
  rw [if_neg (by omega), if_neg (by omega), if_neg (by omega), if_neg (by omega)]
theorem hirE_41 {E : Es} {s st e : Nat} : hirE E s st e 41 = E 41 + 1 := if_pos rfl
theorem hirE_WF {E : Es} {s st e : Nat} (w : WF E) (h : E 41 < 3) (h1 : s < 6) (h2 : st ≤ 5) (h3 : 1 ≤ e) (h4 : e ≤ 9) : WF (hirE E s st e) := by
  obtain ⟨w1, w2, w3, w4, w5, w6, w7⟩ := w
  have ol : ∀ i, i < 32 ∨ 42 ≤ i → hirE E s st e i = E i := fun i hi => by
    unfold hirE
    rw [if_neg (by omega), if_neg (by omega), if_neg (by omega), if_neg (by omega)]
  unfold WF
  rw [hirE_41, ol 44 (by omega), ol 42 (by omega), ol 43 (by omega)]
  refine ⟨fun g hg => ?_, fun t ht => ?_, fun k hk => ?_, by omega, w5, w6, w7⟩
  · rw [ol g (by omega), ol (6 + g) (by omega)]
    exact w1 g hg
  · rw [ol (12 + t) (by omega), ol (17 + t) (by omega), ol (22 + t) (by omega), ol (27 + t) (by omega)]
    exact w2 t ht
  · by_cases q : k = E 41
    · subst q
      unfold hirE
      rw [if_neg (by omega), if_neg (by omega), if_neg (by omega), if_pos rfl, if_neg (by omega), if_neg (by omega), if_pos rfl, if_neg (by omega), if_pos rfl]
      exact ⟨h1, h2, h3, h4⟩
    · have := w3 k (by omega)
      unfold hirE
      rw [if_neg (by omega), if_neg (by omega), if_neg (by omega), if_neg (by omega), if_neg (by omega), if_neg (by omega), if_neg (by omega), if_neg (by omega), if_neg (by omega), if_neg (by omega), if_neg (by omega), if_neg (by omega)]
      exact this
theorem ok_hire {tk kp i : Nat} (h : ok tk (kp + 1) i) (h1 : i ≠ 32 + kp) (h2 : i ≠ 35 + kp) (h3 : i ≠ 38 + kp) (h4 : kp < 3) : ok tk kp i := by
  rcases h with h | h | h | h
  · exact Or.inl h
  · exact Or.inr (Or.inl h)
  · exact Or.inr (Or.inr (Or.inl ⟨h.1, h.2.1, by omega⟩))
  · exact Or.inr (Or.inr (Or.inr h))
theorem w_addK {X : Mem} {o s st e : Nat} {E : Es} {Q : Int32 → Mem → Prop} (h : EX X o E) (hk : E 41 < 3) (hq : ∀ X', EX X' o (hirE E s st e) → frX o X X' → Q 1 X') : w_X0_addKeeper o (nI s) (nI st) (nI e) X Q := by
  unfold w_X0_addKeeper
  rw [h.kp]
  refine pk_lt (E 41) 3 (fun _ => ?_) (fun z => by omega)
  rw [nI_clamp (by omega)]
  refine ⟨vp_in_nI hk (by omega), fun M2 e2 => ?_⟩
  rw [show M2 o 10 = nI (E 41) from by rw [e2, mu_c (by omega), h.kp], nI_clamp (by omega)]
  refine ⟨vp_in_nI hk (by omega), fun M3 e3 => ?_⟩
  rw [show M3 o 10 = nI (E 41) from by rw [e3, e2, mu_c (by omega), mu_c (by omega), h.kp], nI_clamp (by omega)]
  refine ⟨vp_in_nI hk (by omega), fun M4 e4 M5 e5 => ?_⟩
  rw [show M4 o 10 = nI (E 41) from by rw [e4, e3, e2, mu_c (by omega), mu_c (by omega), mu_c (by omega), h.kp], nI_1] at e5
  obtain ⟨c1, c2, c3⟩ := cxk (E 41) hk
  have d : M5 = mu (mu (mu (mu X (o + (cx (32 + E 41)).1) (cx (32 + E 41)).2 (nI s)) (o + (cx (35 + E 41)).1) (cx (35 + E 41)).2 (nI st)) (o + (cx (38 + E 41)).1) (cx (38 + E 41)).2 (nI e)) (o + (cx 41).1) (cx 41).2 (nI (E 41 + 1)) := by
    rw [c1, c2, c3, e5, e4, e3, e2]
    rfl
  refine hq M5 (fun i hi hok => ?_) ?_
  · rw [hirE_44 hk, hirE_41] at hok
    rw [d, mu_cx hi (by omega), mu_cx hi (by omega), mu_cx hi (by omega), mu_cx hi (by omega)]
    unfold hirE
    by_cases q1 : i = 41
    · rw [if_pos q1, if_pos q1]
    · rw [if_neg q1, if_neg q1]
      by_cases q2 : i = 38 + E 41
      · rw [if_pos q2, if_pos q2]
      · rw [if_neg q2, if_neg q2]
        by_cases q3 : i = 35 + E 41
        · rw [if_pos q3, if_pos q3]
        · rw [if_neg q3, if_neg q3]
          by_cases q4 : i = 32 + E 41
          · rw [if_pos q4, if_pos q4]
          · rw [if_neg q4, if_neg q4]
            exact h i hi (ok_hire hok q4 q3 q2 hk)
  · rw [e5, e4, e3, e2]
    exact (((frX.rf.mu (by omega) (by omega)).mu (by omega) (by omega)).mu (by omega) (by omega)).mu (by omega) (by omega)
theorem m_hires {M : Mem} {p s st e : Nat} {E : Es} {Q : Mem → Prop} (h : PM M p E) (hp : p + 44 ≤ 264) (hk : E 41 < 3) (hq : ∀ M', PM M' p (hirE E s st e) → (∀ a, a ≠ 1 → M' a = M a) → (∀ j, j < p ∨ p + 44 ≤ j → M' 1 j = M 1 j) → Q M') : w_X8_hiresOn (nI p) (nI s) (nI st) (nI e) M Q := by
  unfold w_X8_hiresOn
  rw [jx41, nI_clamp (by omega), h.kp, ix32, ix35, ix38, nI_clamp (by omega), nI_clamp (by omega), nI_clamp (by omega)]
  refine ⟨vp_in_nI (by omega) (by omega), vp_in_nI (by omega) (by omega), fun M1 e1 => ⟨vp_in_nI (by omega) (by omega), fun M2 e2 => ⟨vp_in_nI (by omega) (by omega), fun M3 e3 => ⟨vp_in_nI (by omega) (by omega), vp_in_nI (by omega) (by omega), fun M4 e4 => ?_⟩⟩⟩⟩
  rw [show M3 1 (p + 41) = nI (E 41) from by rw [e3, e2, e1, mu_at, if_neg (by omega), mu_at, if_neg (by omega), mu_at, if_neg (by omega), h.kp], nI_1] at e4
  refine hq M4 (fun i hi hok => ?_) (fun a ha => ?_) (fun j hj => ?_)
  · rw [hirE_44 hk, hirE_41] at hok
    rw [e4, e3, e2, e1, mu_at, mu_at, mu_at, mu_at]
    unfold hirE
    by_cases q1 : i = 41
    · rw [if_pos (by omega), if_pos q1, q1]
      rw [off0 (by omega), sub0]
    · rw [if_neg (by omega), if_neg q1]
      by_cases q2 : i = 38 + E 41
      · rw [if_pos (by omega), if_pos q2, off0 (by omega), sub0]
      · rw [if_neg (by omega), if_neg q2]
        by_cases q3 : i = 35 + E 41
        · rw [if_pos (by omega), if_pos q3, off0 (by omega), sub0]
        · rw [if_neg (by omega), if_neg q3]
          by_cases q4 : i = 32 + E 41
          · rw [if_pos (by omega), if_pos q4, off0 (by omega), sub0]
          · rw [if_neg (by omega), if_neg q4]
            exact h i hi (ok_hire hok q4 q3 q2 hk)
  · rw [e4, e3, e2, e1, mu_c ha, mu_c ha, mu_c ha, mu_c ha]
  · rw [e4, e3, e2, e1, mu_at, if_neg (by omega), mu_at, if_neg (by omega), mu_at, if_neg (by omega), mu_at, if_neg (by omega)]
theorem frX.f {X X' : Mem} (h : frX 1 X X') : fX X X' := fun a ha => h a (by omega)
theorem op_hire_ok : op_hire Rel0 := by
  intro X M x y z ⟨E, hN, hR⟩
  have hN' := hN
  obtain ⟨w, h9, hX, hM, hT⟩ := hN
  have h3 := w.2.2.2.1
  unfold w_X7_hire w_X8_hire
  rcases dR x 0 5 with ⟨s, -, hs, rfl⟩ | hno
  · refine c_gt1 hs (b0 ?_)
    rcases dR y 0 5 with ⟨st, -, hst, rfl⟩ | hno
    · refine c_io1 (a := 0) (b := 5) (by omega) hst (by omega) (b0 ?_)
      rcases dR z 1 9 with ⟨e, he1, he, rfl⟩ | hno
      · refine c_io1 (a := 1) (b := 9) he1 he (by omega) (b0 ?_)
        rw [hM.k41]
        by_cases hk : E 41 < 3
        · refine w_addK hX hk (fun X' hX' f' => ?_)
          rw [if_neg (by decide)]
          refine m_gt1 hs (b1 (m_gt1 hst (b1 (m_in1 (a := 1) (b := 9) he1 he (by omega) (b1 ⟨i41, ?_⟩)))))
          refine pk_eq (E 41) 3 (fun z => by omega) (fun _ => ?_)
          refine m_hires (p := 0) hM (by omega) hk (fun M' hM' g1 g2 => ⟨i41, ?_, ?_⟩)
          · rw [hX'.kp, hM'.k41]
          · refine Rel0.n hR ⟨hirE_WF w hk (by omega) (by omega) he1 he, ?_, hX', hM', ?_⟩ (hirE_44 hk) f'.f ⟨fun a h0 h1 h7 => g1 a h1, fun j h1 h2 => g2 j (by omega), fun k _ _ _ _ => by rw [g1 0 (by omega)]⟩
            · rw [hirE_42 hk]
              exact h9
            · rw [g1 0 (by omega), hirE_44 hk]
              exact hT
        · unfold w_X0_addKeeper
          rw [hX.kp]
          refine pk_lt (E 41) 3 (fun q => by omega) (fun _ => ?_)
          exact m_gt1 hs (b1 (m_gt1 hst (b1 (m_in1 (a := 1) (b := 9) he1 he (by omega) (b1 ⟨i41, pk_eq (E 41) 3 (fun _ => ⟨rfl, E, hN', hR⟩) (fun z => by omega)⟩)))))
      · exact c_io0 (a := 1) (b := 9) hno (by omega) (by omega) (b1 (m_gt1 hs (b1 (m_gt1 hst (b1 (m_in0 (a := 1) (b := 9) hno (by omega) (by omega) (b0 ⟨rfl, E, hN', hR⟩)))))))
    · exact c_io0 (a := 0) (b := 5) hno (by omega) (by omega) (b1 (m_gt1 hs (b1 (m_gt0 hno (b0 ⟨rfl, E, hN', hR⟩)))))
  · exact c_gt0 hno (b1 (m_gt0 hno (b0 ⟨rfl, E, hN', hR⟩)))
theorem ok_less {tk kp kq i : Nat} (h : ok tk kp i) (hk : kp ≤ kq) : ok tk kq i := by
  rcases h with h | h | h | h
  · exact Or.inl h
  · exact Or.inr (Or.inl h)
  · exact Or.inr (Or.inr (Or.inl ⟨h.1, h.2.1, by omega⟩))
  · exact Or.inr (Or.inr (Or.inr h))
theorem op_dismiss_ok : op_dismiss Rel0 := by
  intro X M x ⟨E, hN, hR⟩
  have hN' := hN
  obtain ⟨w, h9, hX, hM, hT⟩ := hN
  have h3 := w.2.2.2.1
  unfold w_X7_dismiss w_X8_dismiss
  rw [hX.kp, hM.k41]
  rcases dR x 0 (E 41) with ⟨n, -, hn, rfl⟩ | hno
  · refine c_io1 (a := 0) (by omega) hn (by omega) (b0 ?_)
    intro M3 e3
    refine ⟨i41, m_in1 (a := 0) (by omega) hn (by omega) ?_⟩
    refine m_puts1 (i := 41) (by omega) ⟨?_, ?_⟩
    · rw [Int32.add_zero]
      exact hM.k41.symm
    · rw [Int32.sub_zero, e3]
      refine Rel0.n (E' := up E 41 n) hR ⟨?_, ?_, fun i hi hok => ?_, fun i hi hok => ?_, ?_⟩ (up_n (by omega)) (fX.mu (by omega) (by omega)) (fM.mu (by omega))
      · obtain ⟨w1, w2, w3, w4, w5, w6, w7⟩ := w
        unfold WF
        rw [up_s, up_n (j := 44) (by omega), up_n (j := 42) (by omega), up_n (j := 43) (by omega)]
        refine ⟨fun g hg => ?_, fun t ht => ?_, fun k hk => ?_, by omega, w5, w6, w7⟩
        · rw [up_n (by omega), up_n (by omega)]
          exact w1 g hg
        · rw [up_n (by omega), up_n (by omega), up_n (by omega), up_n (by omega)]
          exact w2 t ht
        · rw [up_n (by omega), up_n (by omega), up_n (by omega)]
          exact w3 k (by omega)
      · rw [up_n (by omega)]
        exact h9
      · rw [up_s, up_n (by omega)] at hok
        have d : mu X 1 10 (nI n) = mu X (1 + (cx 41).1) (cx 41).2 (nI n) := rfl
        rw [d, mu_cx hi (by omega)]
        by_cases q : i = 41
        · rw [if_pos q, q, up_s]
        · rw [if_neg q, up_n q]
          exact hX i hi (ok_less hok hn)
      · rw [up_s, up_n (by omega)] at hok
        rw [mu_at]
        by_cases q : i = 41
        · rw [if_pos (by omega), q, up_s, off0 (by omega), sub0]
        · rw [if_neg (by omega), up_n q]
          exact hM i hi (ok_less hok hn)
      · rw [mu_c (by omega), up_n (by omega)]
        exact hT
  · refine c_io0 (a := 0) hno (by omega) (by omega) (b1 ?_)
    exact ⟨i41, m_in0 (a := 0) hno (by omega) (by omega) (m_puts0 ⟨rfl, E, hN', hR⟩)⟩
