/-! the calls, one after another -/
theorem k0 : (0 : Int32).toNatClampNeg = 0 := rfl
theorem k1 : (1 : Int32).toNatClampNeg = 1 := rfl
theorem k41 : (41 : Int32).toNatClampNeg = 41 := rfl
theorem k42 : (42 : Int32).toNatClampNeg = 42 := rfl
theorem k43 : (43 : Int32).toNatClampNeg = 43 := rfl
theorem i41 : vp_in 41 264 := vp_in_nI (n := 41) (by omega) (by omega)
theorem i42 : vp_in 42 264 := vp_in_nI (n := 42) (by omega) (by omega)
theorem i43 : vp_in 43 264 := vp_in_nI (n := 43) (by omega) (by omega)
theorem PM.o {M : Mem} {E : Es} (h : PM M 0 E) {i : Nat} (hi : i < 44) (hok : ok (E 44) (E 41) i) : M 1 i = nI (E i) - off i := by
  have := h i hi hok
  rwa [Nat.zero_add] at this
theorem PM.z {M : Mem} {E : Es} (h : PM M 0 E) {i : Nat} (h12 : 12 ≤ i) (hi : i < 44) (hok : ok (E 44) (E 41) i) : M 1 i = nI (E i) := by
  have := h.o hi hok
  rwa [off0 h12, sub0] at this
theorem PM.k41 {M : Mem} {E : Es} (h : PM M 0 E) : M 1 (41 : Int32).toNatClampNeg = nI (E 41) := h.z (i := 41) (by omega) (by omega) (oks (by omega) (by omega))
theorem PM.k42 {M : Mem} {E : Es} (h : PM M 0 E) : M 1 (42 : Int32).toNatClampNeg = nI (E 42) := h.z (i := 42) (by omega) (by omega) (oks (by omega) (by omega))
theorem PM.k43 {M : Mem} {E : Es} (h : PM M 0 E) : M 1 (43 : Int32).toNatClampNeg = nI (E 43) := h.z (i := 43) (by omega) (by omega) (oks (by omega) (by omega))
theorem c_tk1 {X : Mem} {E : Es} {t : Nat} {Q : Int32 → Prop} (h : EX X 1 E) (w : WF E) (ht : t < E 44) (q : Q 0) : w_X7_isNoTaker (nI t) X Q := by
  have h5 := w.2.2.2.2.1
  unfold w_X7_isNoTaker
  rw [h.tk]
  exact c_T1 ht (by omega) ⟨nb0, q⟩
theorem c_tk0 {X : Mem} {E : Es} {x : Int32} {Q : Int32 → Prop} (h : EX X 1 E) (w : WF E) (ht : ∀ t, t < E 44 → x ≠ nI t) (q : Q 1) : w_X7_isNoTaker x X Q := by
  have h5 := w.2.2.2.2.1
  unfold w_X7_isNoTaker
  rw [h.tk]
  exact c_T0 ht (by omega) ⟨nb1, q⟩
theorem c_kp1 {X : Mem} {E : Es} {t : Nat} {Q : Int32 → Prop} (h : EX X 1 E) (w : WF E) (ht : t < E 41) (q : Q 0) : w_X7_isNoKeeper (nI t) X Q := by
  have h5 := w.2.2.2.1
  unfold w_X7_isNoKeeper
  rw [h.kp]
  exact c_T1 ht (by omega) ⟨nb0, q⟩
theorem c_kp0 {X : Mem} {E : Es} {x : Int32} {Q : Int32 → Prop} (h : EX X 1 E) (w : WF E) (ht : ∀ t, t < E 41 → x ≠ nI t) (q : Q 1) : w_X7_isNoKeeper x X Q := by
  have h5 := w.2.2.2.1
  unfold w_X7_isNoKeeper
  rw [h.kp]
  exact c_T0 ht (by omega) ⟨nb1, q⟩
theorem c_gt1 {X : Mem} {g : Nat} {Q : Int32 → Prop} (hg : g ≤ 5) (q : Q 0) : w_X7_isNoGate (nI g) X Q := c_io1 (a := 0) (b := 5) (by omega) hg (by omega) ⟨nb0, q⟩
theorem c_gt0 {X : Mem} {x : Int32} {Q : Int32 → Prop} (h : ∀ n, 0 ≤ n → n ≤ 5 → x ≠ nI n) (q : Q 1) : w_X7_isNoGate x X Q := c_io0 (a := 0) (b := 5) h (by omega) (by omega) ⟨nb1, q⟩
theorem c_sh1 {X : Mem} {g : Nat} {Q : Int32 → Prop} (hg : g ≤ 3) (q : Q 0) : w_X7_isNoSheet (nI g) X Q := c_io1 (a := 0) (b := 3) (by omega) hg (by omega) ⟨nb0, q⟩
theorem c_sh0 {X : Mem} {x : Int32} {Q : Int32 → Prop} (h : ∀ n, 0 ≤ n → n ≤ 3 → x ≠ nI n) (q : Q 1) : w_X7_isNoSheet x X Q := c_io0 (a := 0) (b := 3) h (by omega) (by omega) ⟨nb1, q⟩
theorem m_tk1 {M : Mem} {E : Es} {t : Nat} {Q : Int32 → Prop} (h : M 0 1 = nI (E 44)) (w : WF E) (ht : t < E 44) (q : Q 1) : w_X8_isTaker (nI t) M Q := by
  have h5 := w.2.2.2.2.1
  unfold w_X8_isTaker
  rw [h]
  exact m_T1 ht (by omega) ⟨nb1, q⟩
theorem m_tk0 {M : Mem} {E : Es} {x : Int32} {Q : Int32 → Prop} (h : M 0 1 = nI (E 44)) (w : WF E) (ht : ∀ t, t < E 44 → x ≠ nI t) (q : Q 0) : w_X8_isTaker x M Q := by
  have h5 := w.2.2.2.2.1
  unfold w_X8_isTaker
  rw [h]
  exact m_T0 ht (by omega) ⟨nb0, q⟩
theorem m_kp1 {M : Mem} {E : Es} {t : Nat} {Q : Int32 → Prop} (h : PM M 0 E) (w : WF E) (ht : t < E 41) (q : Q 1) : w_X8_isKeeper (nI t) M Q := by
  have h5 := w.2.2.2.1
  unfold w_X8_isKeeper
  rw [h.k41]
  exact ⟨i41, m_T1 ht (by omega) ⟨nb1, q⟩⟩
theorem m_kp0 {M : Mem} {E : Es} {x : Int32} {Q : Int32 → Prop} (h : PM M 0 E) (w : WF E) (ht : ∀ t, t < E 41 → x ≠ nI t) (q : Q 0) : w_X8_isKeeper x M Q := by
  have h5 := w.2.2.2.1
  unfold w_X8_isKeeper
  rw [h.k41]
  exact ⟨i41, m_T0 ht (by omega) ⟨nb0, q⟩⟩
theorem m_gt1 {M : Mem} {g : Nat} {Q : Int32 → Prop} (hg : g ≤ 5) (q : Q 1) : w_X8_isGate (nI g) M Q := m_in1 (a := 0) (b := 5) (by omega) hg (by omega) ⟨nb1, q⟩
theorem m_gt0 {M : Mem} {x : Int32} {Q : Int32 → Prop} (h : ∀ n, 0 ≤ n → n ≤ 5 → x ≠ nI n) (q : Q 0) : w_X8_isGate x M Q := m_in0 (a := 0) (b := 5) h (by omega) (by omega) ⟨nb0, q⟩
/-- a branch on 0 or 1 -/
theorem b0 {A B : Prop} (h : A) : ((0 : Int32) = 0 → A) ∧ (¬ (0 : Int32) = 0 → B) := ⟨fun _ => h, fun z => absurd rfl z⟩
theorem b1 {A B : Prop} (h : B) : ((1 : Int32) = 0 → A) ∧ (¬ (1 : Int32) = 0 → B) := ⟨fun z => absurd z (by decide), fun _ => h⟩
theorem RN.cg {X M X' M' : Mem} {E : Es} (h : RN X M E) (h1 : ∀ a, 1 ≤ a → a < 11 → X' a = X a) (h2 : ∀ j, j < 44 → M' 1 j = M 1 j) (h3 : M' 0 1 = M 0 1) : RN X' M' E :=
  ⟨h.1, h.2.1, h.2.2.1.cell (fun c hc => h1 _ (by omega) (by omega)), fun i hi hok => by rw [h2 _ (by omega)]; exact h.2.2.2.1 i hi hok, by rw [h3]; exact h.2.2.2.2⟩
theorem op_fault_ok : op_fault Rel0 := fun X M ⟨E, hN, hR⟩ => hR.2.2.2.2.1.1
theorem op_torn_ok : op_torn Rel0 := fun X M ⟨E, hN, hR⟩ => hR.2.2.2.2.1.2
theorem by8 : ∀ c, c < 128 → (nI c).toInt8.toInt32 = nI c := by decide +kernel
theorem op_feed_ok : op_feed Rel0 := by
  intro X M x ⟨E, hN, hR⟩
  obtain ⟨n, hn, a1, a2, a3⟩ := hR.2.1
  rcases dR x 0 127 with ⟨c, -, hc, rfl⟩ | hno
  · refine c_io1 (a := 0) (b := 127) (by omega) hc (by omega) (b0 ?_)
    unfold w_X4_append
    rw [a1]
    refine pk_lt n 160 (fun h => ?_) (fun h => ?_)
    · refine ⟨vp_in_nI h (by omega), fun M2 e2 M3 e3 => ?_⟩
      rw [nI_clamp (by omega), pk_vb, by8 c (by omega)] at e2
      rw [e2, mu_c (by omega), a1, nI_1] at e3
      rw [if_neg (by decide)]
      refine m_in1 (a := 0) (b := 127) (by omega) hc (by omega) (b1 ?_)
      rw [a2]
      refine pk_eq n 160 (fun z => by omega) (fun _ => ⟨vp_in_nI h (by omega), fun M4 e4 M5 e5 => ?_⟩)
      rw [nI_clamp (by omega)] at e4
      rw [e4, mu_c (by omega), a2, nI_1] at e5
      refine ⟨?_, E, hN.cg (fun a h1 h2 => ?_) (fun j hj => ?_) ?_, hR.1.cg ?_ (fun a h1 h2 => ?_) ?_ (fun j h1 h2 => ?_), ⟨n + 1, by omega, ?_, ?_, fun j hj => ?_⟩, hR.2.2.1.cg ?_ ?_ ?_ ?_ ?_ ?_, hR.2.2.2.1.cg (fun a ha => ?_) ?_ ?_ ?_, ⟨?_, ?_⟩, ⟨?_, ?_⟩⟩
      · rw [e3, e5, mu_at, if_pos ⟨rfl, rfl⟩, mu_at, if_pos ⟨rfl, rfl⟩]
      · rw [e3, mu_c (by omega), mu_c (by omega)]
      · rw [e5, mu_c (by omega), mu_c (by omega)]
      · rw [e5, mu_at, if_neg (by omega), mu_c (by omega)]
      · rw [e3, mu_c (by omega), mu_c (by omega)]
      · rw [e3, mu_c (by omega), mu_c (by omega)]
      · rw [e5, mu_c (by omega), mu_c (by omega)]
      · rw [e5, mu_c (by omega), mu_c (by omega)]
      · rw [e3, mu_at, if_pos ⟨rfl, rfl⟩]
      · rw [e5, mu_at, if_pos ⟨rfl, rfl⟩]
      · have u3 : M3 23 = mu X 23 n (nI c) 23 := by rw [e3, mu_c (by omega)]
        have u5 : M5 3 = mu M 3 n (nI c) 3 := by rw [e5, mu_c (by omega)]
        rw [u3, u5, mu_at, mu_at]
        by_cases q : j = n
        · exact ⟨c, hc, by rw [if_pos ⟨rfl, q⟩], by rw [if_pos ⟨rfl, q⟩]⟩
        · rw [if_neg (by omega), if_neg (by omega)]
          exact a3 j (by omega)
      · rw [e3, mu_c (by omega), mu_c (by omega)]
      · rw [e3, mu_c (by omega), mu_c (by omega)]
      · rw [e3, mu_c (by omega), mu_c (by omega)]
      · rw [e3, mu_c (by omega), mu_c (by omega)]
      · rw [e5, mu_at, if_neg (by omega), mu_c (by omega)]
      · rw [e5, mu_c (by omega), mu_c (by omega)]
      · rw [e3, mu_c (by omega), mu_c (by omega)]
      · rw [e5, mu_c (by omega), mu_c (by omega)]
      · rw [e5, mu_c (by omega), mu_c (by omega)]
      · rw [e5, mu_c (by omega), mu_c (by omega)]
      · rw [e3, e5, mu_c (by omega), mu_c (by omega), mu_at, if_neg (by omega), mu_c (by omega)]
        exact hR.2.2.2.2.1.1
      · rw [e3, e5, mu_c (by omega), mu_c (by omega), mu_at, if_neg (by omega), mu_c (by omega)]
        exact hR.2.2.2.2.1.2
      · rw [e5, mu_c (by omega), mu_c (by omega)]
        exact hR.2.2.2.2.2.1
      · rw [e5, mu_c (by omega), mu_c (by omega)]
        exact hR.2.2.2.2.2.2
    · show w_X8_feed (nI c) M (fun r1 M1 => (-3 : Int32) = r1 ∧ Rel0 X M1)
      refine m_in1 (a := 0) (b := 127) (by omega) hc (by omega) (b1 ?_)
      rw [a2]
      exact pk_eq n 160 (fun _ => ⟨rfl, E, hN, hR⟩) (fun z => by omega)
  · refine c_io0 (a := 0) (b := 127) hno (by omega) (by omega) (b1 ?_)
    exact m_in0 (a := 0) (b := 127) hno (by omega) (by omega) (b0 ⟨rfl, E, hN, hR⟩)
theorem op_end_ok : op_end Rel0 := by
  intro X M x ⟨E, hN, hR⟩
  obtain ⟨n, hn, a1, a2, a3⟩ := hR.2.1
  unfold w_X7_end
  rw [a1]
  rcases dR x 0 n with ⟨c, -, hc, rfl⟩ | hno
  · refine c_io1 (a := 0) (b := n) (by omega) hc (by omega) (b0 ?_)
    intro M3 e3
    unfold w_X8_end
    rw [a2]
    refine m_in1 (a := 0) (b := n) (by omega) hc (by omega) (b1 ?_)
    intro M5 e5
    have z3 : ∀ a, a ≠ 22 → M3 a = X a := fun a h => by rw [e3, mu_c h]
    have z5 : ∀ a, a ≠ 0 → M5 a = M a := fun a h => by rw [e5, mu_c h]
    have y5 : ∀ k, k ≠ 6 → M5 0 k = M 0 k := fun k h => by rw [e5, mu_at, if_neg (by omega)]
    refine ⟨rfl, E, hN.cg (fun a h1 h2 => z3 a (by omega)) (fun j hj => by rw [z5 1 (by omega)]) (y5 1 (by omega)), hR.1.cg (z3 _ (by omega)) (fun a h1 h2 => z3 a (by omega)) (z5 _ (by omega)) (fun j h1 h2 => by rw [z5 1 (by omega)]), ⟨c, by omega, ?_, ?_, fun j hj => ?_⟩, hR.2.2.1.cg (by rw [z3 25 (by omega)]) (z3 _ (by omega)) (z3 _ (by omega)) (z3 _ (by omega)) (y5 _ (by omega)) (z5 _ (by omega)), hR.2.2.2.1.cg (fun a ha => z3 a (by omega)) (z5 _ (by omega)) (z5 _ (by omega)) (z5 _ (by omega)), ⟨?_, ?_⟩, ⟨?_, ?_⟩⟩
    · rw [e3, mu_at, if_pos ⟨rfl, rfl⟩]
    · rw [e5, mu_at, if_pos ⟨rfl, rfl⟩]
    · rw [z3 23 (by omega), z5 3 (by omega)]
      exact a3 j (by omega)
    · rw [z3 0 (by omega), y5 7 (by omega)]
      exact hR.2.2.2.2.1.1
    · rw [z3 0 (by omega), y5 27 (by omega)]
      exact hR.2.2.2.2.1.2
    · rw [z5 4 (by omega)]
      exact hR.2.2.2.2.2.1
    · rw [z5 5 (by omega)]
      exact hR.2.2.2.2.2.2
  · refine c_io0 (a := 0) (b := n) hno (by omega) (by omega) (b1 ?_)
    unfold w_X8_end
    rw [a2]
    exact m_in0 (a := 0) (b := n) hno (by omega) (by omega) (b0 ⟨rfl, E, hN, hR⟩)
theorem op_forget_ok : op_forget Rel0 := by
  intro X M x ⟨E, hN, hR⟩
  obtain ⟨n, hn, a1, a2, a3⟩ := hR.2.2.1
  unfold w_X7_forget
  rw [a1]
  rcases dR x 0 n with ⟨c, -, hc, rfl⟩ | hno
  · refine c_io1 (a := 0) (b := n) (by omega) hc (by omega) (b0 ?_)
    intro M3 e3
    unfold w_X8_forget
    rw [a2]
    refine m_in1 (a := 0) (b := n) (by omega) hc (by omega) (b1 ?_)
    intro M5 e5
    have z3 : ∀ a, a ≠ 25 → M3 a = X a := fun a h => by rw [e3, mu_c h]
    have z5 : ∀ a, a ≠ 0 → M5 a = M a := fun a h => by rw [e5, mu_c h]
    have y5 : ∀ k, k ≠ 21 → M5 0 k = M 0 k := fun k h => by rw [e5, mu_at, if_neg (by omega)]
    refine ⟨rfl, E, hN.cg (fun a h1 h2 => z3 a (by omega)) (fun j hj => by rw [z5 1 (by omega)]) (y5 1 (by omega)), hR.1.cg (z3 _ (by omega)) (fun a h1 h2 => z3 a (by omega)) (z5 _ (by omega)) (fun j h1 h2 => by rw [z5 1 (by omega)]), hR.2.1.cg (by rw [z3 22 (by omega)]) (z3 _ (by omega)) (y5 _ (by omega)) (z5 _ (by omega)), ⟨c, by omega, ?_, ?_, fun j hj => ?_⟩, hR.2.2.2.1.cg (fun a ha => z3 a (by omega)) (z5 _ (by omega)) (z5 _ (by omega)) (z5 _ (by omega)), ⟨?_, ?_⟩, ⟨?_, ?_⟩⟩
    · rw [e3, mu_at, if_pos ⟨rfl, rfl⟩]
    · rw [e5, mu_at, if_pos ⟨rfl, rfl⟩]
    · rw [z3 26 (by omega), z3 27 (by omega), z3 28 (by omega), z5 6 (by omega)]
      exact a3 j (by omega)
    · rw [z3 0 (by omega), y5 7 (by omega)]
      exact hR.2.2.2.2.1.1
    · rw [z3 0 (by omega), y5 27 (by omega)]
      exact hR.2.2.2.2.1.2
    · rw [z5 4 (by omega)]
      exact hR.2.2.2.2.2.1
    · rw [z5 5 (by omega)]
      exact hR.2.2.2.2.2.2
  · refine c_io0 (a := 0) (b := n) hno (by omega) (by omega) (b1 ?_)
    unfold w_X8_forget
    rw [a2]
    exact m_in0 (a := 0) (b := n) hno (by omega) (by omega) (b0 ⟨rfl, E, hN, hR⟩)
theorem nIm (a b : Nat) : nI a * nI b = nI (a * b) := pk_mul a b
theorem op_see_ok : op_see Rel0 := by
  intro X M x y z ⟨E, hN, hR⟩
  obtain ⟨n, hn, a1, a2, a3⟩ := hR.2.2.1
  unfold w_X7_see w_X8_see
  rcases dR x 0 20 with ⟨a, -, ha, rfl⟩ | hno
  · refine c_io1 (a := 0) (b := 20) (by omega) ha (by omega) (b0 ?_)
    rcases dR y 0 5 with ⟨g, -, hg, rfl⟩ | hno
    · refine c_gt1 hg (b0 ?_)
      rcases dR z 0 60 with ⟨v, -, hv, rfl⟩ | hno
      · refine c_io1 (a := 0) (b := 60) (by omega) hv (by omega) (b0 ?_)
        unfold w_X3_add
        rw [a1]
        refine pk_lt n 6 (fun h => ?_) (fun h => ?_)
        · refine ⟨vp_in_nI h (by omega), fun X2 e2 => ?_⟩
          rw [nI_clamp (by omega)] at e2
          rw [show X2 25 3 = nI n from by rw [e2, mu_c (by omega), a1]]
          refine ⟨vp_in_nI h (by omega), fun X3 e3 => ?_⟩
          rw [nI_clamp (by omega)] at e3
          rw [show X3 25 3 = nI n from by rw [e3, e2, mu_c (by omega), mu_c (by omega), a1]]
          refine ⟨vp_in_nI h (by omega), fun X4 e4 X5 e5 => ?_⟩
          rw [nI_clamp (by omega)] at e4
          rw [show X4 25 3 = nI n from by rw [e4, e3, e2, mu_c (by omega), mu_c (by omega), mu_c (by omega), a1], nI_1] at e5
          have c5 : X5 25 3 = nI (n + 1) := by rw [e5, mu_at, if_pos ⟨rfl, rfl⟩]
          rw [if_neg (by decide), c5]
          refine m_in1 (a := 0) (b := 20) (by omega) ha (by omega) (b1 (m_gt1 hg (b1 (m_in1 (a := 0) (b := 60) (by omega) hv (by omega) (b1 ?_)))))
          rw [a2]
          refine pk_eq n 6 (fun z => by omega) (fun _ => ?_)
          rw [show (3 : Int32) * nI n = nI (3 * n) from nIm 3 n, nI_clamp (by omega)]
          refine ⟨vp_in_nI (by omega) (by omega), fun M8 e8 => ?_⟩
          rw [show M8 0 21 = nI n from by rw [e8, mu_c (by omega), a2], show (3 : Int32) * nI n = nI (3 * n) from nIm 3 n, nI_1, nI_clamp (by omega)]
          refine ⟨vp_in_nI (by omega) (by omega), fun M9 e9 => ?_⟩
          rw [show M9 0 21 = nI n from by rw [e9, e8, mu_c (by omega), mu_c (by omega), a2], show (3 : Int32) * nI n = nI (3 * n) from nIm 3 n, show nI (3 * n) + 2 = nI (3 * n + 2) from nI_add _ 2, nI_clamp (by omega)]
          refine ⟨vp_in_nI (by omega) (by omega), fun M10 e10 M11 e11 => ?_⟩
          rw [show M10 0 21 = nI n from by rw [e10, e9, e8, mu_c (by omega), mu_c (by omega), mu_c (by omega), a2], nI_1] at e11
          have d11 : M11 0 21 = nI (n + 1) := by rw [e11, mu_at, if_pos ⟨rfl, rfl⟩]
          have z3 : ∀ a, a < 25 ∨ 29 ≤ a → X5 a = X a := fun a h => by rw [e5, e4, e3, e2, mu_c (by omega), mu_c (by omega), mu_c (by omega), mu_c (by omega)]
          have z5 : ∀ a, a ≠ 0 → a ≠ 6 → M11 a = M a := fun a h h2 => by rw [e11, e10, e9, e8, mu_c h, mu_c h2, mu_c h2, mu_c h2]
          have y5 : ∀ k, k ≠ 21 → M11 0 k = M 0 k := fun k h => by rw [e11, e10, e9, e8, mu_at, if_neg (by omega), mu_c (by omega), mu_c (by omega), mu_c (by omega)]
          have u26 : X5 26 = mu X 26 n (nI a) 26 := by rw [e5, e4, e3, e2, mu_c (by omega), mu_c (by omega), mu_c (by omega)]
          have u27 : X5 27 = mu X2 27 n (nI g) 27 := by rw [e5, e4, e3, mu_c (by omega), mu_c (by omega)]
          have u28 : X5 28 = mu X3 28 n (nI v) 28 := by rw [e5, e4, mu_c (by omega)]
          have u6 : ∀ j, M11 6 j = if j = 3 * n + 2 then nI v else if j = 3 * n + 1 then nI g else if j = 3 * n then nI a else M 6 j := fun j => by
            rw [e11, mu_c (by omega), e10, mu_at, e9, mu_at, e8, mu_at]
            simp only [true_and]
          have w2 : X2 27 = X 27 := by rw [e2, mu_c (by omega)]
          have w3 : X3 28 = X 28 := by rw [e3, e2, mu_c (by omega), mu_c (by omega)]
          refine ⟨d11.symm, E, hN.cg (fun a h1 h2 => z3 a (by omega)) (fun j hj => by rw [z5 1 (by omega) (by omega)]) (y5 1 (by omega)), hR.1.cg (z3 _ (by omega)) (fun a h1 h2 => z3 a (by omega)) (z5 _ (by omega) (by omega)) (fun j h1 h2 => by rw [z5 1 (by omega) (by omega)]), hR.2.1.cg (by rw [z3 22 (by omega)]) (z3 _ (by omega)) (y5 _ (by omega)) (z5 _ (by omega) (by omega)), ⟨n + 1, by omega, c5, d11, fun j hj => ?_⟩, hR.2.2.2.1.cg (fun a ha => z3 a (by omega)) (z5 _ (by omega) (by omega)) (z5 _ (by omega) (by omega)) (z5 _ (by omega) (by omega)), ⟨?_, ?_⟩, ⟨?_, ?_⟩⟩
          · rw [u26, u27, u28, mu_at, mu_at, mu_at, u6, u6, u6]
            by_cases q : j = n
            · subst q
              refine ⟨a, g, v, ha, by omega, hv, ⟨if_pos ⟨rfl, rfl⟩, ?_⟩, ⟨if_pos ⟨rfl, rfl⟩, ?_⟩, ⟨if_pos ⟨rfl, rfl⟩, if_pos rfl⟩⟩
              · rw [if_neg (by omega), if_neg (by omega), if_pos rfl]
              · rw [if_neg (by omega), if_pos rfl]
            · rw [if_neg (by omega), if_neg (by omega), if_neg (by omega), if_neg (by omega), if_neg (by omega), if_neg (by omega), if_neg (by omega), if_neg (by omega), if_neg (by omega), if_neg (by omega), if_neg (by omega), if_neg (by omega), w2, w3]
              exact a3 j (by omega)
          · rw [z3 0 (by omega), y5 7 (by omega)]
            exact hR.2.2.2.2.1.1
          · rw [z3 0 (by omega), y5 27 (by omega)]
            exact hR.2.2.2.2.1.2
          · rw [z5 4 (by omega) (by omega)]
            exact hR.2.2.2.2.2.1
          · rw [z5 5 (by omega) (by omega)]
            exact hR.2.2.2.2.2.2
        · refine m_in1 (a := 0) (b := 20) (by omega) ha (by omega) (b1 (m_gt1 hg (b1 (m_in1 (a := 0) (b := 60) (by omega) hv (by omega) (b1 ?_)))))
          rw [a2]
          exact pk_eq n 6 (fun _ => ⟨rfl, E, hN, hR⟩) (fun z => by omega)
      · refine c_io0 (a := 0) (b := 60) hno (by omega) (by omega) (b1 ?_)
        exact m_in1 (a := 0) (b := 20) (by omega) ha (by omega) (b1 (m_gt1 hg (b1 (m_in0 (a := 0) (b := 60) hno (by omega) (by omega) (b0 ⟨rfl, E, hN, hR⟩)))))
    · refine c_gt0 hno (b1 ?_)
      exact m_in1 (a := 0) (b := 20) (by omega) ha (by omega) (b1 (m_gt0 hno (b0 ⟨rfl, E, hN, hR⟩)))
  · refine c_io0 (a := 0) (b := 20) hno (by omega) (by omega) (b1 ?_)
    exact m_in0 (a := 0) (b := 20) hno (by omega) (by omega) (b0 ⟨rfl, E, hN, hR⟩)
