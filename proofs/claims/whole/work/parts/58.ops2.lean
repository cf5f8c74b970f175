/-! what is asked of what there is, and what is changed -/
theorem EX.l1 {X : Mem} {E : Es} (h : EX X 1 E) {g : Nat} (hg : g < 6) : X 2 g = nI (E g) := h.lg hg
theorem EX.g1 {X : Mem} {E : Es} (h : EX X 1 E) {g : Nat} (hg : g < 6) : X 3 g = nI (E (6 + g)) := h.gr hg
theorem EX.t1 {X : Mem} {E : Es} (h : EX X 1 E) (w : WF E) {t : Nat} (ht : t < E 44) : X 4 t = nI (E (12 + t)) ∧ X 5 t = nI (E (17 + t)) ∧ X 6 t = nI (E (22 + t)) ∧ X 7 t = nI (E (27 + t)) := h.tr w ht
theorem EX.k1 {X : Mem} {E : Es} (h : EX X 1 E) (w : WF E) {t : Nat} (ht : t < E 41) : X 8 t = nI (E (32 + t)) ∧ X 9 t = nI (E (35 + t)) ∧ X 10 t = nI (E (38 + t)) := h.kr w ht
theorem PM.t0 {M : Mem} {E : Es} (h : PM M 0 E) (w : WF E) {t : Nat} (ht : t < E 44) : M 1 (12 + t) = nI (E (12 + t)) ∧ M 1 (17 + t) = nI (E (17 + t)) ∧ M 1 (22 + t) = nI (E (22 + t)) ∧ M 1 (27 + t) = nI (E (27 + t)) := by
  have h5 := w.2.2.2.2.1
  exact ⟨h.z (by omega) (by omega) (okt (Or.inl rfl) ht h5), h.z (by omega) (by omega) (okt (Or.inr (Or.inl rfl)) ht h5), h.z (by omega) (by omega) (okt (Or.inr (Or.inr (Or.inl rfl))) ht h5), h.z (by omega) (by omega) (okt (Or.inr (Or.inr (Or.inr rfl))) ht h5)⟩
theorem PM.q0 {M : Mem} {E : Es} (h : PM M 0 E) (w : WF E) {t : Nat} (ht : t < E 41) : M 1 (32 + t) = nI (E (32 + t)) ∧ M 1 (35 + t) = nI (E (35 + t)) ∧ M 1 (38 + t) = nI (E (38 + t)) := by
  have h5 := w.2.2.2.1
  exact ⟨h.z (by omega) (by omega) (okk (Or.inl rfl) ht h5), h.z (by omega) (by omega) (okk (Or.inr (Or.inl rfl)) ht h5), h.z (by omega) (by omega) (okk (Or.inr (Or.inr rfl)) ht h5)⟩
theorem PM.lg0 {M : Mem} {E : Es} (h : PM M 0 E) {g : Nat} (hg : g < 6) : M 1 g = nI (E g) - nI 30 := by
  have := h.lg hg
  rwa [Nat.zero_add] at this
theorem PM.gr0 {M : Mem} {E : Es} (h : PM M 0 E) {g : Nat} (hg : g < 6) : M 1 (6 + g) = nI (E (6 + g)) - nI 2 := by
  have := h.gr hg
  rwa [Nat.zero_add] at this
/-- which of a few -/
theorem dW (x : Int32) (n : Nat) (hn : n < 2 ^ 31) : (∃ k, k ≤ n ∧ x = nI k) ∨ (∀ k, 0 ≤ k → k ≤ n → x ≠ nI k) := by
  rcases dR x 0 n with ⟨k, -, h, e⟩ | h
  · exact Or.inl ⟨k, h, e⟩
  · exact Or.inr h
theorem op_taker_ok : op_taker Rel0 := by
  intro X M x y ⟨E, hN, hR⟩
  obtain ⟨w, h9, hX, hM, hT⟩ := hN
  have h5 := w.2.2.2.2.1
  unfold w_X7_taker w_X8_taker
  rcases dT x (E 44) with ⟨t, ht, rfl⟩ | hno
  · refine c_tk1 hX w ht (b0 ?_)
    obtain ⟨x1, x2, x3, x4⟩ := hX.t1 w ht
    obtain ⟨m1, m2, m3, m4⟩ := hM.t0 w ht
    have ev : vp_in (nI t) 5 := vp_in_nI (by omega) (by omega)
    have key : ∀ k, k ≤ 5 → (4 ≤ k → (k = 4 → nI (takesN (E (12 + t))) = nI (takesN (E (12 + t))))) := fun _ _ _ _ => rfl
    rw [nI_clamp (by omega), x1, x2, x3, x4]
    rcases dW y 5 (by omega) with ⟨k, hk, rfl⟩ | hno
    · have ml : ∀ r : Int32, (∀ k', k' < 4 → k = k' → r = nI (E (12 + 5 * k' + t))) → (k = 4 → r = nI (takesN (E (12 + t)))) → (k = 5 → r = nI (noiseN (E (12 + t)))) → w_X8_isTaker (nI t) M (fun r1 => (r1 = 0 → r = -1) ∧ (¬ r1 = 0 → w_X8_in ((nI k).toInt64) 0 5 M (fun r3 => (r3 = 0 → r = -1) ∧ (¬ r3 = 0 → (4 ≤ nI k → (nI k = 4 → w_X8_takesOn 0 (nI t) M (fun r8 => r = r8)) ∧ (¬ nI k = 4 → w_X8_noiseOn 0 (nI t) M (fun r7 => r = r7))) ∧ (¬ 4 ≤ nI k → vp_in ((12 + (5 * nI k)) + nI t) 264 ∧ r = (M 1 ((12 + (5 * nI k)) + nI t).toNatClampNeg)))))) := by
        intro r r0 r4 r5
        refine m_tk1 hT w ht (b1 (m_in1 (a := 0) (b := 5) (by omega) hk (by omega) (b1 ?_)))
        refine pk_le 4 k (fun z => ?_) (fun z => ?_)
        · refine pk_eq k 4 (fun z4 => ?_) (fun z4 => ?_)
          · exact m_takes (p := 0) hM w (by omega) ht (r4 z4)
          · exact m_noise (p := 0) hM w (by omega) ht (r5 (by omega))
        · rw [show (5 : Int32) * nI k = nI (5 * k) from nIm 5 k, show (12 : Int32) + nI (5 * k) = nI (12 + 5 * k) from nI_add 12 _, nI_add, nI_clamp (by omega)]
          refine ⟨vp_in_nI (by omega) (by omega), ?_⟩
          rw [r0 k z rfl]
          have := hM.z (i := 12 + 5 * k + t) (by omega) (by omega) (Or.inr (Or.inl ⟨by omega, by omega, by omega⟩))
          exact this.symm
      refine pk_eq k 0 (fun z => ⟨ev, ml _ (fun k' h1 h2 => by congr 2; omega) (fun _ => by omega) (fun _ => by omega)⟩) (fun z0 => ?_)
      refine pk_eq k 1 (fun z => ⟨ev, ml _ (fun k' h1 h2 => by congr 2; omega) (fun _ => by omega) (fun _ => by omega)⟩) (fun z1 => ?_)
      refine pk_eq k 2 (fun z => ⟨ev, ml _ (fun k' h1 h2 => by congr 2; omega) (fun _ => by omega) (fun _ => by omega)⟩) (fun z2 => ?_)
      refine pk_eq k 3 (fun z => ⟨ev, ml _ (fun k' h1 h2 => by congr 2; omega) (fun _ => by omega) (fun _ => by omega)⟩) (fun z3 => ?_)
      refine pk_eq k 4 (fun z => w_takes hX w ht (ml _ (fun k' h1 h2 => by omega) (fun _ => rfl) (fun _ => by omega))) (fun z4 => ?_)
      exact pk_eq k 5 (fun z => w_noise hX w ht (ml _ (fun k' h1 h2 => by omega) (fun _ => by omega) (fun _ => rfl))) (fun z5 => by omega)
    · refine ⟨fun e => absurd e (hno 0 (by omega) (by omega)), fun _ => ⟨fun e => absurd e (hno 1 (by omega) (by omega)), fun _ => ⟨fun e => absurd e (hno 2 (by omega) (by omega)), fun _ => ⟨fun e => absurd e (hno 3 (by omega) (by omega)), fun _ => ⟨fun e => absurd e (hno 4 (by omega) (by omega)), fun _ => ⟨fun e => absurd e (hno 5 (by omega) (by omega)), fun _ => ?_⟩⟩⟩⟩⟩⟩
      exact m_tk1 hT w ht (b1 (m_in0 (a := 0) (b := 5) hno (by omega) (by omega) (b0 rfl)))
  · exact c_tk0 hX w hno (b1 (m_tk0 hT w hno (b0 rfl)))
theorem op_keeper_ok : op_keeper Rel0 := by
  intro X M x y ⟨E, hN, hR⟩
  obtain ⟨w, h9, hX, hM, hT⟩ := hN
  have h3 := w.2.2.2.1
  unfold w_X7_keeper w_X8_keeper
  rcases dT x (E 41) with ⟨t, ht, rfl⟩ | hno
  · refine c_kp1 hX w ht (b0 ?_)
    obtain ⟨x1, x2, x3⟩ := hX.k1 w ht
    have ev : vp_in (nI t) 3 := vp_in_nI (by omega) (by omega)
    rw [nI_clamp (by omega), x1, x2, x3]
    rcases dW y 3 (by omega) with ⟨k, hk, rfl⟩ | hno
    · have ml : ∀ r : Int32, (∀ k', k' < 3 → k = k' → r = nI (E (32 + 3 * k' + t))) → (k = 3 → r = nI (atN E t)) → w_X8_isKeeper (nI t) M (fun r1 => (r1 = 0 → r = -1) ∧ (¬ r1 = 0 → w_X8_in ((nI k).toInt64) 0 3 M (fun r3 => (r3 = 0 → r = -1) ∧ (¬ r3 = 0 → (3 ≤ nI k → w_X8_atOn 0 (nI t) M (fun r6 => r = r6)) ∧ (¬ 3 ≤ nI k → vp_in ((32 + (3 * nI k)) + nI t) 264 ∧ r = (M 1 ((32 + (3 * nI k)) + nI t).toNatClampNeg)))))) := by
        intro r r0 r4
        refine m_kp1 hM w ht (b1 (m_in1 (a := 0) (b := 3) (by omega) hk (by omega) (b1 ?_)))
        refine pk_le 3 k (fun z => ?_) (fun z => ?_)
        · exact m_at (p := 0) hM w (by omega) ht (r4 (by omega))
        · rw [show (3 : Int32) * nI k = nI (3 * k) from nIm 3 k, show (32 : Int32) + nI (3 * k) = nI (32 + 3 * k) from nI_add 32 _, nI_add, nI_clamp (by omega)]
          refine ⟨vp_in_nI (by omega) (by omega), ?_⟩
          rw [r0 k z rfl]
          have := hM.z (i := 32 + 3 * k + t) (by omega) (by omega) (Or.inr (Or.inr (Or.inl ⟨by omega, by omega, by omega⟩)))
          exact this.symm
      refine pk_eq k 0 (fun z => ⟨ev, ml _ (fun k' h1 h2 => by congr 2; omega) (fun _ => by omega)⟩) (fun z0 => ?_)
      refine pk_eq k 1 (fun z => ⟨ev, ml _ (fun k' h1 h2 => by congr 2; omega) (fun _ => by omega)⟩) (fun z1 => ?_)
      refine pk_eq k 2 (fun z => ⟨ev, ml _ (fun k' h1 h2 => by congr 2; omega) (fun _ => by omega)⟩) (fun z2 => ?_)
      exact pk_eq k 3 (fun z => w_place hX w ht (ml _ (fun k' h1 h2 => by omega) (fun _ => rfl))) (fun z3 => by omega)
    · refine ⟨fun e => absurd e (hno 0 (by omega) (by omega)), fun _ => ⟨fun e => absurd e (hno 1 (by omega) (by omega)), fun _ => ⟨fun e => absurd e (hno 2 (by omega) (by omega)), fun _ => ⟨fun e => absurd e (hno 3 (by omega) (by omega)), fun _ => ?_⟩⟩⟩⟩
      exact m_kp1 hM w ht (b1 (m_in0 (a := 0) (b := 3) hno (by omega) (by omega) (b0 rfl)))
  · exact c_kp0 hX w hno (b1 (m_kp0 hM w hno (b0 rfl)))
