/-! what is changed -/
theorem fX.mu {X : Mem} {b k : Nat} {v : Int32} (h1 : 1 ≤ b) (h2 : b ≤ 21) : fX X (mu X b k v) := fun a ha => mu_c (by omega)
theorem fM.mu {M : Mem} {j : Nat} {v : Int32} (h : j < 44) : fM M (mu M 1 j v) := ⟨fun a h0 h1 h7 => mu_c h1, fun i h1 h2 => by rw [mu_at, if_neg (by omega)], fun k _ _ _ _ => by rw [mu_c (by omega)]⟩
theorem Rel_up {X M : Mem} {E : Es} {i v a k : Nat} (h : RN X M E) (r : RR X M (E 44)) (hc : cx i = (a, k)) (ha : a ≤ 9) (hi : i < 44) (h41 : i ≠ 41) (hv : (i < 6 → v ≤ 60) ∧ (6 ≤ i → i < 12 → v ≤ 9) ∧ (12 ≤ i → i < 17 → v < 4) ∧ (17 ≤ i → i < 22 → v < 6) ∧ (22 ≤ i → i < 27 → v ≤ 999) ∧ (27 ≤ i → i < 32 → v ≤ 20) ∧ (32 ≤ i → i < 35 → v < 6) ∧ (35 ≤ i → i < 38 → v ≤ 5) ∧ (38 ≤ i → i < 41 → 1 ≤ v ∧ v ≤ 9) ∧ (i = 42 → v ≤ 5000) ∧ (i = 43 → v ≤ 999)) (h42 : i ≠ 42) : Rel0 (mu X (1 + a) k (nI v)) (mu M 1 i (nI v - off i)) := by
  obtain ⟨w, h9, hX, hM, hT⟩ := h
  have p := hM.set (n := v) hi h41
  rw [Nat.zero_add] at p
  refine Rel0.n (E' := up E i v) r ⟨up_WF w h41 (by omega) hv, ?_, hX.set' hc (by omega) h41 (by omega), p, ?_⟩ ?_ (fX.mu (by omega) (by omega)) (fM.mu hi)
  · show up E i v 42 ≤ 999

    rw [up_n (Ne.symm h42)]
    exact h9
  · show mu M 1 i (nI v - off i) 0 1 = nI (up E i v 44)

    rw [mu_c (by omega), up_n (by omega)]
    exact hT
  · show up E i v 44 = E 44
    exact up_n (by omega)
theorem c_rep {X : Mem} {r nr i v lo hi : Nat} {Q : Int32 → Mem → Prop} (h1 : lo ≤ v) (h2 : v ≤ hi) (hh : hi < 2 ^ 31) (h3 : i < nr) (h4 : nr < 2 ^ 30) (q : Q (X r i) (mu X r i (nI v))) : w_X7_replace r nr (nI i) (nI v) (nI lo) (nI hi) X Q := by
  refine c_io1 h1 h2 hh (b0 (c_T1 h3 h4 (b0 ⟨vp_in_nI h3 (by omega), vp_in_nI h3 (by omega), fun M5 e5 => ?_⟩)))
  rw [nI_clamp (by omega)] at e5 ⊢
  rw [e5]
  exact q
theorem c_rep0 {X : Mem} {r nr lo hi : Nat} {x z : Int32} {Q : Int32 → Mem → Prop} (h : ∀ n, lo ≤ n → n ≤ hi → z ≠ nI n) (hl : lo < 2 ^ 31) (hh : hi < 2 ^ 31) (q : Q (-1) X) : w_X7_replace r nr x z (nI lo) (nI hi) X Q := c_io0 h hl hh (b1 q)
theorem m_puts0 {M : Mem} {y z u : Int32} {Q : Int32 → Mem → Prop} (q : Q (-1) M) : w_X8_puts 0 y z u M Q := b0 q
theorem m_puts1 {M : Mem} {i : Nat} {z u : Int32} {Q : Int32 → Mem → Prop} (hi : i < 264) (q : Q (M 1 i + u) (mu M 1 i (z - u))) : w_X8_puts 1 (nI i) z u M Q := by
  refine b1 ⟨vp_in_nI hi (by omega), vp_in_nI hi (by omega), fun M2 e2 => ?_⟩
  rw [nI_clamp (by omega)] at e2 ⊢
  rw [e2]
  exact q
def alH (k : Nat) : Nat := if k = 0 then 3 else if k = 1 then 5 else 999
theorem m_al0 {M : Mem} {E : Es} {x y z : Int32} {Q : Int32 → Mem → Prop} (w : WF E) (hT : M 0 1 = nI (E 44)) (q : Q (-1) M) : w_X8_alters_50 x y z 0 M Q := by
  unfold w_X8_alters_50
  rcases dT x (E 44) with ⟨t, ht, rfl⟩ | hno
  · exact m_tk1 hT w ht (m_puts0 q)
  · exact m_tk0 hT w hno (m_puts0 q)
theorem m_alt {M : Mem} {E : Es} {x y z t0 : Int32} {Q : Int32 → Mem → Prop} (w : WF E) (hT : M 0 1 = nI (E 44)) (hno : ∀ t, t < E 44 → x ≠ nI t) (q : Q (-1) M) : w_X8_alters_50 x y z t0 M Q := by
  unfold w_X8_alters_50
  exact m_tk0 hT w hno (m_puts0 q)
theorem m_al1 {M : Mem} {E : Es} {t k v : Nat} {Q : Int32 → Mem → Prop} (w : WF E) (hT : M 0 1 = nI (E 44)) (hM : PM M 0 E) (ht : t < E 44) (hk : k ≤ 2) (q : Q (nI (E (12 + 5 * k + t))) (mu M 1 (12 + 5 * k + t) (nI v))) : w_X8_alters_50 (nI t) (nI k) (nI v) 1 M Q := by
  have h5 := w.2.2.2.2.1
  unfold w_X8_alters_50
  refine m_tk1 hT w ht ?_
  show w_X8_puts 1 _ _ _ _ _
  rw [show (5 : Int32) * nI k = nI (5 * k) from nIm 5 k, show (12 : Int32) + nI (5 * k) = nI (12 + 5 * k) from nI_add 12 _, nI_add]
  refine m_puts1 (by omega) ?_
  rw [Int32.add_zero, Int32.sub_zero, hM.z (by omega) (by omega) (Or.inr (Or.inl ⟨by omega, by omega, by omega⟩))]
  exact q
theorem m_alters1 {M : Mem} {E : Es} {t k v : Nat} {Q : Int32 → Mem → Prop} (w : WF E) (hT : M 0 1 = nI (E 44)) (hM : PM M 0 E) (ht : t < E 44) (hk : k ≤ 2) (hv : v ≤ alH k) (q : Q (nI (E (12 + 5 * k + t))) (mu M 1 (12 + 5 * k + t) (nI v))) : w_X8_alters (nI t) (nI k) (nI v) M Q := by
  have ml := m_al1 (v := v) w hT hM ht hk q
  unfold w_X8_alters
  refine pk_eq k 0 (fun z => ?_) (fun z0 => pk_eq k 1 (fun z => ?_) (fun z1 => pk_eq k 2 (fun z => ?_) (fun z2 => by omega)))
  · subst z
    exact m_in1 (a := 0) (b := 3) (by omega) hv (by omega) ml
  · subst z
    exact m_gt1 hv ml
  · subst z
    exact m_in1 (a := 0) (b := 999) (by omega) hv (by omega) (b1 ml)
theorem m_alters0 {M : Mem} {E : Es} {x y z : Int32} {Q : Int32 → Mem → Prop} (w : WF E) (hT : M 0 1 = nI (E 44)) (hb : (∀ t, t < E 44 → x ≠ nI t) ∨ (∀ k, 0 ≤ k → k ≤ 2 → y ≠ nI k) ∨ (∃ k, k ≤ 2 ∧ y = nI k ∧ ∀ v, 0 ≤ v → v ≤ alH k → z ≠ nI v)) (q : Q (-1) M) : w_X8_alters x y z M Q := by
  have a0 := m_al0 (x := x) (y := y) (z := z) w hT q
  unfold w_X8_alters
  rcases dW y 2 (by omega) with ⟨k, hk, rfl⟩ | hno
  · rcases hb with hb | hb | ⟨k', hk', e, hb⟩
    · refine pk_eq k 0 (fun z => ?_) (fun z0 => pk_eq k 1 (fun z => ?_) (fun z1 => pk_eq k 2 (fun z => ?_) (fun z2 => by omega)))
      · exact m_in ⟨fun _ => m_alt w hT hb q, fun _ => m_alt w hT hb q⟩ (a := 0) (b := 3)
      · exact m_in ⟨fun _ => ⟨nb1, m_alt w hT hb q⟩, fun _ => ⟨nb0, m_alt w hT hb q⟩⟩ (a := 0) (b := 5)
      · exact m_in ⟨fun _ => b1 (m_alt w hT hb q), fun _ => b0 a0⟩ (a := 0) (b := 999)
    · exact absurd rfl (hb k (by omega) hk)
    · have ek : k' = k := ((nI_eq (by omega) (by omega)).mp e).symm
      subst ek
      refine pk_eq k' 0 (fun z => ?_) (fun z0 => pk_eq k' 1 (fun z => ?_) (fun z1 => pk_eq k' 2 (fun z => ?_) (fun z2 => by omega)))
      · subst z
        exact m_in0 (a := 0) (b := 3) hb (by omega) (by omega) a0
      · subst z
        exact m_gt0 hb a0
      · subst z
        exact m_in0 (a := 0) (b := 999) hb (by omega) (by omega) (b0 a0)
  · exact ⟨fun e => absurd e (hno 0 (by omega) (by omega)), fun _ => ⟨fun e => absurd e (hno 1 (by omega) (by omega)), fun _ => ⟨fun e => absurd e (hno 2 (by omega) (by omega)), fun _ => a0⟩⟩⟩
theorem op_alter_ok : op_alter Rel0 := by
  intro X M x y z ⟨E, hN, hR⟩
  have hN' := hN
  obtain ⟨w, h9, hX, hM, hT⟩ := hN
  have h5 := w.2.2.2.2.1
  unfold w_X7_alter w_X8_alter
  rcases dT x (E 44) with ⟨t, ht, rfl⟩ | hno
  · refine c_tk1 hX w ht (b0 ?_)
    obtain ⟨x1, x2, x3, x4⟩ := hX.t1 w ht
    obtain ⟨c1, c2, c3, c4⟩ := cxt t (by omega)
    rcases dW y 2 (by omega) with ⟨k, hk, rfl⟩ | hno
    · rcases dR z 0 (alH k) with ⟨v, -, hv, rfl⟩ | hno
      · refine pk_eq k 0 (fun e => ?_) (fun z0 => pk_eq k 1 (fun e => ?_) (fun z1 => pk_eq k 2 (fun e => ?_) (fun z2 => by omega)))
        · subst e
          have hv' : v ≤ 3 := hv
          refine c_rep (lo := 0) (hi := 3) (by omega) hv (by omega) (by omega) (by omega) ?_
          refine m_alters1 w hT hM ht hk hv ⟨x1, ?_⟩
          have := Rel_up (v := v) hN' hR c1 (by omega) (by omega) (by omega) (by omega) (by omega)
          rwa [off0 (by omega), sub0] at this
        · subst e
          have hv' : v ≤ 5 := hv
          refine c_rep (lo := 0) (hi := 5) (by omega) hv (by omega) (by omega) (by omega) ?_
          refine m_alters1 w hT hM ht hk hv ⟨x2, ?_⟩
          have := Rel_up (v := v) hN' hR c2 (by omega) (by omega) (by omega) (by omega) (by omega)
          rwa [off0 (by omega), sub0] at this
        · subst e
          have hv' : v ≤ 999 := hv
          refine c_rep (lo := 0) (hi := 999) (by omega) hv (by omega) (by omega) (by omega) ?_
          refine m_alters1 w hT hM ht hk hv ⟨x3, ?_⟩
          have := Rel_up (v := v) hN' hR c3 (by omega) (by omega) (by omega) (by omega) (by omega)
          rwa [off0 (by omega), sub0] at this
      · have ml : w_X8_alters (nI t) (nI k) z M (fun r1 M2 => (-1 : Int32) = r1 ∧ Rel0 X M2) := m_alters0 w hT (Or.inr (Or.inr ⟨k, hk, rfl, hno⟩)) ⟨rfl, E, hN', hR⟩
        refine pk_eq k 0 (fun e => ?_) (fun z0 => pk_eq k 1 (fun e => ?_) (fun z1 => pk_eq k 2 (fun e => ?_) (fun z2 => by omega)))
        · subst e
          exact c_rep0 (lo := 0) (hi := 3) hno (by omega) (by omega) ml
        · subst e
          exact c_rep0 (lo := 0) (hi := 5) hno (by omega) (by omega) ml
        · subst e
          exact c_rep0 (lo := 0) (hi := 999) hno (by omega) (by omega) ml
    · refine ⟨fun e => absurd e (hno 0 (by omega) (by omega)), fun _ => ⟨fun e => absurd e (hno 1 (by omega) (by omega)), fun _ => ⟨fun e => absurd e (hno 2 (by omega) (by omega)), fun _ => ?_⟩⟩⟩
      exact m_alters0 w hT (Or.inr (Or.inl hno)) ⟨rfl, E, hN', hR⟩
  · exact c_tk0 hX w hno (b1 (m_alters0 w hT (Or.inl hno) ⟨rfl, E, hN', hR⟩))
