def orL (k : Nat) : Nat := if k = 2 then 1 else 0
def orH (k : Nat) : Nat := if k = 2 then 9 else 5
theorem m_or0 {M : Mem} {E : Es} {x y z : Int32} {Q : Int32 → Mem → Prop} (w : WF E) (hM : PM M 0 E) (q : Q (-1) M) : w_X8_order_39 x y z 0 M Q := by
  unfold w_X8_order_39
  rcases dT x (E 41) with ⟨t, ht, rfl⟩ | hno
  · exact m_kp1 hM w ht (m_puts0 q)
  · exact m_kp0 hM w hno (m_puts0 q)
theorem m_orn {M : Mem} {E : Es} {x y z t0 : Int32} {Q : Int32 → Mem → Prop} (w : WF E) (hM : PM M 0 E) (hno : ∀ t, t < E 41 → x ≠ nI t) (q : Q (-1) M) : w_X8_order_39 x y z t0 M Q := by
  unfold w_X8_order_39
  exact m_kp0 hM w hno (m_puts0 q)
theorem m_or1 {M : Mem} {E : Es} {t k v : Nat} {Q : Int32 → Mem → Prop} (w : WF E) (hM : PM M 0 E) (ht : t < E 41) (hk : k ≤ 2) (q : Q (nI (E (32 + 3 * k + t))) (mu M 1 (32 + 3 * k + t) (nI v))) : w_X8_order_39 (nI t) (nI k) (nI v) 1 M Q := by
  have h5 := w.2.2.2.1
  unfold w_X8_order_39
  refine m_kp1 hM w ht ?_
  show w_X8_puts 1 _ _ _ _ _
  rw [show (3 : Int32) * nI k = nI (3 * k) from nIm 3 k, show (32 : Int32) + nI (3 * k) = nI (32 + 3 * k) from nI_add 32 _, nI_add]
  refine m_puts1 (by omega) ?_
  rw [Int32.add_zero, Int32.sub_zero, hM.z (by omega) (by omega) (Or.inr (Or.inr (Or.inl ⟨by omega, by omega, by omega⟩)))]
  exact q
theorem m_order1 {M : Mem} {E : Es} {t k v : Nat} {Q : Int32 → Mem → Prop} (w : WF E) (hM : PM M 0 E) (ht : t < E 41) (hk : k ≤ 2) (h1 : orL k ≤ v) (hv : v ≤ orH k) (q : Q (nI (E (32 + 3 * k + t))) (mu M 1 (32 + 3 * k + t) (nI v))) : w_X8_order (nI t) (nI k) (nI v) M Q := by
  have ml := m_or1 (v := v) w hM ht hk q
  unfold w_X8_order
  refine pk_eq k 2 (fun z => ?_) (fun z => ?_)
  · subst z
    exact m_in1 (a := 1) (b := 9) h1 hv (by omega) ml
  · have e : orH k = 5 := if_neg z
    exact m_in1 (a := 0) (b := 1) (by omega) (by omega) (by omega) (b1 (m_gt1 (by omega) (b1 ml)))
theorem m_order0 {M : Mem} {E : Es} {x y z : Int32} {Q : Int32 → Mem → Prop} (w : WF E) (hM : PM M 0 E) (hb : (∀ t, t < E 41 → x ≠ nI t) ∨ (∀ k, 0 ≤ k → k ≤ 2 → y ≠ nI k) ∨ (∃ k, k ≤ 2 ∧ y = nI k ∧ ∀ v, orL k ≤ v → v ≤ orH k → z ≠ nI v)) (q : Q (-1) M) : w_X8_order x y z M Q := by
  have a0 := m_or0 (x := x) (y := y) (z := z) w hM q
  unfold w_X8_order
  rcases dW y 2 (by omega) with ⟨k, hk, rfl⟩ | hno
  · rcases hb with hb | hb | ⟨k', hk', e, hb⟩
    · have an := fun t0 => m_orn (y := nI k) (z := z) (t0 := t0) w hM hb q
      refine pk_eq k 2 (fun z => ?_) (fun z => ?_)
      · exact m_in ⟨fun _ => an _, fun _ => an _⟩ (a := 1) (b := 9)
      · exact m_in ⟨fun _ => b1 (m_in ⟨fun _ => ⟨nb1, b1 (an _)⟩, fun _ => ⟨nb0, b0 (an _)⟩⟩ (a := 0) (b := 5)), fun _ => b0 (an _)⟩ (a := 0) (b := 1)
    · exact absurd rfl (hb k (by omega) hk)
    · have ek : k' = k := ((nI_eq (by omega) (by omega)).mp e).symm
      subst ek
      refine pk_eq k' 2 (fun z => ?_) (fun z => ?_)
      · subst z
        exact m_in0 (a := 1) (b := 9) hb (by omega) (by omega) a0
      · have e1 : orH k' = 5 := if_neg z
        have e2 : orL k' = 0 := if_neg z
        rw [e1, e2] at hb
        exact m_in1 (a := 0) (b := 1) (by omega) (by omega) (by omega) (b1 (m_gt0 hb (b0 a0)))
  · exact ⟨fun e => absurd e (hno 2 (by omega) (by omega)), fun _ => m_in0 (a := 0) (b := 1) (fun n h1 h2 => hno n h1 (by omega)) (by omega) (by omega) (b0 a0)⟩
theorem op_order_ok : op_order Rel0 := by
  intro X M x y z ⟨E, hN, hR⟩
  have hN' := hN
  obtain ⟨w, h9, hX, hM, hT⟩ := hN
  have h5 := w.2.2.2.1
  unfold w_X7_order
  rcases dT x (E 41) with ⟨t, ht, rfl⟩ | hno
  · refine c_kp1 hX w ht (b0 ?_)
    obtain ⟨x1, x2, x3⟩ := hX.k1 w ht
    obtain ⟨c1, c2, c3⟩ := cxk t (by omega)
    rcases dW y 2 (by omega) with ⟨k, hk, rfl⟩ | hno
    · rcases dR z (orL k) (orH k) with ⟨v, hl, hv, rfl⟩ | hno
      · refine pk_eq k 0 (fun e => ?_) (fun z0 => pk_eq k 1 (fun e => ?_) (fun z1 => pk_eq k 2 (fun e => ?_) (fun z2 => by omega)))
        · subst e
          have hv' : v ≤ 5 := hv
          refine c_rep (lo := 0) (hi := 5) (by omega) hv (by omega) (by omega) (by omega) ?_
          refine m_order1 w hM ht hk hl hv ⟨x1, ?_⟩
          have := Rel_up (v := v) hN' hR c1 (by omega) (by omega) (by omega) (by omega) (by omega)
          rwa [off0 (by omega), sub0] at this
        · subst e
          have hv' : v ≤ 5 := hv
          refine c_rep (lo := 0) (hi := 5) (by omega) hv (by omega) (by omega) (by omega) ?_
          refine m_order1 w hM ht hk hl hv ⟨x2, ?_⟩
          have := Rel_up (v := v) hN' hR c2 (by omega) (by omega) (by omega) (by omega) (by omega)
          rwa [off0 (by omega), sub0] at this
        · subst e
          have hv' : v ≤ 9 := hv
          have hl' : 1 ≤ v := hl
          refine c_rep (lo := 1) (hi := 9) (by omega) hv (by omega) (by omega) (by omega) ?_
          refine m_order1 w hM ht hk hl hv ⟨x3, ?_⟩
          have := Rel_up (v := v) hN' hR c3 (by omega) (by omega) (by omega) (by omega) (by omega)
          rwa [off0 (by omega), sub0] at this
      · have ml : w_X8_order (nI t) (nI k) z M (fun r1 M2 => (-1 : Int32) = r1 ∧ Rel0 X M2) := m_order0 w hM (Or.inr (Or.inr ⟨k, hk, rfl, hno⟩)) ⟨rfl, E, hN', hR⟩
        refine pk_eq k 0 (fun e => ?_) (fun z0 => pk_eq k 1 (fun e => ?_) (fun z1 => pk_eq k 2 (fun e => ?_) (fun z2 => by omega)))
        · subst e
          exact c_rep0 (lo := 0) (hi := 5) hno (by omega) (by omega) ml
        · subst e
          exact c_rep0 (lo := 0) (hi := 5) hno (by omega) (by omega) ml
        · subst e
          exact c_rep0 (lo := 1) (hi := 9) hno (by omega) (by omega) ml
    · refine ⟨fun e => absurd e (hno 0 (by omega) (by omega)), fun _ => ⟨fun e => absurd e (hno 1 (by omega) (by omega)), fun _ => ⟨fun e => absurd e (hno 2 (by omega) (by omega)), fun _ => ?_⟩⟩⟩
      exact m_order0 w hM (Or.inr (Or.inl hno)) ⟨rfl, E, hN', hR⟩
  · exact c_kp0 hX w hno (b1 (m_order0 w hM (Or.inl hno) ⟨rfl, E, hN', hR⟩))
def teH (k : Nat) : Nat := if k = 0 then 60 else 9
theorem m_te0 {M : Mem} {x y z : Int32} {Q : Int32 → Mem → Prop} (q : Q (-1) M) : w_X8_tend_38 x y z 0 M Q := by
  unfold w_X8_tend_38
  exact m_in ⟨fun _ => ⟨nb1, m_puts0 q⟩, fun _ => ⟨nb0, m_puts0 q⟩⟩ (a := 0) (b := 5)
theorem m_ten {M : Mem} {x y z t0 : Int32} {Q : Int32 → Mem → Prop} (hno : ∀ t, 0 ≤ t → t ≤ 5 → x ≠ nI t) (q : Q (-1) M) : w_X8_tend_38 x y z t0 M Q := by
  unfold w_X8_tend_38
  exact m_gt0 hno (m_puts0 q)
theorem m_te1 {M : Mem} {E : Es} {g k v : Nat} {Q : Int32 → Mem → Prop} (hM : PM M 0 E) (hg : g ≤ 5) (hk : k ≤ 1) (q : Q (nI (E (6 * k + g))) (mu M 1 (6 * k + g) (nI v - off (6 * k + g)))) : w_X8_tend_38 (nI g) (nI k) (nI v) 1 M Q := by
  unfold w_X8_tend_38
  refine m_gt1 hg ?_
  show w_X8_puts 1 _ _ _ _ _
  rw [show (6 : Int32) * nI k = nI (6 * k) from nIm 6 k, nI_add]
  refine m_puts1 (by omega) ?_
  have e : (if nI k = 0 then (30 : Int32) else 2) = off (6 * k + g) := by
    unfold off
    by_cases z : k = 0
    · subst z
      rw [if_pos nI_0, if_pos (by omega)]
      rfl
    · rw [if_neg (nI_ne0 (by omega) (by omega)), if_neg (by omega), if_pos (by omega)]
      rfl
  rw [e, hM.o (by omega) (okl (by omega)), sac]
  exact q
theorem m_tend1 {M : Mem} {E : Es} {g k v : Nat} {Q : Int32 → Mem → Prop} (hM : PM M 0 E) (hg : g ≤ 5) (hk : k ≤ 1) (hv : v ≤ teH k) (q : Q (nI (E (6 * k + g))) (mu M 1 (6 * k + g) (nI v - off (6 * k + g)))) : w_X8_tend (nI g) (nI k) (nI v) M Q := by
  have ml := m_te1 (v := v) hM hg hk q
  unfold w_X8_tend
  refine pk_eq k 0 (fun z => ?_) (fun z0 => pk_eq k 1 (fun z => ?_) (fun z1 => by omega))
  · subst z
    exact m_in1 (a := 0) (b := 60) (by omega) hv (by omega) ml
  · subst z
    exact m_in1 (a := 0) (b := 9) (by omega) hv (by omega) (b1 ml)
theorem m_tend0 {M : Mem} {x y z : Int32} {Q : Int32 → Mem → Prop} (hb : (∀ t, 0 ≤ t → t ≤ 5 → x ≠ nI t) ∨ (∀ k, 0 ≤ k → k ≤ 1 → y ≠ nI k) ∨ (∃ k, k ≤ 1 ∧ y = nI k ∧ ∀ v, 0 ≤ v → v ≤ teH k → z ≠ nI v)) (q : Q (-1) M) : w_X8_tend x y z M Q := by
  have a0 := m_te0 (x := x) (y := y) (z := z) q
  unfold w_X8_tend
  rcases dW y 1 (by omega) with ⟨k, hk, rfl⟩ | hno
  · rcases hb with hb | hb | ⟨k', hk', e, hb⟩
    · have an := fun t0 => m_ten (y := nI k) (z := z) (t0 := t0) hb q
      refine pk_eq k 0 (fun z => ?_) (fun z0 => pk_eq k 1 (fun z => ?_) (fun z1 => by omega))
      · exact m_in ⟨fun _ => an _, fun _ => an _⟩ (a := 0) (b := 60)
      · exact m_in ⟨fun _ => b1 (an _), fun _ => b0 (an _)⟩ (a := 0) (b := 9)
    · exact absurd rfl (hb k (by omega) hk)
    · have ek : k' = k := ((nI_eq (by omega) (by omega)).mp e).symm
      subst ek
      refine pk_eq k' 0 (fun z => ?_) (fun z0 => pk_eq k' 1 (fun z => ?_) (fun z1 => by omega))
      · subst z
        exact m_in0 (a := 0) (b := 60) hb (by omega) (by omega) a0
      · subst z
        exact m_in0 (a := 0) (b := 9) hb (by omega) (by omega) (b0 a0)
  · exact ⟨fun e => absurd e (hno 0 (by omega) (by omega)), fun _ => ⟨fun e => absurd e (hno 1 (by omega) (by omega)), fun _ => a0⟩⟩
theorem op_tend_ok : op_tend Rel0 := by
  intro X M x y z ⟨E, hN, hR⟩
  have hN' := hN
  obtain ⟨w, h9, hX, hM, hT⟩ := hN
  unfold w_X7_tend
  rcases dR x 0 5 with ⟨g, -, hg, rfl⟩ | hno
  · refine c_gt1 hg (b0 ?_)
    obtain ⟨c1, c2⟩ := cxg g (by omega)
    rcases dW y 1 (by omega) with ⟨k, hk, rfl⟩ | hno
    · rcases dR z 0 (teH k) with ⟨v, hl, hv, rfl⟩ | hno
      · refine pk_eq k 0 (fun e => ?_) (fun z0 => pk_eq k 1 (fun e => ?_) (fun z1 => by omega))
        · subst e
          have hv' : v ≤ 60 := hv
          refine c_rep (lo := 0) (hi := 60) (by omega) hv (by omega) (by omega) (by omega) ?_
          refine m_tend1 hM hg hk hv ⟨?_, ?_⟩
          · rw [hX.l1 (by omega)]
            congr 2
            omega
          · rw [show 6 * 0 + g = g by omega]
            exact Rel_up (v := v) hN' hR c1 (by omega) (by omega) (by omega) (by omega) (by omega)
        · subst e
          have hv' : v ≤ 9 := hv
          refine c_rep (lo := 0) (hi := 9) (by omega) hv (by omega) (by omega) (by omega) ?_
          refine m_tend1 hM hg hk hv ⟨hX.g1 (by omega), ?_⟩
          exact Rel_up (v := v) hN' hR c2 (by omega) (by omega) (by omega) (by omega) (by omega)
      · have ml : w_X8_tend (nI g) (nI k) z M (fun r1 M2 => (-1 : Int32) = r1 ∧ Rel0 X M2) := m_tend0 (Or.inr (Or.inr ⟨k, hk, rfl, hno⟩)) ⟨rfl, E, hN', hR⟩
        refine pk_eq k 0 (fun e => ?_) (fun z0 => pk_eq k 1 (fun e => ?_) (fun z1 => by omega))
        · subst e
          exact c_rep0 (lo := 0) (hi := 60) hno (by omega) (by omega) ml
        · subst e
          exact c_rep0 (lo := 0) (hi := 9) hno (by omega) (by omega) ml
    · refine ⟨fun e => absurd e (hno 0 (by omega) (by omega)), fun _ => ⟨fun e => absurd e (hno 1 (by omega) (by omega)), fun _ => ?_⟩⟩
      exact m_tend0 (Or.inr (Or.inl hno)) ⟨rfl, E, hN', hR⟩
  · exact c_gt0 hno (b1 (m_tend0 (Or.inl hno) ⟨rfl, E, hN', hR⟩))
theorem op_free_ok : op_free Rel0 := by
  intro X M x ⟨E, hN, hR⟩
  have hN' := hN
  obtain ⟨w, h9, hX, hM, hT⟩ := hN
  have h5 := w.2.2.2.2.1
  unfold w_X7_free w_X8_free
  rcases dT x (E 44) with ⟨t, ht, rfl⟩ | hno
  · refine c_tk1 hX w ht (b0 ?_)
    obtain ⟨x1, x2, x3, x4⟩ := hX.t1 w ht
    obtain ⟨m1, m2, m3, m4⟩ := hM.t0 w ht
    obtain ⟨c1, c2, c3, c4⟩ := cxt t (by omega)
    have hh := (w.2.1 t ht).2.2.2
    rw [nI_clamp (by omega), x4, show (27 : Int32) + nI t = nI (27 + t) from nI_add 27 t, nI_clamp (by omega), m4]
    refine ⟨vp_in_nI (by omega) (by omega), pk_eq (E (27 + t)) 0 (fun z => ?_) (fun z => ?_)⟩
    · exact m_tk1 hT w ht (b1 ⟨vp_in_nI (by omega) (by omega), pk_eq (E (27 + t)) 0 (fun _ => ⟨rfl, E, hN', hR⟩) (fun y => absurd z y)⟩)
    · refine c_rep (v := 0) (lo := 0) (hi := 0) (by omega) (by omega) (by omega) (by omega) (by omega) ?_
      refine m_tk1 hT w ht (b1 ⟨vp_in_nI (by omega) (by omega), pk_eq (E (27 + t)) 0 (fun y => absurd y z) (fun _ => ?_)⟩)
      refine m_puts1 (by omega) ⟨?_, ?_⟩
      · rw [Int32.add_zero, x4, m4]
      · have := Rel_up (v := 0) hN' hR c4 (by omega) (by omega) (by omega) (by omega) (by omega)
        rwa [off0 (by omega)] at this
  · exact c_tk0 hX w hno (b1 (m_tk0 hT w hno (b0 ⟨rfl, E, hN', hR⟩)))
