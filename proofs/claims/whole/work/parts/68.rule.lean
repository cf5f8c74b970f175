/-! what is told of all: rule, gate, count -/
def hbI (E : Es) : Nat → Int32
  | 0 => 0
  | t + 1 => hbI E t ||| (if nI (E (27 + t)) ≤ 0 then (0 : Int32) else sl 1 (nI t))
def nbI (E : Es) : Nat → Int32
  | 0 => 0
  | t + 1 => nbI E t ||| (if E (27 + t) = 0 ∧ hears E t = true then sl 1 (nI t) else 0)
def tbI (E : Es) (g : Int32) : Nat → Int32
  | 0 => 0
  | t + 1 => tbI E g t ||| (if nI (E (17 + t)) = g then sl 1 (nI t) else 0)
def kbI (E : Es) (g : Int32) : Nat → Int32
  | 0 => 0
  | k + 1 => kbI E g k ||| (if nI (atN E k) = g then sl 1 (nI k) else 0)
theorem w_held {X : Mem} {o : Nat} {E : Es} {Q : Int32 → Prop} (h : EX X o E) (w : WF E) (q : Q (hbI E (E 44))) : w_X0_heldBits o X Q := by
  have h5 := w.2.2.2.2.1
  refine pk_loop (fun m i (_ : Unit) => fu2 (w_X0_heldBits_4 o X Q) m (hbI E i) (nI i)) (fun _ _ => True) (E 44) 0 () (by omega) trivial (fun m _ _ => ?_) (fun m i _ hi _ ih => ?_)
  · show w_X0_heldBits_4 _ _ _ _ _ _
    unfold w_X0_heldBits_4
    rw [h.tk]
    exact pk_le (E 44) (E 44) (fun _ => q) (fun z => by omega)
  · show w_X0_heldBits_4 o X Q (fu2 (w_X0_heldBits_4 o X Q) m) _ _
    generalize fu2 (w_X0_heldBits_4 o X Q) m = K at ih ⊢
    unfold w_X0_heldBits_4
    rw [h.tk]
    refine pk_le (E 44) i (fun z => by omega) (fun _ => ⟨vp_in_nI (by omega) (by omega), fun v3 e3 => ?_⟩)
    rw [nI_clamp (by omega), (h.tr w hi).2.2.2] at e3
    rw [e3, nI_1]
    exact ih () trivial
theorem w_next {X : Mem} {o : Nat} {E : Es} {Q : Int32 → Prop} (h : EX X o E) (w : WF E) (q : Q (nbI E (E 44))) : w_X0_nextCaughtBits o X Q := by
  have h5 := w.2.2.2.2.1
  refine pk_loop (fun m i (_ : Unit) => fu2 (w_X0_nextCaughtBits_4 o X Q) m (nbI E i) (nI i)) (fun _ _ => True) (E 44) 0 () (by omega) trivial (fun m _ _ => ?_) (fun m i _ hi _ ih => ?_)
  · show w_X0_nextCaughtBits_4 _ _ _ _ _ _
    unfold w_X0_nextCaughtBits_4
    rw [h.tk]
    exact pk_le (E 44) (E 44) (fun _ => q) (fun z => by omega)
  · show w_X0_nextCaughtBits_4 o X Q (fu2 (w_X0_nextCaughtBits_4 o X Q) m) _ _
    generalize fu2 (w_X0_nextCaughtBits_4 o X Q) m = K at ih ⊢
    unfold w_X0_nextCaughtBits_4
    rw [h.tk]
    refine pk_le (E 44) i (fun z => by omega) (fun _ => w_wbc h w hi ?_)
    have := ih () trivial
    rw [nI_1]
    by_cases z : E (27 + i) = 0 ∧ hears E i = true
    · rw [show nbI E (i + 1) = nbI E i ||| sl 1 (nI i) from by show nbI E i ||| (if E (27 + i) = 0 ∧ hears E i = true then sl 1 (nI i) else 0) = _; rw [if_pos z]] at this
      rw [if_pos z, if_neg (by decide)]
      exact this
    · rw [show nbI E (i + 1) = nbI E i ||| 0 from by show nbI E i ||| (if E (27 + i) = 0 ∧ hears E i = true then sl 1 (nI i) else 0) = _; rw [if_neg z]] at this
      rw [if_neg z, if_pos rfl]
      exact this
theorem w_tbits {X : Mem} {o : Nat} {E : Es} {g : Int32} {Q : Int32 → Prop} (h : EX X o E) (w : WF E) (q : Q (tbI E g (E 44))) : w_X0_takerBitsAt o g X Q := by
  have h5 := w.2.2.2.2.1
  refine pk_loop (fun m i (_ : Unit) => fu2 (w_X0_takerBitsAt_4 o g X Q) m (tbI E g i) (nI i)) (fun _ _ => True) (E 44) 0 () (by omega) trivial (fun m _ _ => ?_) (fun m i _ hi _ ih => ?_)
  · show w_X0_takerBitsAt_4 _ _ _ _ _ _ _
    unfold w_X0_takerBitsAt_4
    rw [h.tk]
    exact pk_le (E 44) (E 44) (fun _ => q) (fun z => by omega)
  · show w_X0_takerBitsAt_4 o g X Q (fu2 (w_X0_takerBitsAt_4 o g X Q) m) _ _
    generalize fu2 (w_X0_takerBitsAt_4 o g X Q) m = K at ih ⊢
    unfold w_X0_takerBitsAt_4
    rw [h.tk]
    refine pk_le (E 44) i (fun z => by omega) (fun _ => ⟨vp_in_nI (by omega) (by omega), fun v3 e3 => ?_⟩)
    rw [nI_clamp (by omega), (h.tr w hi).2.1] at e3
    rw [e3, nI_1]
    exact ih () trivial
theorem w_kbits {X : Mem} {o : Nat} {E : Es} {g : Int32} {Q : Int32 → Prop} (h : EX X o E) (w : WF E) (q : Q (kbI E g (E 41))) : w_X0_keeperBitsAt o g X Q := by
  have h5 := w.2.2.2.1
  refine pk_loop (fun m i (_ : Unit) => fu2 (w_X0_keeperBitsAt_4 o g X Q) m (kbI E g i) (nI i)) (fun _ _ => True) (E 41) 0 () (by omega) trivial (fun m _ _ => ?_) (fun m i _ hi _ ih => ?_)
  · show w_X0_keeperBitsAt_4 _ _ _ _ _ _ _
    unfold w_X0_keeperBitsAt_4
    rw [h.kp]
    exact pk_le (E 41) (E 41) (fun _ => q) (fun z => by omega)
  · show w_X0_keeperBitsAt_4 o g X Q (fu2 (w_X0_keeperBitsAt_4 o g X Q) m) _ _
    generalize fu2 (w_X0_keeperBitsAt_4 o g X Q) m = K at ih ⊢
    unfold w_X0_keeperBitsAt_4
    rw [h.kp]
    refine pk_le (E 41) i (fun z => by omega) (fun _ => w_place h w hi ?_)
    rw [nI_1]
    exact ih () trivial
def ruV (E : Es) (k : Nat) : Int32 := if k = 0 then nI (E 44) else if k = 1 then nI (E 41) else if k = 2 then nI (E 42) else if k = 3 then nI (E 43) else if k = 4 then nI (sN E 6) else if k = 5 then nI (sN (fun t => E (22 + t)) (E 44)) else if k = 6 then hbI E (E 44) else nbI E (E 44)
theorem m_rule {M : Mem} {E : Es} {x : Int32} {Q : Int32 → Prop} (h : PM M 0 E) (hTk : M 0 1 = nI (E 44)) (w : WF E) (q : w_X8_rule_102 x (nI (sN (fun t => E (22 + t)) (E 44))) (hbI E (E 44)) (nbI E (E 44)) M Q) : w_X8_rule x M Q := by
  have h5 := w.2.2.2.2.1
  refine pk_loop (fun m i (_ : Unit) => fu4 (w_X8_rule_10 x M Q) m (nI (sN (fun t => E (22 + t)) i)) (hbI E i) (nbI E i) (nI i)) (fun _ _ => True) (E 44) 0 () (by omega) trivial (fun m _ _ => ?_) (fun m i _ hi _ ih => ?_)
  · show w_X8_rule_10 _ _ _ _ _ _ _ _
    unfold w_X8_rule_10
    rw [hTk]
    exact pk_le (E 44) (E 44) (fun _ => q) (fun z => by omega)
  · show w_X8_rule_10 x M Q (fu4 (w_X8_rule_10 x M Q) m) _ _ _ _
    generalize fu4 (w_X8_rule_10 x M Q) m = K at ih ⊢
    unfold w_X8_rule_10
    rw [hTk]
    obtain ⟨m1, m2, m3, m4⟩ := h.t0 w hi
    have hh := (w.2.1 i hi).2.2.2
    refine pk_le (E 44) i (fun z => by omega) (fun _ => ?_)
    rw [show (27 : Int32) + nI i = nI (27 + i) from nI_add 27 i, show (22 : Int32) + nI i = nI (22 + i) from nI_add 22 i, nI_clamp (by omega), nI_clamp (by omega), m4, m3, nI_add]
    have key := ih () trivial
    refine ⟨vp_in_nI (by omega) (by omega), fun v12 e12 => ⟨vp_in_nI (by omega) (by omega), ?_⟩⟩
    by_cases z : E (27 + i) = 0
    · rw [if_pos (show nI (E (27 + i)) ≤ 0 from nI_le (b := 0) (by omega) (by omega))] at e12
      subst e12
      rw [show hbI E (i + 1) = hbI E i ||| 0 from by show hbI E i ||| (if nI (E (27 + i)) ≤ 0 then (0 : Int32) else sl 1 (nI i)) = _; rw [if_pos (show nI (E (27 + i)) ≤ 0 from nI_le (b := 0) (by omega) (by omega))]] at key
      refine b0 ?_
      rw [if_pos rfl]
      refine m_heard (p := 0) h w (by omega) hi ?_
      by_cases y : hears E i = true
      · rw [if_pos y]
        refine b1 ?_
        rw [show nbI E (i + 1) = nbI E i ||| sl 1 (nI i) from by show nbI E i ||| (if E (27 + i) = 0 ∧ hears E i = true then sl 1 (nI i) else 0) = _; rw [if_pos ⟨z, y⟩]] at key
        unfold w_X8_rule_93
        rw [nI_1]
        exact key
      · rw [if_neg y]
        refine b0 ?_
        rw [show nbI E (i + 1) = nbI E i ||| 0 from by show nbI E i ||| (if E (27 + i) = 0 ∧ hears E i = true then sl 1 (nI i) else 0) = _; rw [if_neg (fun q => y q.2)]] at key
        unfold w_X8_rule_92 w_X8_rule_93
        rw [nI_1]
        exact key
    · rw [if_neg (nI_nle (by omega) (by omega))] at e12
      subst e12
      rw [show hbI E (i + 1) = hbI E i ||| sl 1 (nI i) from by show hbI E i ||| (if nI (E (27 + i)) ≤ 0 then (0 : Int32) else sl 1 (nI i)) = _; rw [if_neg (nI_nle (by omega) (by omega))]] at key
      refine b1 ?_
      rw [if_neg (by decide)]
      rw [show nbI E (i + 1) = nbI E i ||| 0 from by show nbI E i ||| (if E (27 + i) = 0 ∧ hears E i = true then sl 1 (nI i) else 0) = _; rw [if_neg (fun q => z q.1)]] at key
      unfold w_X8_rule_92 w_X8_rule_93
      rw [nI_1]
      exact key
theorem op_rule_ok : op_rule Rel0 := by
  intro X M x ⟨E, hN, hR⟩
  obtain ⟨w, h9, hX, hM, hTk⟩ := hN
  have h5 := w.2.2.2.2.1
  have h3 := w.2.2.2.1
  unfold w_X7_rule
  rw [hX.tk, hX.kp, hX.ni, hX.ca]
  rcases dW x 7 (by omega) with ⟨k, hk, rfl⟩ | hno
  · have ml : ∀ r, r = ruV E k → w_X8_rule (nI k) M (fun r1 => r = r1) := by
      intro r hr
      unfold ruV at hr
      refine m_rule hM hTk w ?_
      unfold w_X8_rule_102
      rw [hTk, hM.k41, hM.k42, hM.k43]
      refine pk_eq k 0 (fun z => ?_) (fun z0 => pk_eq k 1 (fun z => ⟨i41, ?_⟩) (fun z1 => pk_eq k 2 (fun z => ⟨i42, ?_⟩) (fun z2 => pk_eq k 3 (fun z => ⟨i43, ?_⟩) (fun z3 => pk_eq k 4 (fun z => ?_) (fun z4 => pk_eq k 5 (fun z => ?_) (fun z5 => pk_eq k 6 (fun z => ?_) (fun z6 => pk_eq k 7 (fun z => ?_) (fun z7 => by omega))))))))
      · rwa [if_pos z] at hr
      · rwa [if_neg z0, if_pos z] at hr
      · rwa [if_neg z0, if_neg z1, if_pos z] at hr
      · rwa [if_neg z0, if_neg z1, if_neg z2, if_pos z] at hr
      · rw [if_neg z0, if_neg z1, if_neg z2, if_neg z3, if_pos z] at hr
        exact m_light (p := 0) hM (by omega) hr
      · rwa [if_neg z0, if_neg z1, if_neg z2, if_neg z3, if_neg z4, if_pos z] at hr
      · rwa [if_neg z0, if_neg z1, if_neg z2, if_neg z3, if_neg z4, if_neg z5, if_pos z] at hr
      · rwa [if_neg z0, if_neg z1, if_neg z2, if_neg z3, if_neg z4, if_neg z5, if_neg z6] at hr
    refine pk_eq k 0 (fun z => ml _ ?_) (fun z0 => pk_eq k 1 (fun z => ml _ ?_) (fun z1 => pk_eq k 2 (fun z => ml _ ?_) (fun z2 => pk_eq k 3 (fun z => ml _ ?_) (fun z3 => pk_eq k 4 (fun z => ?_) (fun z4 => pk_eq k 5 (fun z => ?_) (fun z5 => pk_eq k 6 (fun z => ?_) (fun z6 => pk_eq k 7 (fun z => ?_) (fun z7 => by omega))))))))
    · unfold ruV
      rw [if_pos z]
    · unfold ruV
      rw [if_neg z0, if_pos z]
    · unfold ruV
      rw [if_neg z0, if_neg z1, if_pos z]
    · unfold ruV
      rw [if_neg z0, if_neg z1, if_neg z2, if_pos z]
    · refine w_sum (L := 6) (fun i hi => hX.lg hi) (by omega) (by omega) (ml _ ?_)
      unfold ruV
      rw [if_neg z0, if_neg z1, if_neg z2, if_neg z3, if_pos z]
    · unfold w_X0_bagsOfAll
      rw [hX.tk]
      refine w_sum (f := fun t => E (22 + t)) (fun i hi => (hX.tr w hi).2.2.1) (by omega) (by omega) (ml _ ?_)
      unfold ruV
      rw [if_neg z0, if_neg z1, if_neg z2, if_neg z3, if_neg z4, if_pos z]
    · refine w_held hX w (ml _ ?_)
      unfold ruV
      rw [if_neg z0, if_neg z1, if_neg z2, if_neg z3, if_neg z4, if_neg z5, if_pos z]
    · refine w_next hX w (ml _ ?_)
      unfold ruV
      rw [if_neg z0, if_neg z1, if_neg z2, if_neg z3, if_neg z4, if_neg z5, if_neg z6]
  · refine ⟨fun e => absurd e (hno 0 (by omega) (by omega)), fun n0 => ⟨fun e => absurd e (hno 1 (by omega) (by omega)), fun n1 => ⟨fun e => absurd e (hno 2 (by omega) (by omega)), fun n2 => ⟨fun e => absurd e (hno 3 (by omega) (by omega)), fun n3 => ⟨fun e => absurd e (hno 4 (by omega) (by omega)), fun n4 => ⟨fun e => absurd e (hno 5 (by omega) (by omega)), fun n5 => ⟨fun e => absurd e (hno 6 (by omega) (by omega)), fun n6 => ⟨fun e => absurd e (hno 7 (by omega) (by omega)), fun n7 => ?_⟩⟩⟩⟩⟩⟩⟩⟩
    exact m_rule hM hTk w ⟨fun e => absurd e n0, fun _ => ⟨fun e => absurd e n1, fun _ => ⟨fun e => absurd e n2, fun _ => ⟨fun e => absurd e n3, fun _ => ⟨fun e => absurd e n4, fun _ => ⟨fun e => absurd e n5, fun _ => ⟨fun e => absurd e n6, fun _ => ⟨fun e => absurd e n7, fun _ => rfl⟩⟩⟩⟩⟩⟩⟩⟩
theorem m_gbits {M : Mem} {E : Es} {g k : Nat} {Q : Int32 → Prop} (h : PM M 0 E) (hTk : M 0 1 = nI (E 44)) (w : WF E) (q : w_X8_gate_119 (nI g) (nI k) (if k = 2 then tbI E (nI g) (E 44) else if k = 3 then kbI E (nI g) (E 41) else 0) M Q) (hk : k ≤ 3) : ∃ n, fu2 (w_X8_gate_26 (nI g) (nI k) M Q) n 0 0 := by
  have h5 := w.2.2.2.2.1
  have h3 := w.2.2.2.1
  have two : ∀ v, v = (if k = 2 then tbI E (nI g) (E 44) else 0) → w_X8_gate_71 (nI g) (nI k) v M Q := by
    intro v ev
    by_cases z : k = 3
    · rw [if_neg (by omega)] at ev
      rw [if_neg (by omega), if_pos z] at q
      subst ev
      refine pk_loop (fun m i (_ : Unit) => fu2 (w_X8_gate_74 (nI g) (nI k) M Q) m (kbI E (nI g) i) (nI i)) (fun _ _ => True) (E 41) 0 () (by omega) trivial (fun m _ _ => ?_) (fun m i _ hi _ ih => ?_)
      · show w_X8_gate_74 _ _ _ _ _ _ _
        unfold w_X8_gate_74
        rw [h.k41]
        exact ⟨i41, pk_le (E 41) (E 41) (fun _ => q) (fun z => by omega)⟩
      · show w_X8_gate_74 (nI g) (nI k) M Q (fu2 (w_X8_gate_74 (nI g) (nI k) M Q) m) _ _
        generalize fu2 (w_X8_gate_74 (nI g) (nI k) M Q) m = K at ih ⊢
        unfold w_X8_gate_74
        rw [h.k41]
        refine ⟨i41, pk_le (E 41) i (fun z => by omega) (fun _ => pk_eq k 3 (fun _ => ?_) (fun y => absurd z y))⟩
        refine m_at (p := 0) h w (by omega) hi ?_
        rw [nI_1]
        exact ih () trivial
    · refine ⟨1, ?_⟩
      show w_X8_gate_74 _ _ _ _ _ _ _
      unfold w_X8_gate_74
      have q' : w_X8_gate_119 (nI g) (nI k) v M Q := by
        rw [ev]
        rw [if_neg z] at q
        exact q
      rw [h.k41]
      exact ⟨i41, pk_le (E 41) 0 (fun _ => q') (fun _ => pk_eq k 3 (fun y => absurd y z) (fun _ => q'))⟩
  by_cases z : k = 2
  · refine pk_loop (fun m i (_ : Unit) => fu2 (w_X8_gate_26 (nI g) (nI k) M Q) m (tbI E (nI g) i) (nI i)) (fun _ _ => True) (E 44) 0 () (by omega) trivial (fun m _ _ => ?_) (fun m i _ hi _ ih => ?_)
    · show w_X8_gate_26 _ _ _ _ _ _ _
      unfold w_X8_gate_26
      rw [hTk]
      exact pk_le (E 44) (E 44) (fun _ => two _ (by rw [if_pos z])) (fun z => by omega)
    · show w_X8_gate_26 (nI g) (nI k) M Q (fu2 (w_X8_gate_26 (nI g) (nI k) M Q) m) _ _
      generalize fu2 (w_X8_gate_26 (nI g) (nI k) M Q) m = K at ih ⊢
      unfold w_X8_gate_26
      rw [hTk]
      refine pk_le (E 44) i (fun z => by omega) (fun _ => pk_eq k 2 (fun _ => ?_) (fun y => absurd z y))
      rw [show (17 : Int32) + nI i = nI (17 + i) from nI_add 17 i, nI_clamp (by omega), (h.t0 w hi).2.1]
      refine ⟨vp_in_nI (by omega) (by omega), fun v14 e14 => ?_⟩
      rw [e14, nI_1]
      exact ih () trivial
  · refine ⟨1, ?_⟩
    show w_X8_gate_26 _ _ _ _ _ _ _
    unfold w_X8_gate_26
    rw [hTk]
    exact pk_le (E 44) 0 (fun _ => two _ (by rw [if_neg z])) (fun _ => pk_eq k 2 (fun y => absurd y z) (fun _ => two _ (by rw [if_neg z])))
theorem op_gate_ok : op_gate Rel0 := by
  intro X M x y ⟨E, hN, hR⟩
  obtain ⟨w, h9, hX, hM, hTk⟩ := hN
  have h5 := w.2.2.2.2.1
  have h3 := w.2.2.2.1
  unfold w_X7_gate
  rcases dR x 0 5 with ⟨g, -, hg, rfl⟩ | hno
  · refine c_gt1 hg (b0 ?_)
    rw [nI_clamp (by omega), hX.l1 (by omega), hX.g1 (by omega)]
    have ev : vp_in (nI g) 6 := vp_in_nI (by omega) (by omega)
    rcases dW y 3 (by omega) with ⟨k, hk, rfl⟩ | hno
    · have ml : ∀ r, r = (if k = 0 then nI (E g) else if k = 1 then nI (E (6 + g)) else if k = 2 then tbI E (nI g) (E 44) else kbI E (nI g) (E 41)) → w_X8_gate (nI g) (nI k) M (fun r1 => r = r1) := by
        intro r hr
        refine m_gt1 hg (b1 (m_in1 (a := 0) (b := 3) (by omega) hk (by omega) (b1 (m_gbits hM hTk w ?_ hk))))
        unfold w_X8_gate_119
        rw [show (6 : Int32) + nI g = nI (6 + g) from nI_add 6 g, nI_clamp (by omega), nI_clamp (by omega), hM.lg0 (by omega), hM.gr0 (by omega), show nI (E g) - nI 30 + 30 = nI (E g) from sac _ _, show nI (E (6 + g)) - nI 2 + 2 = nI (E (6 + g)) from sac _ _]
        refine pk_eq k 0 (fun z => ⟨vp_in_nI (by omega) (by omega), ?_⟩) (fun z0 => pk_eq k 1 (fun z => ⟨vp_in_nI (by omega) (by omega), ?_⟩) (fun z1 => ?_))
        · rwa [if_pos z] at hr
        · rwa [if_neg z0, if_pos z] at hr
        · rw [if_neg z0, if_neg z1] at hr
          rw [hr]
          by_cases z : k = 2
          · rw [if_pos z, if_pos z]
          · rw [if_neg z, if_neg z, if_pos (by omega)]
      refine pk_eq k 0 (fun z => ⟨ev, ml _ ?_⟩) (fun z0 => pk_eq k 1 (fun z => ⟨ev, ml _ ?_⟩) (fun z1 => pk_eq k 2 (fun z => w_tbits hX w (ml _ ?_)) (fun z2 => pk_eq k 3 (fun z => w_kbits hX w (ml _ ?_)) (fun z3 => by omega))))
      · rw [if_pos z]
      · rw [if_neg z0, if_pos z]
      · rw [if_neg z0, if_neg z1, if_pos z]
      · rw [if_neg z0, if_neg z1, if_neg z2]
    · refine ⟨fun e => absurd e (hno 0 (by omega) (by omega)), fun _ => ⟨fun e => absurd e (hno 1 (by omega) (by omega)), fun _ => ⟨fun e => absurd e (hno 2 (by omega) (by omega)), fun _ => ⟨fun e => absurd e (hno 3 (by omega) (by omega)), fun _ => ?_⟩⟩⟩⟩
      exact m_gt1 hg (b1 (m_in0 (a := 0) (b := 3) hno (by omega) (by omega) (b0 rfl)))
  · exact c_gt0 hno (b1 (m_gt0 hno (b0 rfl)))
theorem m_count {M : Mem} {E : Es} {x : Int32} {Q : Int32 → Prop} (h : PM M 0 E) (w : WF E) (q : w_X8_count_69 x (nI (sN (fun g => E (6 + g)) 6)) (nI (sN (fun k => E (38 + k)) (E 41))) M Q) : w_X8_count x M Q := by
  have h3 := w.2.2.2.1
  refine pk_loop (fun m i (_ : Unit) => fu2 (w_X8_count_7 x 0 M Q) m (nI (sN (fun g => E (6 + g)) i)) (nI i)) (fun _ _ => True) 6 0 () (by omega) trivial (fun m _ _ => ?_) (fun m i _ hi _ ih => ?_)
  · refine pk_le 6 6 (fun _ => ?_) (fun z => by omega)
    refine pk_loop (fun m i (_ : Unit) => fu2 (w_X8_count_38 x (nI (sN (fun g => E (6 + g)) 6)) M Q) m (nI (sN (fun k => E (38 + k)) i)) (nI i)) (fun _ _ => True) (E 41) 0 () (by omega) trivial (fun m _ _ => ?_) (fun m i _ hi _ ih => ?_)
    · show w_X8_count_38 _ _ _ _ _ _ _
      unfold w_X8_count_38
      rw [h.k41]
      exact ⟨i41, pk_le (E 41) (E 41) (fun _ => q) (fun z => by omega)⟩
    · show w_X8_count_38 x (nI (sN (fun g => E (6 + g)) 6)) M Q (fu2 (w_X8_count_38 x (nI (sN (fun g => E (6 + g)) 6)) M Q) m) _ _
      generalize fu2 (w_X8_count_38 x (nI (sN (fun g => E (6 + g)) 6)) M Q) m = K at ih ⊢
      unfold w_X8_count_38
      rw [h.k41, show (38 : Int32) + nI i = nI (38 + i) from nI_add 38 i, nI_clamp (by omega), (h.q0 w hi).2.2, nI_add, nI_1]
      exact ⟨i41, pk_le (E 41) i (fun z => by omega) (fun _ => ⟨vp_in_nI (by omega) (by omega), ih () trivial⟩)⟩
  · show w_X8_count_7 x 0 M Q (fu2 (w_X8_count_7 x 0 M Q) m) _ _
    generalize fu2 (w_X8_count_7 x 0 M Q) m = K at ih ⊢
    unfold w_X8_count_7
    rw [show (6 : Int32) + nI i = nI (6 + i) from nI_add 6 i, nI_clamp (by omega), h.gr0 hi, show nI (E (6 + i)) - nI 2 + 2 = nI (E (6 + i)) from sac _ _, nI_add, nI_1]
    exact pk_le 6 i (fun z => by omega) (fun _ => ⟨vp_in_nI (by omega) (by omega), ih () trivial⟩)
theorem op_count_ok : op_count Rel0 := by
  intro X M x ⟨E, hN, hR⟩
  obtain ⟨w, h9, hX, hM, hTk⟩ := hN
  have h5 := w.2.2.2.2.1
  have h3 := w.2.2.2.1
  obtain ⟨n, hn, t1, t2, -⟩ := hR.2.1
  obtain ⟨s, hs, s1, s2, -⟩ := hR.2.2.1
  have i0 : vp_in 0 2 := vp_in_nI (n := 0) (by omega) (by omega)
  have i1 : vp_in 1 2 := vp_in_nI (n := 1) (by omega) (by omega)
  have j0 : vp_in 0 4 := vp_in_nI (n := 0) (by omega) (by omega)
  unfold w_X7_count
  rw [s1, t1, k0, k1, (hR.1 0 (by omega)).1, (hR.1 1 (by omega)).1]
  have ml : ∀ r, w_X8_count_69 x (nI (sN (fun g => E (6 + g)) 6)) (nI (sN (fun k => E (38 + k)) (E 41))) M (fun r1 => r = r1) → w_X8_count x M (fun r1 => r = r1) := fun r h => m_count hM w h
  unfold w_X8_count_69 at ml
  rw [s2, t2, k0, k1] at ml
  refine ⟨fun e0 => ml _ ⟨fun _ => rfl, fun n0 => absurd e0 n0⟩, fun n0 => ⟨fun e1 => ⟨i0, i1, ml _ ⟨fun e => absurd e n0, fun _ => ⟨fun _ => ⟨i0, i1, rfl⟩, fun n => absurd e1 n⟩⟩⟩, fun n1 => ⟨fun e2 => ml _ ⟨fun e => absurd e n0, fun _ => ⟨fun e => absurd e n1, fun _ => ⟨fun _ => rfl, fun n => absurd e2 n⟩⟩⟩, fun n2 => ⟨fun e3 => ⟨j0, ?_⟩, fun n3 => ⟨fun e4 => ?_, fun n4 => ⟨fun e5 => ?_, fun n5 => ?_⟩⟩⟩⟩⟩⟩
  · have md : ∀ r, ((M 9 0 = -4 → r = -4) ∧ (¬ M 9 0 = -4 → vp_in 0 4 ∧ r = M 10 0)) → w_X8_count x M (fun r1 => r = r1) := fun r h => ml r ⟨fun e => absurd e n0, fun _ => ⟨fun e => absurd e n1, fun _ => ⟨fun e => absurd e n2, fun _ => ⟨fun _ => ⟨j0, h⟩, fun n => absurd e3 n⟩⟩⟩⟩
    rcases hR.2.2.2.1 0 (by omega) with ⟨h1, h2⟩ | ⟨l, m, hl, hm, ⟨l1, l2⟩, ⟨n1, n2⟩, hc⟩
    · refine w_nothing1 h1 (b1 (md _ ⟨fun _ => rfl, fun z => absurd h2 z⟩))
    · refine w_nothing0 l1 hl (b0 ⟨j0, md _ ⟨fun z => ?_, fun _ => ⟨j0, ?_⟩⟩⟩)
      · rw [l2] at z
        exact absurd z (nI_nm4 (by omega))
      · rw [n1, n2]
  · refine w_sum (L := 6) (f := fun g => E (6 + g)) (fun i hi => hX.gr hi) (by omega) (by omega) ?_
    exact ml _ ⟨fun e => absurd e n0, fun _ => ⟨fun e => absurd e n1, fun _ => ⟨fun e => absurd e n2, fun _ => ⟨fun e => absurd e n3, fun _ => ⟨fun _ => rfl, fun n => absurd e4 n⟩⟩⟩⟩⟩
  · unfold w_X0_earsOfAll
    rw [hX.kp]
    refine w_sum (f := fun k => E (38 + k)) (fun i hi => (hX.kr w hi).2.2) (by omega) (by omega) ?_
    exact ml _ ⟨fun e => absurd e n0, fun _ => ⟨fun e => absurd e n1, fun _ => ⟨fun e => absurd e n2, fun _ => ⟨fun e => absurd e n3, fun _ => ⟨fun e => absurd e n4, fun _ => ⟨fun _ => rfl, fun n => absurd e5 n⟩⟩⟩⟩⟩⟩
  · exact ml _ ⟨fun e => absurd e n0, fun _ => ⟨fun e => absurd e n1, fun _ => ⟨fun e => absurd e n2, fun _ => ⟨fun e => absurd e n3, fun _ => ⟨fun e => absurd e n4, fun _ => ⟨fun e => absurd e n5, fun _ => rfl⟩⟩⟩⟩⟩⟩
