/-! the class's lines -/
def cX (X X' : Mem) : Prop := ∀ a, a < 12 ∨ (22 ≤ a ∧ a ≠ 24) → X' a = X a
theorem cX.rf {X : Mem} : cX X X := fun _ _ => rfl
theorem cX.tr {X Y Z : Mem} (h : cX X Y) (h2 : cX Y Z) : cX X Z := fun a ha => (h2 a ha).trans (h a ha)
theorem kX.c {X Y : Mem} (h : kX X Y) : cX X Y := fun a ha => h a (by omega)
theorem frX.c {X Y : Mem} (h : frX 12 X Y) : cX X Y := fun a ha => h a (by omega)
theorem cX.tc {X Y : Mem} {n : Nat} {b : Nat → Nat} (h : cX X Y) (t : TC X n b) : TC Y n b := t.cg (h 22 (by omega)) (h 23 (by omega))
theorem kX.ex {X Y : Mem} {D : Es} (h : kX X Y) (e : EX X 12 D) : EX Y 12 D := e.cell (fun c hc => h (12 + c) (by omega))
def addE (E : Es) (k g : Nat) : Es := fun i => if i = 44 then E 44 + 1 else if i = 27 + E 44 then 0 else if i = 22 + E 44 then 0 else if i = 17 + E 44 then g else if i = 12 + E 44 then k else E i
theorem addE_44 {E : Es} {k g : Nat} : addE E k g 44 = E 44 + 1 := if_pos rfl
theorem addE_o {E : Es} {k g i : Nat} (h : E 44 < 5) (hi : i < 12 ∨ 32 ≤ i) (h44 : i ≠ 44) : addE E k g i = E i := by
  unfold addE
  rw [if_neg h44, if_neg (by omega), if_neg (by omega), if_neg (by omega), if_neg (by omega)]
theorem addE_WF {E : Es} {k g : Nat} (w : WF E) (h : E 44 < 5) (h1 : k < 4) (h2 : g < 6) : WF (addE E k g) := by
  obtain ⟨w1, w2, w3, w4, w5, w6, w7⟩ := w
  unfold WF
  rw [addE_44, addE_o (i := 41) h (by omega) (by omega), addE_o (i := 42) h (by omega) (by omega), addE_o (i := 43) h (by omega) (by omega)]
  refine ⟨fun x hx => ?_, fun t ht => ?_, fun x hx => ?_, w4, by omega, w6, w7⟩
  · rw [addE_o (i := x) h (by omega) (by omega), addE_o (i := 6 + x) h (by omega) (by omega)]
    exact w1 x hx
  · by_cases q : t = E 44
    · subst q
      unfold addE
      rw [if_neg (by omega), if_neg (by omega), if_neg (by omega), if_neg (by omega), if_pos rfl, if_neg (by omega), if_neg (by omega), if_neg (by omega), if_pos rfl, if_neg (by omega), if_neg (by omega), if_pos rfl, if_neg (by omega), if_pos rfl]
      exact ⟨h1, h2, by omega, by omega⟩
    · have := w2 t (by omega)
      unfold addE
      rw [if_neg (by omega), if_neg (by omega), if_neg (by omega), if_neg (by omega), if_neg (by omega), if_neg (by omega), if_neg (by omega), if_neg (by omega), if_neg (by omega), if_neg (by omega), if_neg (by omega), if_neg (by omega), if_neg (by omega), if_neg (by omega), if_neg (by omega), if_neg (by omega), if_neg (by omega), if_neg (by omega), if_neg (by omega), if_neg (by omega)]
      exact this
  · rw [addE_o (i := 32 + x) h (by omega) (by omega), addE_o (i := 35 + x) h (by omega) (by omega), addE_o (i := 38 + x) h (by omega) (by omega)]
    exact w3 x hx
theorem ok_add {tk kp i : Nat} (h : ok (tk + 1) kp i) (h1 : i ≠ 12 + tk) (h2 : i ≠ 17 + tk) (h3 : i ≠ 22 + tk) (h4 : i ≠ 27 + tk) (h5 : tk < 5) : ok tk kp i := by
  rcases h with h | h | h | h
  · exact Or.inl h
  · exact Or.inr (Or.inl ⟨h.1, h.2.1, by omega⟩)
  · exact Or.inr (Or.inr (Or.inl h))
  · exact Or.inr (Or.inr (Or.inr h))
theorem w_addT {X : Mem} {o k g : Nat} {E : Es} {Q : Int32 → Mem → Prop} (h : EX X o E) (hk : E 44 < 5) (hq : ∀ X', EX X' o (addE E k g) → frX o X X' → Q 1 X') : w_X0_addTaker o (nI k) (nI g) X Q := by
  unfold w_X0_addTaker
  rw [h.tk]
  refine pk_lt (E 44) 5 (fun _ => ?_) (fun z => by omega)
  rw [nI_clamp (by omega)]
  refine ⟨vp_in_nI hk (by omega), fun M2 e2 => ?_⟩
  rw [show M2 o 9 = nI (E 44) from by rw [e2, mu_c (by omega), h.tk], nI_clamp (by omega)]
  refine ⟨vp_in_nI hk (by omega), fun M3 e3 => ?_⟩
  rw [show M3 o 9 = nI (E 44) from by rw [e3, e2, mu_c (by omega), mu_c (by omega), h.tk], nI_clamp (by omega)]
  refine ⟨vp_in_nI hk (by omega), fun M4 e4 => ?_⟩
  rw [show M4 o 9 = nI (E 44) from by rw [e4, e3, e2, mu_c (by omega), mu_c (by omega), mu_c (by omega), h.tk], nI_clamp (by omega)]
  refine ⟨vp_in_nI hk (by omega), fun M5 e5 M6 e6 => ?_⟩
  rw [show M5 o 9 = nI (E 44) from by rw [e5, e4, e3, e2, mu_c (by omega), mu_c (by omega), mu_c (by omega), mu_c (by omega), h.tk], nI_1] at e6
  obtain ⟨c1, c2, c3, c4⟩ := cxt (E 44) hk
  have d : M6 = mu (mu (mu (mu (mu X (o + (cx (12 + E 44)).1) (cx (12 + E 44)).2 (nI k)) (o + (cx (17 + E 44)).1) (cx (17 + E 44)).2 (nI g)) (o + (cx (22 + E 44)).1) (cx (22 + E 44)).2 (nI 0)) (o + (cx (27 + E 44)).1) (cx (27 + E 44)).2 (nI 0)) (o + (cx 44).1) (cx 44).2 (nI (E 44 + 1)) := by
    rw [c1, c2, c3, c4, e6, e5, e4, e3, e2]
    rfl
  refine hq M6 (fun i hi hok => ?_) ?_
  · rw [addE_44, addE_o (i := 41) hk (by omega) (by omega)] at hok
    rw [d, mu_cx hi (by omega), mu_cx hi (by omega), mu_cx hi (by omega), mu_cx hi (by omega), mu_cx hi (by omega)]
    unfold addE
    by_cases q1 : i = 44
    · rw [if_pos q1, if_pos q1]
    · rw [if_neg q1, if_neg q1]
      by_cases q2 : i = 27 + E 44
      · rw [if_pos q2, if_pos q2]
      · rw [if_neg q2, if_neg q2]
        by_cases q3 : i = 22 + E 44
        · rw [if_pos q3, if_pos q3]
        · rw [if_neg q3, if_neg q3]
          by_cases q4 : i = 17 + E 44
          · rw [if_pos q4, if_pos q4]
          · rw [if_neg q4, if_neg q4]
            by_cases q5 : i = 12 + E 44
            · rw [if_pos q5, if_pos q5]
            · rw [if_neg q5, if_neg q5]
              exact h i hi (ok_add hok q5 q4 q3 q2 hk)
  · rw [e6, e5, e4, e3, e2]
    exact ((((frX.rf.mu (by omega) (by omega)).mu (by omega) (by omega)).mu (by omega) (by omega)).mu (by omega) (by omega)).mu (by omega) (by omega)
/-- what comes of a line: which fault at which place (0: none), what place is behind it, what there is then, which gates are told -/
def CQ (X : Mem) (o : Nat × Nat) (p : Nat) (D : Es) (G : Int32) (Q : Int32 → Mem → Prop) : Prop :=
  (o.1 = 0 → ∀ X', cX X X' → EX X' 12 D → X' 24 3 = nI p → X' 24 5 = G → X' 24 6 = X 24 6 → X' 24 7 = X 24 7 → Q 1 X') ∧ (o.1 ≠ 0 → ∀ X', cX X X' → X' 24 6 = nI o.1 → X' 24 7 = nI o.2 → Q 0 X')
/-- one token after another: the first that is wrong -/
def th (f : Nat) (pl : Nat) (o : Nat × Nat) : Nat × Nat := if f = 0 then o else (f, pl)
theorem th_0 {f pl : Nat} {o : Nat × Nat} (h : f = 0) : th f pl o = o := if_pos h
theorem th_n {f pl : Nat} {o : Nat × Nat} (h : f ≠ 0) : th f pl o = (f, pl) := if_neg h
theorem CQ.bad {X X' : Mem} {o : Nat × Nat} {p f pl : Nat} {D : Es} {G : Int32} {Q : Int32 → Mem → Prop} (h : CQ X o p D G Q) (e : o = (f, pl)) (hf : f ≠ 0) (c : cX X X') (h6 : X' 24 6 = nI f) (h7 : X' 24 7 = nI pl) : Q 0 X' := by
  subst e
  exact h.2 hf X' c h6 h7
def tkF (b : Nat → Nat) (n p f0 : Nat) (D : Es) : Nat × Nat := if 5 ≤ D 44 then (5, f0) else th (nF b n p 0 5) (tF b n p) (sF b n (tB b n p), tF b n (tB b n p))
def kpF (b : Nat → Nat) (n p f0 : Nat) (D : Es) : Nat × Nat := if 3 ≤ D 41 then (5, f0) else th (nF b n p 0 5) (tF b n p) (th (nF b n (tB b n p) 0 5) (tF b n (tB b n p)) (th (nF b n (tB b n (tB b n p)) 1 9) (tF b n (tB b n (tB b n p))) (sF b n (tB b n (tB b n (tB b n p))), tF b n (tB b n (tB b n (tB b n p))))))
def gtF (b : Nat → Nat) (n p : Nat) (G : Int32) : Nat × Nat := th (nF b n p 0 5) (tF b n p) (if (sr G (nI (tV b n p)) &&& 1) = 1 then (4, tF b n p) else th (nF b n (tB b n p) 0 60) (tF b n (tB b n p)) (th (nF b n (tB b n (tB b n p)) 0 9) (tF b n (tB b n (tB b n p))) (sF b n (tB b n (tB b n (tB b n p))), tF b n (tB b n (tB b n (tB b n p))))))
theorem w_taker {X : Mem} {n p f0 i : Nat} {b : Nat → Nat} {D : Es} {G : Int32} {Q : Int32 → Mem → Prop} (t : TC X n b) (hp : p ≤ n) (h2 : X 24 2 = nI f0) (h3 : X 24 3 = nI p) (h5 : X 24 5 = G) (hE : EX X 12 D) (w : WF D) (q : CQ X (tkF b n p f0 D) (tB b n (tB b n p)) (addE D i (tV b n p)) G Q) : w_X5_readTaker (nI i) X (fun r X' => narrow .boolean (.int r) = .int r ∧ Q r X') := by
  have w5 := w.2.2.2.2.1
  obtain ⟨g1, g2, g3⟩ := tB_le (b := b) hp
  unfold w_X5_readTaker
  rw [hE.tk]
  refine pk_lt (D 44) 5 (fun z => ?_) (fun z => ?_)
  · have e0 : tkF b n p f0 D = th (nF b n p 0 5) (tF b n p) (sF b n (tB b n p), tF b n (tB b n p)) := if_neg (by omega)
    refine w_num (lo := 0) (hi := 5) t hp h3 (by omega) (by omega) ⟨fun z1 X1 k1 a2 a3 a4 a5 => b1 ?_, fun z1 X1 k1 a6 a7 => b0 ⟨nb0, q.bad (by rw [e0, th_n z1]) z1 k1.c a6 a7⟩⟩
    rw [th_0 z1] at e0
    refine w_semi (k1.tc t) g2 a3 ⟨fun z2 X2 k2 c3 c4 => b1 ?_, fun z2 X2 k2 c6 c7 => b0 ⟨nb0, q.bad e0 z2 (k1.tr k2).c c6 c7⟩⟩
    rw [c4 4 (by omega), a4]
    refine w_addT (k2.ex (k1.ex hE)) z (fun X3 ex f3 => b1 ⟨nb1, ?_⟩)
    have s24 : X3 24 = X2 24 := f3 24 (by omega)
    refine q.1 (by rw [e0]; exact z2) X3 (((k1.tr k2).c).tr f3.c) ex ?_ ?_ ?_ ?_
    · rw [s24, c3]
    · rw [s24, c4 5 (by omega), a5 5 (by omega), h5]
    · rw [s24, c4 6 (by omega), a5 6 (by omega)]
    · rw [s24, c4 7 (by omega), a5 7 (by omega)]
  · exact w_ref (f := 5) h2 (fun X1 k1 a6 a7 => ⟨nb0, nb0, q.bad (if_pos z) (by omega) k1.c a6 a7⟩)
theorem w_keeper {X : Mem} {n p f0 : Nat} {b : Nat → Nat} {D : Es} {G : Int32} {Q : Int32 → Mem → Prop} (t : TC X n b) (hp : p ≤ n) (h2 : X 24 2 = nI f0) (h3 : X 24 3 = nI p) (h5 : X 24 5 = G) (hE : EX X 12 D) (w : WF D) (q : CQ X (kpF b n p f0 D) (tB b n (tB b n (tB b n (tB b n p)))) (hirE D (tV b n p) (tV b n (tB b n p)) (tV b n (tB b n (tB b n p)))) G Q) : w_X5_readKeeper X (fun r X' => narrow .boolean (.int r) = .int r ∧ Q r X') := by
  have w4 := w.2.2.2.1
  obtain ⟨g1, g2, -⟩ := tB_le (b := b) hp
  obtain ⟨i1, i2, -⟩ := tB_le (b := b) g2
  obtain ⟨j1, j2, -⟩ := tB_le (b := b) i2
  unfold w_X5_readKeeper
  rw [hE.kp]
  refine pk_lt (D 41) 3 (fun z => ?_) (fun z => ?_)
  · unfold kpF at q
    rw [if_neg (by omega)] at q
    refine w_num (lo := 0) (hi := 5) t hp h3 (by omega) (by omega) ⟨fun z1 X1 k1 a2 a3 a4 a5 => b1 ?_, fun z1 X1 k1 a6 a7 => b0 ⟨nb0, q.bad (by rw [th_n z1]) z1 k1.c a6 a7⟩⟩
    rw [th_0 z1] at q
    refine w_num (lo := 0) (hi := 5) (k1.tc t) g2 a3 (by omega) (by omega) ⟨fun z2 X2 k2 c2 c3 c4 c5 => b1 ?_, fun z2 X2 k2 c6 c7 => b0 ⟨nb0, q.bad (by rw [th_n z2]) z2 (k1.tr k2).c c6 c7⟩⟩
    rw [th_0 z2] at q
    have k12 := k1.tr k2
    refine w_num (lo := 1) (hi := 9) (k12.tc t) i2 c3 (by omega) (by omega) ⟨fun z3 X3 k3 d2 d3 d4 d5 => b1 ?_, fun z3 X3 k3 d6 d7 => b0 ⟨nb0, q.bad (by rw [th_n z3]) z3 (k12.tr k3).c d6 d7⟩⟩
    rw [th_0 z3] at q
    have k13 := k12.tr k3
    refine w_semi (k13.tc t) j2 d3 ⟨fun z4 X4 k4 u3 u4 => b1 ?_, fun z4 X4 k4 u6 u7 => b0 ⟨nb0, q.bad rfl z4 (k13.tr k4).c u6 u7⟩⟩
    have k14 := k13.tr k4
    rw [a4, c4, u4 4 (by omega), d4]
    refine w_addK (k14.ex hE) z (fun X5 ex f5 => b1 ⟨nb1, ?_⟩)
    have s24 : X5 24 = X4 24 := f5 24 (by omega)
    refine q.1 z4 X5 (k14.c.tr f5.c) ex ?_ ?_ ?_ ?_
    · rw [s24, u3]
    · rw [s24, u4 5 (by omega), d5 5 (by omega), c5 5 (by omega), a5 5 (by omega), h5]
    · rw [s24, u4 6 (by omega), d5 6 (by omega), c5 6 (by omega), a5 6 (by omega)]
    · rw [s24, u4 7 (by omega), d5 7 (by omega), c5 7 (by omega), a5 7 (by omega)]
  · exact w_ref (f := 5) h2 (fun X1 k1 a6 a7 => ⟨nb0, nb0, q.bad (if_pos z) (by omega) k1.c a6 a7⟩)
def gatE (D : Es) (g l r : Nat) : Es := up (up D g l) (6 + g) r
theorem cX.mu {X Y : Mem} {a k : Nat} {v : Int32} (h : cX X Y) (h1 : 12 ≤ a) (h2 : a < 22) : cX X (mu Y a k v) := fun c hc => (mu_c (by omega)).trans (h c hc)
theorem w_gate {X : Mem} {n p : Nat} {b : Nat → Nat} {D : Es} {G : Int32} {Q : Int32 → Mem → Prop} (t : TC X n b) (hp : p ≤ n) (h3 : X 24 3 = nI p) (h5 : X 24 5 = G) (hE : EX X 12 D) (q : CQ X (gtF b n p G) (tB b n (tB b n (tB b n (tB b n p)))) (gatE D (tV b n p) (tV b n (tB b n p)) (tV b n (tB b n (tB b n p)))) (G ||| sl 1 (nI (tV b n p))) Q) : w_X5_readGate X (fun r X' => narrow .boolean (.int r) = .int r ∧ Q r X') := by
  obtain ⟨g1, g2, -⟩ := tB_le (b := b) hp
  obtain ⟨i1, i2, -⟩ := tB_le (b := b) g2
  obtain ⟨j1, j2, -⟩ := tB_le (b := b) i2
  unfold w_X5_readGate
  unfold gtF at q
  refine w_num (lo := 0) (hi := 5) t hp h3 (by omega) (by omega) ⟨fun z1 X1 k1 a2 a3 a4 a5 => b1 ?_, fun z1 X1 k1 a6 a7 => b0 ⟨nb0, q.bad (by rw [th_n z1]) z1 k1.c a6 a7⟩⟩
  rw [th_0 z1] at q
  obtain ⟨-, -, -, v5⟩ := nF_0 z1
  rw [a4, a5 5 (by omega), h5, nI_clamp (by omega)]
  refine ⟨fun u => ?_, fun u => ?_⟩
  · rw [if_pos u] at q
    exact w_ref (f := 4) a2 (fun X2 k2 c6 c7 => ⟨nb0, nb0, q.bad rfl (by omega) (k1.tr k2).c c6 c7⟩)
  · rw [if_neg u] at q
    intro X2 e2
    have k2 : kX X X2 := by rw [e2]; exact k1.mu
    have o2 : ∀ k, k ≠ 5 → X2 24 k = X1 24 k := fun k hk => by rw [e2, mu_at, if_neg (by omega)]
    have p2 : X2 24 5 = G ||| sl 1 (nI (tV b n p)) := by rw [e2, mu_at, if_pos ⟨rfl, rfl⟩]
    refine w_num (lo := 0) (hi := 60) (k2.tc t) g2 (by rw [o2 3 (by omega), a3]) (by omega) (by omega) ⟨fun z2 X3 k3 c2 c3 c4 c5 => b1 ⟨vp_in_nI (by omega) (by omega), ?_⟩, fun z2 X3 k3 c6 c7 => b0 ⟨nb0, q.bad (by rw [th_n z2]) z2 (k2.tr k3).c c6 c7⟩⟩
    rw [th_0 z2] at q
    have k23 := k2.tr k3
    intro X4 e4
    rw [c4] at e4
    have x4 : cX X X4 := by rw [e4]; exact k23.c.mu (by omega) (by omega)
    have s4 : X4 24 = X3 24 := by rw [e4, mu_c (by omega)]
    have ex4 : EX X4 12 (up D (tV b n p) (tV b n (tB b n p))) := by
      have := (k23.ex hE).set (i := tV b n p) (n := tV b n (tB b n p)) (by omega) (by omega) (by omega)
      rw [(cxg (tV b n p) (by omega)).1] at this
      rw [e4]
      exact this
    refine w_num (lo := 0) (hi := 9) (x4.tc t) i2 (by rw [s4, c3]) (by omega) (by omega) ⟨fun z3 X5 k5 d2 d3 d4 d5 => b1 ⟨vp_in_nI (by omega) (by omega), ?_⟩, fun z3 X5 k5 d6 d7 => b0 ⟨nb0, q.bad (by rw [th_n z3]) z3 (x4.tr k5.c) d6 d7⟩⟩
    rw [th_0 z3] at q
    intro X6 e6
    rw [d4] at e6
    have x6 : cX X X6 := by rw [e6]; exact (x4.tr k5.c).mu (by omega) (by omega)
    have s6 : X6 24 = X5 24 := by rw [e6, mu_c (by omega)]
    have ex6 : EX X6 12 (gatE D (tV b n p) (tV b n (tB b n p)) (tV b n (tB b n (tB b n p)))) := by
      have := (k5.ex ex4).set (i := 6 + tV b n p) (n := tV b n (tB b n (tB b n p))) (by omega) (by omega) (by omega)
      rw [(cxg (tV b n p) (by omega)).2] at this
      rw [e6]
      exact this
    refine w_semi (x6.tc t) j2 (by rw [s6, d3]) ⟨fun z4 X7 k7 u3 u4 => ⟨nb1, nb1, ?_⟩, fun z4 X7 k7 u6 u7 => ⟨nb0, nb0, q.bad rfl z4 (x6.tr k7.c) u6 u7⟩⟩
    refine q.1 z4 X7 (x6.tr k7.c) (k7.ex ex6) u3 ?_ ?_ ?_
    · rw [u4 5 (by omega), s6, d5 5 (by omega), s4, c5 5 (by omega), p2]
    · rw [u4 6 (by omega), s6, d5 6 (by omega), s4, c5 6 (by omega), o2 6 (by omega), a5 6 (by omega)]
    · rw [u4 7 (by omega), s6, d5 7 (by omega), s4, c5 7 (by omega), o2 7 (by omega), a5 7 (by omega)]
