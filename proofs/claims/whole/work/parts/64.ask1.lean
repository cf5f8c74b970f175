/-! nights that are tried: runs, ahead, glow, caught -/
def sN (f : Nat → Nat) : Nat → Nat
  | 0 => 0
  | n + 1 => sN f n + f n
theorem w_sum {X : Mem} {r nr L : Nat} {f : Nat → Nat} {Q : Int32 → Prop} (h : ∀ i, i < L → X r i = nI (f i)) (hL : L ≤ nr) (hn : nr < 2 ^ 31) (q : Q (nI (sN f L))) : w_X0_sum r nr (nI L) X Q := by
  refine pk_loop (fun m i (_ : Unit) => fu2 (w_X0_sum_4 r nr (nI L) X Q) m (nI (sN f i)) (nI i)) (fun _ _ => True) L 0 () (by omega) trivial (fun m _ _ => ?_) (fun m i _ hi _ ih => ?_)
  · exact pk_le L L (fun _ => q) (fun z => by omega)
  · refine pk_le L i (fun z => by omega) (fun _ => pk_le nr i (fun z => by omega) (fun _ => ⟨vp_in_nI (by omega) hn, ?_⟩))
    rw [nI_clamp (by omega), h i hi, nI_add, nI_1]
    exact ih () trivial
theorem m_light {M : Mem} {p : Nat} {E : Es} {Q : Int32 → Prop} (h : PM M p E) (hp : p + 44 ≤ 264) (q : Q (nI (sN E 6))) : w_X8_lightOn (nI p) M Q := by
  refine pk_loop (fun m i (_ : Unit) => fu2 (w_X8_lightOn_4 (nI p) M Q) m (nI (sN E i)) (nI i)) (fun _ _ => True) 6 0 () (by omega) trivial (fun m _ _ => ?_) (fun m i _ hi _ ih => ?_)
  · exact pk_le 6 6 (fun _ => q) (fun z => by omega)
  · refine pk_le 6 i (fun z => by omega) (fun _ => ?_)
    rw [nI_add, nI_clamp (by omega), h.lg hi, show nI (E i) - nI 30 + 30 = nI (E i) from sac _ _, nI_add, nI_1]
    exact ⟨vp_in_nI (by omega) (by omega), ih () trivial⟩
def runV (E : Es) (n k : Nat) : Int32 := if k = 0 then nI (hT no n E) else if k = 1 then nI (hB no n E) else if k = 2 then nI (hC no n E) else if k = 3 then nI (sN (hE no n E) 6) else ftI (hF no n E)
theorem ft_if {F : Nat} (h : F < 2 ^ 31) : (if nI F = 0 then (-4 : Int32) else nI F) = ftI F := by
  unfold ftI
  by_cases z : F = 0
  · subst z
    rw [if_pos nI_0, if_pos rfl]
  · rw [if_neg (nI_ne0 (by omega) h), if_neg z]
theorem c_runs {X : Mem} {E : Es} {n k : Nat} {Q : Int32 → Mem → Prop} (h : EX X 1 E) (w : WF E) (h9 : E 42 ≤ 999) (hn : n ≤ 60) (hk : k ≤ 4) (q : ∀ X', qX X X' → Q (runV E n k) X') : w_X7_runs (nI n) (nI k) X Q := by
  refine c_io1 (a := 0) (b := 60) (by omega) hn (by omega) (b0 (c_io1 (a := 0) (b := 4) (by omega) hk (by omega) (b0 ?_)))
  refine w_begin h (fun X6 t6 g6 => w_pass t6 w hn (by omega) (fun X8 t8 g8 => ?_))
  have qq := q X8 (g6.tr g8).q
  have hf := hF_le no E n
  obtain ⟨y0, y1, y2, y3, y4, y5⟩ := t8
  rw [y2, y3, y4, y5, ft_if (by omega)]
  unfold runV at qq
  refine pk_eq k 0 (fun z => ?_) (fun z0 => pk_eq k 1 (fun z => ?_) (fun z1 => pk_eq k 2 (fun z => ?_) (fun z2 => pk_eq k 3 (fun z => ?_) (fun z3 => ?_))))
  · rwa [if_pos z] at qq
  · rwa [if_neg z0, if_pos z] at qq
  · rwa [if_neg z0, if_neg z1, if_pos z] at qq
  · rw [if_neg z0, if_neg z1, if_neg z2, if_pos z] at qq
    exact w_sum (L := 6) (fun i hi => y0.lg hi) (by omega) (by omega) qq
  · rwa [if_neg z0, if_neg z1, if_neg z2, if_neg z3] at qq
theorem m_runs {M : Mem} {E : Es} {n k : Nat} {Q : Int32 → Mem → Prop} (h : PM M 0 E) (hTk : M 0 1 = nI (E 44)) (w : WF E) (h9 : E 42 ≤ 999) (hn : n ≤ 60) (hk : k ≤ 4) (q : ∀ M', qM M M' → Q (runV E n k) M') : w_X8_runs (nI n) (nI k) M Q := by
  refine m_in1 (a := 0) (b := 60) (by omega) hn (by omega) (b1 (m_in1 (a := 0) (b := 4) (by omega) hk (by omega) (b1 ?_)))
  refine m_go2 (p := 0) h (by omega) hTk w hn (by omega) (fun M6 t6 f6 g6 => ?_)
  have qq := q M6 g6.u.q
  obtain ⟨y0, y1, y2, y3⟩ := t6
  rw [y2, y3, f6]
  unfold runV at qq
  refine pk_eq k 0 (fun z => ?_) (fun z0 => pk_eq k 1 (fun z => ?_) (fun z1 => pk_eq k 2 (fun z => ?_) (fun z2 => pk_eq k 3 (fun z => ?_) (fun z3 => ?_))))
  · rwa [if_pos z] at qq
  · rwa [if_neg z0, if_pos z] at qq
  · rwa [if_neg z0, if_neg z1, if_pos z] at qq
  · rw [if_neg z0, if_neg z1, if_neg z2, if_pos z] at qq
    exact m_light (p := 176) y0 (by omega) qq
  · rwa [if_neg z0, if_neg z1, if_neg z2, if_neg z3] at qq
theorem op_runs_ok : op_runs Rel0 := by
  intro X M x y ⟨E, hN, hR⟩
  have hN' := hN
  obtain ⟨w, h9, hX, hM, hTk⟩ := hN
  rcases dR x 0 60 with ⟨n, -, hn, rfl⟩ | hno
  · rcases dR y 0 4 with ⟨k, -, hk, rfl⟩ | hno
    · exact c_runs hX w h9 hn hk (fun X' f => m_runs hM hTk w h9 hn hk (fun M' g => ⟨rfl, Rel0.q hN' hR f g⟩))
    · exact c_io1 (a := 0) (b := 60) (by omega) hn (by omega) (b0 (c_io0 (a := 0) (b := 4) hno (by omega) (by omega) (b1 (m_in1 (a := 0) (b := 60) (by omega) hn (by omega) (b1 (m_in0 (a := 0) (b := 4) hno (by omega) (by omega) (b0 ⟨rfl, E, hN', hR⟩)))))))
  · exact c_io0 (a := 0) (b := 60) hno (by omega) (by omega) (b1 (m_in0 (a := 0) (b := 60) hno (by omega) (by omega) (b0 ⟨rfl, E, hN', hR⟩)))
/-- n nights, one of two -/
theorem c_q1 {X : Mem} {n k : Nat} {Q : Int32 → Prop} (hn : n ≤ 60) (hk : k ≤ 1) (q : Q 0) : w_X7_isNoQuestion (nI n) (nI k) X Q := c_io1 (a := 0) (b := 60) (by omega) hn (by omega) (b0 (c_io1 (a := 0) (b := 1) (by omega) hk (by omega) (b0 q)))
theorem c_q0 {X : Mem} {x y : Int32} {Q : Int32 → Prop} (h : (∀ n, 0 ≤ n → n ≤ 60 → x ≠ nI n) ∨ ((∃ n, n ≤ 60 ∧ x = nI n) ∧ ∀ k, 0 ≤ k → k ≤ 1 → y ≠ nI k)) (q : Q 1) : w_X7_isNoQuestion x y X Q := by
  rcases h with h | ⟨⟨n, hn, rfl⟩, h⟩
  · exact c_io0 (a := 0) (b := 60) h (by omega) (by omega) (b1 q)
  · exact c_io1 (a := 0) (b := 60) (by omega) hn (by omega) (b0 (c_io0 (a := 0) (b := 1) h (by omega) (by omega) (b1 q)))
theorem m_q1 {M : Mem} {n k : Nat} {A : Prop} {B : Prop} (hn : n ≤ 60) (hk : k ≤ 1) (q : B) : w_X8_in (nI n).toInt64 0 60 M (fun r3 => (r3 = 0 → A) ∧ (¬ r3 = 0 → w_X8_in (nI k).toInt64 0 1 M (fun r5 => (r5 = 0 → A) ∧ (¬ r5 = 0 → B)))) := m_in1 (a := 0) (b := 60) (by omega) hn (by omega) (b1 (m_in1 (a := 0) (b := 1) (by omega) hk (by omega) (b1 q)))
theorem m_q0 {M : Mem} {x y : Int32} {A : Prop} {B : Prop} (h : (∀ n, 0 ≤ n → n ≤ 60 → x ≠ nI n) ∨ ((∃ n, n ≤ 60 ∧ x = nI n) ∧ ∀ k, 0 ≤ k → k ≤ 1 → y ≠ nI k)) (q : A) : w_X8_in x.toInt64 0 60 M (fun r3 => (r3 = 0 → A) ∧ (¬ r3 = 0 → w_X8_in y.toInt64 0 1 M (fun r5 => (r5 = 0 → A) ∧ (¬ r5 = 0 → B)))) := by
  rcases h with h | ⟨⟨n, hn, rfl⟩, h⟩
  · exact m_in0 (a := 0) (b := 60) h (by omega) (by omega) (b0 q)
  · exact m_in1 (a := 0) (b := 60) (by omega) hn (by omega) (b1 (m_in0 (a := 0) (b := 1) h (by omega) (by omega) (b0 q)))
theorem dQ (x y : Int32) : (∃ n k, n ≤ 60 ∧ k ≤ 1 ∧ x = nI n ∧ y = nI k) ∨ ((∀ n, 0 ≤ n → n ≤ 60 → x ≠ nI n) ∨ ((∃ n, n ≤ 60 ∧ x = nI n) ∧ ∀ k, 0 ≤ k → k ≤ 1 → y ≠ nI k)) := by
  rcases dR x 0 60 with ⟨n, -, hn, rfl⟩ | h
  · rcases dR y 0 1 with ⟨k, -, hk, rfl⟩ | h
    · exact Or.inl ⟨n, k, hn, hk, rfl, rfl⟩
    · exact Or.inr (Or.inr ⟨⟨n, hn, rfl⟩, h⟩)
  · exact Or.inr (Or.inl h)
theorem op_ahead_ok : op_ahead Rel0 := by
  intro X M x y z ⟨E, hN, hR⟩
  have hN' := hN
  obtain ⟨w, h9, hX, hM, hTk⟩ := hN
  have h5 := w.2.2.2.2.1
  unfold w_X7_ahead
  rcases dT x (E 44) with ⟨t, ht, rfl⟩ | hno
  · refine c_tk1 hX w ht (b0 ?_)
    rcases dQ y z with ⟨n, k, hn, hk, rfl, rfl⟩ | hno
    · refine c_q1 hn hk (b0 ?_)
      refine w_begin hX (fun X6 t6 g6 => w_pass t6 w hn (by omega) (fun X8 t8 g8 => ?_))
      obtain ⟨a, b, c, d⟩ := hE_fix no E w n (by omega)
      have tr := t8.1.tr a (t := t) (by omega)
      have ml : ∀ r, r = nI (hE no n E (22 + 5 * k + t)) → w_X8_ahead (nI t) (nI n) (nI k) M (fun r1 M1 => r = r1 ∧ Rel0 X8 M1) := by
        intro r hr
        refine m_tk1 hTk w ht (b1 (m_q1 hn hk ?_))
        refine m_go2 (p := 0) hM (by omega) hTk w hn (by omega) (fun M6 u6 f6 k6 => ?_)
        rw [show (5 : Int32) * nI k = nI (5 * k) from nIm 5 k, show (198 : Int32) + nI (5 * k) = nI (198 + 5 * k) from nI_add 198 _, nI_add, nI_clamp (by omega)]
        refine ⟨vp_in_nI (by omega) (by omega), ?_, Rel0.q hN' hR (g6.tr g8).q k6.u.q⟩
        rw [hr]
        have := u6.1.pl (i := 22 + 5 * k + t) (by omega) (by omega) (Or.inr (Or.inl ⟨by omega, by omega, by omega⟩))
        rw [← this]
        congr 1
        omega
      rw [nI_clamp (by omega)]
      refine pk_eq k 0 (fun q => ⟨vp_in_nI (by omega) (by omega), ml _ ?_⟩) (fun q => ⟨vp_in_nI (by omega) (by omega), ml _ ?_⟩)
      · rw [show X8 17 t = _ from tr.2.2.1, q]
      · rw [show X8 18 t = _ from tr.2.2.2]
        congr 2
        omega
    · exact c_q0 hno (b1 (m_tk1 hTk w ht (b1 (m_q0 hno ⟨rfl, E, hN', hR⟩))))
  · exact c_tk0 hX w hno (b1 (m_tk0 hTk w hno (b0 ⟨rfl, E, hN', hR⟩)))
theorem op_glow_ok : op_glow Rel0 := by
  intro X M x y ⟨E, hN, hR⟩
  have hN' := hN
  obtain ⟨w, h9, hX, hM, hTk⟩ := hN
  unfold w_X7_glow w_X8_glow
  rcases dR x 0 5 with ⟨g, -, hg, rfl⟩ | hno
  · refine c_gt1 hg (b0 ?_)
    rcases dR y 0 60 with ⟨n, -, hn, rfl⟩ | hno
    · refine c_io1 (a := 0) (b := 60) (by omega) hn (by omega) (b0 ?_)
      refine w_begin hX (fun X6 t6 g6 => w_pass t6 w hn (by omega) (fun X8 t8 g8 => ?_))
      rw [nI_clamp (by omega)]
      refine ⟨vp_in_nI (by omega) (by omega), ?_⟩
      refine m_gt1 hg (b1 (m_in1 (a := 0) (b := 60) (by omega) hn (by omega) (b1 ?_)))
      refine m_go2 (p := 0) hM (by omega) hTk w hn (by omega) (fun M6 u6 f6 k6 => ?_)
      rw [show (176 : Int32) + nI g = nI (176 + g) from nI_add 176 _, nI_clamp (by omega)]
      refine ⟨vp_in_nI (by omega) (by omega), ?_, Rel0.q hN' hR (g6.tr g8).q k6.u.q⟩
      rw [u6.1.lg (by omega), show X8 13 g = _ from t8.1.lg (by omega)]
      exact (sac _ _).symm
    · exact c_io0 (a := 0) (b := 60) hno (by omega) (by omega) (b1 (m_gt1 hg (b1 (m_in0 (a := 0) (b := 60) hno (by omega) (by omega) (b0 ⟨rfl, E, hN', hR⟩)))))
  · exact c_gt0 hno (b1 (m_gt0 hno (b0 ⟨rfl, E, hN', hR⟩)))
/-- whether one is among those caught -/
abbrev isB (b t : Nat) : Prop := ((sr (nI b) (nI t)) &&& 1) = 1
theorem w_was {X : Mem} {b t : Nat} {Q : Int32 → Prop} (h : X 11 4 = nI b) (q : (isB b t → Q 1) ∧ (¬ isB b t → Q 0)) : w_X6_wasCaught (nI t) X Q := by
  unfold w_X6_wasCaught
  rw [h]
  by_cases z : isB b t
  · rw [if_pos z]
    exact ⟨nb1, q.1 z⟩
  · rw [if_neg z]
    exact ⟨nb0, q.2 z⟩
/-- the first night of n behind i by which one is caught -/
def ctF (E : Es) (t : Nat) : Nat → Nat → Int32
  | 0, _ => -4
  | m + 1, i => if isB (hB no (i + 1) E) t then nI (i + 1) else ctF E t m (i + 1)
theorem op_caught_ok : op_caught Rel0 := by
  intro X M x ⟨E, hN, hR⟩
  have hN' := hN
  obtain ⟨w, h9, hX, hM, hTk⟩ := hN
  unfold w_X7_caught w_X8_caught
  rcases dT x (E 44) with ⟨t, ht, rfl⟩ | hno
  · refine c_tk1 hX w ht (b0 ?_)
    refine w_begin hX (fun X6 t6 g6 => ?_)
    have mI : ∀ (Q : Int32 → Mem → Prop), (∀ M', qM M M' → Q (ctF E t 60 0) M') → ∀ m M', m ≤ 60 → TM M' no (60 - m) E → gM M M' → ctF E t m (60 - m) = ctF E t 60 0 → fu2 (w_X8_caught_24 (nI t) Q) (m + 1) (nI (60 - m + 1)) M' := by
      intro Q hQ m
      induction m with
      | zero =>
        intro M' _ hM' g e
        exact pk_lt 60 61 (fun _ => by rw [show (-4 : Int32) = ctF E t 60 0 from e]; exact hQ M' g.u.q) (fun z => by omega)
      | succ m ih =>
        intro M' hm hM' g e
        show w_X8_caught_24 (nI t) Q (fu2 (w_X8_caught_24 (nI t) Q) (m + 1)) (nI (60 - (m + 1) + 1)) M'
        generalize fu2 (w_X8_caught_24 (nI t) Q) (m + 1) = K at ih ⊢
        refine pk_lt 60 (60 - (m + 1) + 1) (fun z => by omega) (fun _ => ?_)
        refine m_step hM' (by rw [g.tk]; exact hTk) w (by omega) ⟨fun _ => rfl, fun _ => rfl⟩ (fun M9 t9 f9 => ?_)
        rw [t9.2.2.1]
        have e' : (if isB (hB no (60 - (m + 1) + 1) E) t then nI (60 - (m + 1) + 1) else ctF E t m (60 - (m + 1) + 1)) = ctF E t 60 0 := e
        have gg : gM M M9 := g.tr f9.g
        refine ⟨fun z => ?_, fun z => ?_⟩
        · rw [if_pos (show isB _ _ from z)] at e'
          rw [e']
          exact hQ M9 gg.u.q
        · rw [if_neg (show ¬ isB _ _ from z)] at e'
          rw [show 60 - (m + 1) + 1 = 60 - m by omega] at e' t9
          rw [nI_1, show 60 - (m + 1) + 1 + 1 = 60 - m + 1 by omega]
          exact ih M9 (by omega) t9 gg e'
    have cI : ∀ (Q : Int32 → Mem → Prop), (∀ X', qX X X' → Q (ctF E t 60 0) X') → ∀ m X', m ≤ 60 → TXn X' no (60 - m) E → gX X X' → ctF E t m (60 - m) = ctF E t 60 0 → fu2 (w_X7_caught_23 (nI t) Q) (m + 1) (nI (60 - m + 1)) X' := by
      intro Q hQ m
      induction m with
      | zero =>
        intro M' _ hM' g e
        exact pk_lt 60 61 (fun _ => by rw [show (-4 : Int32) = ctF E t 60 0 from e]; exact hQ M' g.q) (fun z => by omega)
      | succ m ih =>
        intro M' hm hM' g e
        show w_X7_caught_23 (nI t) Q (fu2 (w_X7_caught_23 (nI t) Q) (m + 1)) (nI (60 - (m + 1) + 1)) M'
        generalize fu2 (w_X7_caught_23 (nI t) Q) (m + 1) = K at ih ⊢
        refine pk_lt 60 (60 - (m + 1) + 1) (fun z => by omega) (fun _ => ?_)
        refine w_step hM' w (by omega) ⟨fun _ => rfl, fun _ => rfl⟩ (fun M9 t9 f9 => ?_)
        have e' : (if isB (hB no (60 - (m + 1) + 1) E) t then nI (60 - (m + 1) + 1) else ctF E t m (60 - (m + 1) + 1)) = ctF E t 60 0 := e
        have gg : gX X M9 := g.tr f9
        refine w_was t9.2.2.2.2.1 ⟨fun z => b1 ?_, fun z => b0 ?_⟩
        · rw [if_pos z] at e'
          rw [e']
          exact hQ M9 gg.q
        · rw [if_neg z] at e'
          rw [show 60 - (m + 1) + 1 = 60 - m by omega] at e' t9
          rw [nI_1, show 60 - (m + 1) + 1 + 1 = 60 - m + 1 by omega]
          exact ih M9 (by omega) t9 gg e'
    refine ⟨61, cI _ (fun X' f => ?_) 60 X6 (by omega) t6 g6 rfl⟩
    refine m_tk1 hTk w ht (b1 (m_begin (p := 0) hM (by omega) (fun M6 u6 k6 => ⟨61, mI _ (fun M' g => ⟨rfl, Rel0.q hN' hR f g⟩) 60 M6 (by omega) (u6 no) k6 rfl⟩)))
  · exact c_tk0 hX w hno (b1 (m_tk0 hTk w hno (b0 ⟨rfl, E, hN', hR⟩)))
