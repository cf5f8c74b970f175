/-! two change gates; a keeper's round; a keeper more; an ear -/
def swE (E : Es) (a b : Nat) : Es := up (up E (17 + a) (E (17 + b))) (17 + b) (E (17 + a))
def swS (f : Nat → Nat → Nat) (a b : Nat) (p : Int32 × Int32) : Int32 × Int32 := (if nI (f a b) ≤ p.2 then p.1 else (10 * nI a) + nI b, if nI (f a b) ≤ p.2 then p.2 else nI (f a b))
def swI (f : Nat → Nat → Nat) (a : Nat) (p : Int32 × Int32) : Nat → Int32 × Int32
  | 0 => p
  | j + 1 => swS f a (a + 1 + j) (swI f a p j)
def swO (f : Nat → Nat → Nat) (T : Nat) (p : Int32 × Int32) : Nat → Int32 × Int32
  | 0 => p
  | a + 1 => swI f a (swO f T p a) (T - (a + 1))
def swV (f : Nat → Nat → Nat) (T z : Nat) (k : Int32) : Int32 := if k = 0 then (swO f T (-4, nI z) T).1 else (if (swO f T (-4, nI z) T).1 = (-4) then (swO f T (-4, nI z) T).1 else (swO f T (-4, nI z) T).2)
theorem swE_WF {E : Es} (w : WF E) {a b : Nat} (ha : a < E 44) (hb : b < E 44) : WF (swE E a b) ∧ swE E a b 42 = E 42 ∧ swE E a b 44 = E 44 := by
  have h5 := w.2.2.2.2.1
  have h1 := (w.2.1 a ha).2.1
  have h2 := (w.2.1 b hb).2.1
  refine ⟨up_WF (up_WF w (by omega) (by omega) (by omega)) (by omega) (by omega) (by omega), ?_, ?_⟩
  · unfold swE
    rw [up_n (by omega), up_n (by omega)]
  · unfold swE
    rw [up_n (by omega), up_n (by omega)]
def swF (E : Es) (n a b : Nat) : Nat := hT no n (swE E a b)
theorem c_swap {X : Mem} {E : Es} {n : Nat} {y : Int32} {Q : Int32 → Mem → Prop} (h : EX X 1 E) (w : WF E) (h9 : E 42 ≤ 999) (hn : n ≤ 60) (q : ∀ X', qX X X' → Q (swV (swF E n) (E 44) (hT no n E) y) X') (X6 : Mem) (g6 : gX X X6) (t6 : X6 11 2 = nI (hT no n E)) : ∃ m, fu4 (w_X7_swap_44 (nI n) y Q) m (-4) (X6 11 2) 0 X6 := by
  have h5 := w.2.2.2.2.1
  rw [t6]
  refine pk_loop (fun m a N => fu4 (w_X7_swap_44 (nI n) y Q) m (swO (swF E n) (E 44) (-4, nI (hT no n E)) a).1 (swO (swF E n) (E 44) (-4, nI (hT no n E)) a).2 (nI a) N) (fun a N => gX X N) (E 44) 0 X6 (by omega) g6 (fun m N g => ?_) (fun m a N ha g ih => ?_)
  · show w_X7_swap_44 _ _ _ _ _ _ _ _
    unfold w_X7_swap_44
    rw [(g.ex h).tk]
    exact pk_le (E 44) (E 44) (fun _ => q N g.q) (fun z => by omega)
  · show w_X7_swap_44 (nI n) y Q (fu4 (w_X7_swap_44 (nI n) y Q) m) _ _ _ _
    generalize fu4 (w_X7_swap_44 (nI n) y Q) m = K at ih ⊢
    unfold w_X7_swap_44
    rw [(g.ex h).tk]
    refine pk_le (E 44) a (fun z => by omega) (fun _ => ?_)
    rw [nI_1]
    refine pk_loop (fun m j N => fu4 (w_X7_swap_62 (nI n) y (nI a) K Q) m (swI (swF E n) a (swO (swF E n) (E 44) (-4, nI (hT no n E)) a) j).1 (swI (swF E n) a (swO (swF E n) (E 44) (-4, nI (hT no n E)) a) j).2 (nI (a + 1 + j)) N) (fun j N => gX X N) (E 44 - (a + 1)) 0 N (by omega) g (fun m N g => ?_) (fun m j N hj g ih2 => ?_)
    · show w_X7_swap_62 _ _ _ _ _ _ _ _ _ _
      unfold w_X7_swap_62
      rw [(g.ex h).tk]
      refine pk_le (E 44) (a + 1 + (E 44 - (a + 1))) (fun _ => ?_) (fun z => by omega)
      unfold w_X7_swap_175
      rw [nI_1]
      exact ih N g
    · show w_X7_swap_62 (nI n) y (nI a) K Q (fu4 (w_X7_swap_62 (nI n) y (nI a) K Q) m) _ _ _ _
      generalize fu4 (w_X7_swap_62 (nI n) y (nI a) K Q) m = K2 at ih2 ⊢
      unfold w_X7_swap_62
      rw [(g.ex h).tk]
      refine pk_le (E 44) (a + 1 + j) (fun z => by omega) (fun _ => ?_)
      refine w_begin (g.ex h) (fun X12 t12 g12 => ?_)
      have b12 := ((g.tr g12).ex h).t1 w (t := a + 1 + j) (by omega)
      rw [nI_clamp (by omega), nI_clamp (by omega), b12.2.1]
      refine ⟨vp_in_nI (by omega) (by omega), vp_in_nI (by omega) (by omega), fun X13 e13 => ?_⟩
      have a13 : X13 5 a = nI (E (17 + a)) := by
        rw [e13, mu_c (by omega)]
        exact (((g.tr g12).ex h).t1 w (t := a) (by omega)).2.1
      rw [a13]
      refine ⟨vp_in_nI (by omega) (by omega), vp_in_nI (by omega) (by omega), fun X14 e14 => ?_⟩
      have t14 : TX X14 (swE E a (a + 1 + j)) 0 0 0 0 0 := by
        rw [e14, e13]
        exact (t12.set (cxt a (by omega)).2.1 (by omega) (by omega) (by omega)).set (cxt (a + 1 + j) (by omega)).2.1 (by omega) (by omega) (by omega)
      have g14 : gX X X14 := by
        rw [e14, e13]
        exact ((g.tr g12).mu (by omega) (by omega)).mu (by omega) (by omega)
      obtain ⟨w5, n5, m5⟩ := swE_WF w (a := a) (b := a + 1 + j) (by omega) (by omega)
      refine w_pass t14 w5 hn (by omega) (fun X16 t16 g16 => ?_)
      rw [t16.2.2.1, nI_1]
      exact ih2 X16 (g14.tr g16)
theorem m_swap {M : Mem} {E : Es} {n : Nat} {y : Int32} {Q : Int32 → Mem → Prop} (h : PM M 0 E) (hTk : M 0 1 = nI (E 44)) (w : WF E) (h9 : E 42 ≤ 999) (hn : n ≤ 60) (q : ∀ M', qM M M' → Q (swV (swF E n) (E 44) (hT no n E) y) M') (M6 : Mem) (g6 : uM M M6) : ∃ m, fu4 (w_X8_swap_38 (nI n) y Q) m (nI (hT no n E)) (-4) 0 M6 := by
  have h5 := w.2.2.2.2.1
  refine pk_loop (fun m a N => fu4 (w_X8_swap_38 (nI n) y Q) m (swO (swF E n) (E 44) (-4, nI (hT no n E)) a).2 (swO (swF E n) (E 44) (-4, nI (hT no n E)) a).1 (nI a) N) (fun a N => uM M N) (E 44) 0 M6 (by omega) g6 (fun m N g => ?_) (fun m a N ha g ih => ?_)
  · show w_X8_swap_38 _ _ _ _ _ _ _ _
    unfold w_X8_swap_38
    rw [g.tk, hTk]
    refine pk_le (E 44) (E 44) (fun _ => ?_) (fun z => by omega)
    unfold w_X8_swap_168
    have qq := q N g.q
    unfold swV at qq
    by_cases z : y = 0
    · rw [if_pos z] at qq
      by_cases z2 : (swO (swF E n) (E 44) (-4, nI (hT no n E)) (E 44)).1 = -4
      · rw [if_pos z2]
        exact qq
      · rw [if_neg z2, if_pos z]
        exact qq
    · rw [if_neg z] at qq
      by_cases z2 : (swO (swF E n) (E 44) (-4, nI (hT no n E)) (E 44)).1 = -4
      · rw [if_pos z2] at qq ⊢
        exact qq
      · rw [if_neg z2] at qq ⊢
        rw [if_neg z]
        exact qq
  · show w_X8_swap_38 (nI n) y Q (fu4 (w_X8_swap_38 (nI n) y Q) m) _ _ _ _
    generalize fu4 (w_X8_swap_38 (nI n) y Q) m = K at ih ⊢
    unfold w_X8_swap_38
    rw [g.tk, hTk]
    refine pk_le (E 44) a (fun z => by omega) (fun _ => ?_)
    rw [nI_1]
    refine pk_loop (fun m j N => fu4 (w_X8_swap_53 (nI n) y (nI a) K Q) m (swI (swF E n) a (swO (swF E n) (E 44) (-4, nI (hT no n E)) a) j).2 (swI (swF E n) a (swO (swF E n) (E 44) (-4, nI (hT no n E)) a) j).1 (nI (a + 1 + j)) N) (fun j N => uM M N) (E 44 - (a + 1)) 0 N (by omega) g (fun m N g => ?_) (fun m j N hj g ih2 => ?_)
    · show w_X8_swap_53 _ _ _ _ _ _ _ _ _ _
      unfold w_X8_swap_53
      rw [g.tk, hTk]
      refine pk_le (E 44) (a + 1 + (E 44 - (a + 1))) (fun _ => ?_) (fun z => by omega)
      unfold w_X8_swap_162
      rw [nI_1]
      exact ih N g
    · show w_X8_swap_53 (nI n) y (nI a) K Q (fu4 (w_X8_swap_53 (nI n) y (nI a) K Q) m) _ _ _ _
      generalize fu4 (w_X8_swap_53 (nI n) y (nI a) K Q) m = K2 at ih2 ⊢
      unfold w_X8_swap_53
      rw [g.tk, hTk]
      refine pk_le (E 44) (a + 1 + j) (fun z => by omega) (fun _ => ?_)
      refine m_other (g.pm h) (fun M12 p12 u12 => ?_)
      rw [show (17 : Int32) + nI (a + 1 + j) = nI (17 + (a + 1 + j)) from nI_add 17 _, show (237 : Int32) + nI a = nI (220 + (17 + a)) from (nI_add 237 a).trans (by congr 1; omega), show (17 : Int32) + nI a = nI (17 + a) from nI_add 17 _, show (237 : Int32) + nI (a + 1 + j) = nI (220 + (17 + (a + 1 + j))) from (nI_add 237 _).trans (by congr 1; omega), nI_clamp (by omega), nI_clamp (by omega), nI_clamp (by omega), nI_clamp (by omega)]
      have b12 := ((g.tr u12).pm h).t0 w (t := a + 1 + j) (by omega)
      rw [b12.2.1]
      refine ⟨vp_in_nI (by omega) (by omega), vp_in_nI (by omega) (by omega), fun M13 e13 => ?_⟩
      have a13 : M13 1 (17 + a) = nI (E (17 + a)) := by
        rw [e13, mu_at, if_neg (by omega)]
        exact (((g.tr u12).pm h).t0 w (t := a) (by omega)).2.1
      rw [a13]
      refine ⟨vp_in_nI (by omega) (by omega), vp_in_nI (by omega) (by omega), fun M14 e14 => ?_⟩
      have p14 : PM M14 220 (swE E a (a + 1 + j)) := by
        rw [e14, e13]
        exact (p12.set0 (by omega) (by omega) (by omega)).set0 (by omega) (by omega) (by omega)
      have u14 : uM M M14 := by
        rw [e14, e13]
        exact ((g.tr u12).mu (by omega)).mu (by omega)
      obtain ⟨w5, n5, m5⟩ := swE_WF w (a := a) (b := a + 1 + j) (by omega) (by omega)
      refine m_go2 (p := 220) p14 (by omega) (by rw [u14.tk, m5]; exact hTk) w5 hn (by omega) (fun M16 t16 f16 g16 => ?_)
      rw [nI_1]
      exact ih2 M16 (u14.tr g16.u)
theorem op_swap_ok : op_swap Rel0 := by
  intro X M x y ⟨E, hN, hR⟩
  have hN' := hN
  obtain ⟨w, h9, hX, hM, hTk⟩ := hN
  unfold w_X7_swap
  rcases dQ x y with ⟨n, k, hn, hk, rfl, rfl⟩ | hno
  · refine c_q1 hn hk (b0 ?_)
    refine w_begin hX (fun X6 t6 g6 => w_pass t6 w hn (by omega) (fun X8 t8 g8 => ?_))
    refine c_swap hX w h9 hn (fun X' f => ?_) X8 (g6.tr g8) t8.2.2.1
    refine m_q1 hn hk ?_
    refine m_go2 (p := 0) hM (by omega) hTk w hn (by omega) (fun M6 t6 f6 k6 => ?_)
    exact m_swap hM hTk w h9 hn (fun M' g => ⟨rfl, Rel0.q hN' hR f g⟩) M6 k6.u
  · exact c_q0 hno (b1 (m_q0 hno ⟨rfl, E, hN', hR⟩))
