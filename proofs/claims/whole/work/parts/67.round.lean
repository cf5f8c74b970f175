def rdE (E : Es) (k s st : Nat) : Es := up (up E (32 + k) s) (35 + k) st
theorem rdE_WF {E : Es} (w : WF E) {k s st : Nat} (hk : k < E 41) (hs : s < 6) (hst : st ≤ 5) : WF (rdE E k s st) ∧ rdE E k s st 42 = E 42 ∧ rdE E k s st 44 = E 44 := by
  have h3 := w.2.2.2.1
  refine ⟨up_WF (up_WF w (by omega) (by omega) (by omega)) (by omega) (by omega) (by omega), ?_, ?_⟩
  · unfold rdE
    rw [up_n (by omega), up_n (by omega)]
  · unfold rdE
    rw [up_n (by omega), up_n (by omega)]
def rdF (E : Es) (k n c : Nat) : Nat := hC no n (rdE E k (c / 6) (c % 6))
def rw' (f : Nat → Nat) : Nat → Int32
  | 0 => 0
  | c + 1 => if nI (f c) ≤ bm f c then rw' f c else (10 * nI (c / 6)) + nI (c % 6)
def rdV (f : Nat → Nat) (k : Int32) : Int32 := if k = 0 then rw' f 36 else bm f 36
theorem c_round {X : Mem} {E : Es} {k n : Nat} {y : Int32} {Q : Int32 → Mem → Prop} (h : EX X 1 E) (w : WF E) (h9 : E 42 ≤ 999) (hn : n ≤ 60) (hk : k < E 41) (q : ∀ X', qX X X' → Q (rdV (rdF E k n) y) X') : ∃ m, fu4 (w_X7_round_27 (nI k) (nI n) y Q) m 0 (-1) 0 X := by
  have h3 := w.2.2.2.1
  refine pk_loop (fun m s N => fu4 (w_X7_round_27 (nI k) (nI n) y Q) m (rw' (rdF E k n) (6 * s)) (bm (rdF E k n) (6 * s)) (nI s) N) (fun a N => gX X N) 6 0 X (by omega) gX.rf (fun m N g => ?_) (fun m s N hs g ih => ?_)
  · exact pk_le 6 6 (fun _ => q N g.q) (fun z => by omega)
  · show w_X7_round_27 (nI k) (nI n) y Q (fu4 (w_X7_round_27 (nI k) (nI n) y Q) m) _ _ _ _
    generalize fu4 (w_X7_round_27 (nI k) (nI n) y Q) m = K at ih ⊢
    refine pk_le 6 s (fun z => by omega) (fun _ => ?_)
    refine pk_loop (fun m j N => fu4 (w_X7_round_37 (nI k) (nI n) y (nI s) K Q) m (rw' (rdF E k n) (6 * s + j)) (bm (rdF E k n) (6 * s + j)) (nI j) N) (fun j N => gX X N) 6 0 N (by omega) g (fun m N g => ?_) (fun m j N hj g ih2 => ?_)
    · refine pk_lt 5 6 (fun _ => ?_) (fun z => by omega)
      unfold w_X7_round_127
      rw [nI_1]
      exact ih N g
    · show w_X7_round_37 (nI k) (nI n) y (nI s) K Q (fu4 (w_X7_round_37 (nI k) (nI n) y (nI s) K Q) m) _ _ _ _
      generalize fu4 (w_X7_round_37 (nI k) (nI n) y (nI s) K Q) m = K2 at ih2 ⊢
      refine pk_lt 5 j (fun z => by omega) (fun _ => ?_)
      refine w_begin (g.ex h) (fun X9 t9 g9 => ?_)
      rw [nI_clamp (by omega)]
      refine ⟨vp_in_nI (by omega) (by omega), fun X10 e10 => ⟨vp_in_nI (by omega) (by omega), fun X11 e11 => ?_⟩⟩
      have t11 : TX X11 (rdE E k s j) 0 0 0 0 0 := by
        rw [e11, e10]
        exact (t9.set (cxk k (by omega)).1 (by omega) (by omega) (by omega)).set (cxk k (by omega)).2.1 (by omega) (by omega) (by omega)
      have g11 : gX X X11 := by
        rw [e11, e10]
        exact ((g.tr g9).mu (by omega) (by omega)).mu (by omega) (by omega)
      obtain ⟨w5, n5, m5⟩ := rdE_WF w (s := s) (st := j) hk hs (by omega)
      refine w_pass t11 w5 hn (by omega) (fun X13 t13 g13 => ?_)
      have d1 : (6 * s + j) / 6 = s := by omega
      have d2 : (6 * s + j) % 6 = j := by omega
      have ff : rdF E k n (6 * s + j) = hC no n (rdE E k s j) := by
        unfold rdF
        rw [d1, d2]
      have := ih2 X13 (g11.tr g13)
      rw [show rw' (rdF E k n) (6 * s + (j + 1)) = (if nI (rdF E k n (6 * s + j)) ≤ bm (rdF E k n) (6 * s + j) then rw' (rdF E k n) (6 * s + j) else (10 * nI ((6 * s + j) / 6)) + nI ((6 * s + j) % 6)) from rfl, show bm (rdF E k n) (6 * s + (j + 1)) = (if nI (rdF E k n (6 * s + j)) ≤ bm (rdF E k n) (6 * s + j) then bm (rdF E k n) (6 * s + j) else nI (rdF E k n (6 * s + j))) from rfl, ff, d1, d2] at this
      rw [t13.2.2.2.1, nI_1]
      exact this
theorem pk6 {c : Nat} (h : c < 2 ^ 31) : nI c / 6 = nI (c / 6) := pk_div (d := 6) h (by omega) (by omega)
theorem m_round {M : Mem} {E : Es} {k n : Nat} {y : Int32} {Q : Int32 → Mem → Prop} (h : PM M 0 E) (hTk : M 0 1 = nI (E 44)) (w : WF E) (h9 : E 42 ≤ 999) (hn : n ≤ 60) (hk : k < E 41) (q : ∀ M', qM M M' → Q (rdV (rdF E k n) y) M') : ∃ m, fu4 (w_X8_round_41 (nI k) (nI n) y Q) m (-1) 0 0 M := by
  have h3 := w.2.2.2.1
  refine pk_loop (fun m c N => fu4 (w_X8_round_41 (nI k) (nI n) y Q) m (bm (rdF E k n) c) (rw' (rdF E k n) c) (nI c) N) (fun a N => uM M N) 36 0 M (by omega) uM.rf (fun m N g => ?_) (fun m c N hc g ih => ?_)
  · exact pk_le 36 36 (fun _ => q N g.q) (fun z => by omega)
  · show w_X8_round_41 (nI k) (nI n) y Q (fu4 (w_X8_round_41 (nI k) (nI n) y Q) m) _ _ _ _
    generalize fu4 (w_X8_round_41 (nI k) (nI n) y Q) m = K at ih ⊢
    refine pk_le 36 c (fun z => by omega) (fun _ => ?_)
    refine m_other (g.pm h) (fun M10 p10 u10 => ?_)
    rw [pk6 (by omega), irm6 (by omega), show (252 : Int32) + nI k = nI (220 + (32 + k)) from (nI_add 252 k).trans (by congr 1; omega), show (255 : Int32) + nI k = nI (220 + (35 + k)) from (nI_add 255 k).trans (by congr 1; omega), nI_clamp (by omega), nI_clamp (by omega)]
    refine ⟨vp_in_nI (by omega) (by omega), fun M11 e11 => ⟨vp_in_nI (by omega) (by omega), fun M12 e12 => ?_⟩⟩
    have p12 : PM M12 220 (rdE E k (c / 6) (c % 6)) := by
      rw [e12, e11]
      exact (p10.set0 (by omega) (by omega) (by omega)).set0 (by omega) (by omega) (by omega)
    have u12 : uM M M12 := by
      rw [e12, e11]
      exact ((g.tr u10).mu (by omega)).mu (by omega)
    obtain ⟨w5, n5, m5⟩ := rdE_WF w (s := c / 6) (st := c % 6) hk (by omega) (by omega)
    refine m_go2 (p := 220) p12 (by omega) (by rw [u12.tk, m5]; exact hTk) w5 hn (by omega) (fun M14 t14 f14 g14 => ?_)
    rw [show M14 0 18 = nI (rdF E k n c) from t14.2.2.2]
    have := ih M14 (u12.tr g14.u)
    refine ⟨fun z => ?_, fun z => ?_⟩
    · unfold w_X8_round_123
      rw [show M14 0 18 = nI (rdF E k n c) from t14.2.2.2, nI_1, if_pos z]
      rw [show rw' (rdF E k n) (c + 1) = rw' (rdF E k n) c from if_pos z, show bm (rdF E k n) (c + 1) = bm (rdF E k n) c from if_pos z] at this
      exact this
    · unfold w_X8_round_123
      rw [show M14 0 18 = nI (rdF E k n c) from t14.2.2.2, nI_1, if_neg z]
      rw [show rw' (rdF E k n) (c + 1) = (10 * nI (c / 6)) + nI (c % 6) from if_neg z, show bm (rdF E k n) (c + 1) = nI (rdF E k n c) from if_neg z] at this
      exact this
theorem op_round_ok : op_round Rel0 := by
  intro X M x y z ⟨E, hN, hR⟩
  have hN' := hN
  obtain ⟨w, h9, hX, hM, hTk⟩ := hN
  unfold w_X7_round
  rcases dT x (E 41) with ⟨t, ht, rfl⟩ | hno
  · refine c_kp1 hX w ht (b0 ?_)
    rcases dQ y z with ⟨n, k, hn, hk, rfl, rfl⟩ | hno
    · refine c_q1 hn hk (b0 ?_)
      exact c_round hX w h9 hn ht (fun X' f => m_kp1 hM w ht (b1 (m_q1 hn hk (m_round hM hTk w h9 hn ht (fun M' g => ⟨rfl, Rel0.q hN' hR f g⟩)))))
    · exact c_q0 hno (b1 (m_kp1 hM w ht (b1 (m_q0 hno ⟨rfl, E, hN', hR⟩))))
  · exact c_kp0 hX w hno (b1 (m_kp0 hM w hno (b0 ⟨rfl, E, hN', hR⟩)))
/-! a keeper more -/
def pl (f : Nat → Nat) : Nat → Int32
  | 0 => 1000000
  | g + 1 => if pl f g ≤ nI (f g) then pl f g else nI (f g)
def pw (f : Nat → Nat) : Nat → Int32
  | 0 => 0
  | g + 1 => if pl f g ≤ nI (f g) then pw f g else nI g
theorem pw_nI (f : Nat → Nat) : ∀ g, ∃ j, j ≤ g ∧ pw f g = nI j
  | 0 => ⟨0, by omega, rfl⟩
  | g + 1 => by
    obtain ⟨j, hj, e⟩ := pw_nI f g
    show ∃ j, j ≤ g + 1 ∧ (if pl f g ≤ nI (f g) then pw f g else nI g) = nI j
    split
    · exact ⟨j, by omega, e⟩
    · exact ⟨g, by omega, rfl⟩
def poV (f : Nat → Nat) (k : Int32) : Int32 := if k = 0 then pw f 6 else pl f 6
def poF (E : Es) (e n g : Nat) : Nat := hT no n (hirE E g 0 e)
theorem c_post {X : Mem} {E : Es} {e n : Nat} {y : Int32} {Q : Int32 → Mem → Prop} (h : EX X 1 E) (w : WF E) (h9 : E 42 ≤ 999) (hn : n ≤ 60) (hk : E 41 < 3) (he1 : 1 ≤ e) (he : e ≤ 9) (q : ∀ X', qX X X' → Q (poV (poF E e n) y) X') : ∃ m, fu4 (w_X7_post_44 (nI e) (nI n) y Q) m (-4) 0 0 X := by
  refine pk_loop (fun m g N => fu4 (w_X7_post_44 (nI e) (nI n) y Q) m (if g = 0 then -4 else pw (poF E e n) g) (if g = 0 then 0 else pl (poF E e n) g) (nI g) N) (fun a N => gX X N) 6 0 X (by omega) gX.rf (fun m N g => ?_) (fun m g N hg gg ih => ?_)
  · exact pk_le 6 6 (fun _ => q N g.q) (fun z => by omega)
  · show w_X7_post_44 (nI e) (nI n) y Q (fu4 (w_X7_post_44 (nI e) (nI n) y Q) m) _ _ _ _
    generalize fu4 (w_X7_post_44 (nI e) (nI n) y Q) m = K at ih ⊢
    refine pk_le 6 g (fun z => by omega) (fun _ => ?_)
    refine w_begin (gg.ex h) (fun X9 t9 g9 => ?_)
    refine w_addK (o := 12) (st := 0) t9.1 hk (fun X11 x11 f11 => ?_)
    have c11 : X11 11 = X9 11 := f11 11 (by omega)
    have t11 : TX X11 (hirE E g 0 e) 0 0 0 0 0 := ⟨x11, by rw [c11]; exact t9.2.1, by rw [c11]; exact t9.2.2.1, by rw [c11]; exact t9.2.2.2.1, by rw [c11]; exact t9.2.2.2.2.1, by rw [c11]; exact t9.2.2.2.2.2⟩
    have g11 : gX X X11 := (gg.tr g9).tr (fun a ha => f11 a (by omega))
    have w5 := hirE_WF (s := g) (st := 0) (e := e) w hk hg (by omega) he1 he
    have n5 := hirE_42 (E := E) (s := g) (st := 0) (e := e) hk
    refine w_pass t11 w5 hn (by omega) (fun X13 t13 g13 => ?_)
    have ht := hT_le no _ w5 n (by omega)
    rw [show X13 11 2 = nI (poF E e n g) from t13.2.2.1, nI_1]
    have hf : poF E e n g ≤ 3600 := by
      show hT no n (hirE E g 0 e) ≤ 3600
      omega
    have := ih X13 (g11.tr g13)
    rw [if_neg (by omega), if_neg (by omega)] at this
    by_cases z : g = 0
    · subst z
      rw [if_pos rfl, if_pos rfl, if_pos rfl]
      have nl : ¬ pl (poF E e n) 0 ≤ nI (poF E e n 0) := nI_ge (b := 1000000) (by omega) (by omega)
      rw [show pw (poF E e n) (0 + 1) = nI 0 from if_neg nl, show pl (poF E e n) (0 + 1) = nI (poF E e n 0) from if_neg nl] at this
      exact this
    · obtain ⟨j, hj, ej⟩ := pw_nI (poF E e n) g
      have n4 : ¬ pw (poF E e n) g = -4 := by
        rw [ej]
        exact nI_nm4 (by omega)
      rw [if_neg z, if_neg z, if_neg n4, if_neg n4]
      exact this
theorem m_post {M : Mem} {E : Es} {e n : Nat} {y : Int32} {Q : Int32 → Mem → Prop} (h : PM M 0 E) (hTk : M 0 1 = nI (E 44)) (w : WF E) (h9 : E 42 ≤ 999) (hn : n ≤ 60) (hk : E 41 < 3) (he1 : 1 ≤ e) (he : e ≤ 9) (q : ∀ M', qM M M' → Q (poV (poF E e n) y) M') : ∃ m, fu4 (w_X8_post_60 (nI e) (nI n) y Q) m 1000000 0 0 M := by
  refine pk_loop (fun m g N => fu4 (w_X8_post_60 (nI e) (nI n) y Q) m (pl (poF E e n) g) (pw (poF E e n) g) (nI g) N) (fun a N => uM M N) 6 0 M (by omega) uM.rf (fun m N g => ?_) (fun m g N hg gg ih => ?_)
  · exact pk_le 6 6 (fun _ => q N g.q) (fun z => by omega)
  · show w_X8_post_60 (nI e) (nI n) y Q (fu4 (w_X8_post_60 (nI e) (nI n) y Q) m) _ _ _ _
    generalize fu4 (w_X8_post_60 (nI e) (nI n) y Q) m = K at ih ⊢
    refine pk_le 6 g (fun z => by omega) (fun _ => ?_)
    refine m_other (gg.pm h) (fun M10 p10 u10 => ?_)
    refine m_hires (p := 220) (st := 0) p10 (by omega) hk (fun M13 p13 a13 b13 => ?_)
    have u13 : uM M M13 := (gg.tr u10).tr ⟨fun a h0 h1 => a13 a h1, fun j hj => b13 j (by omega), fun k _ _ _ _ => by rw [a13 0 (by omega)]⟩
    have w5 := hirE_WF (s := g) (st := 0) (e := e) w hk hg (by omega) he1 he
    have n5 := hirE_42 (E := E) (s := g) (st := 0) (e := e) hk
    have m5 := hirE_44 (E := E) (s := g) (st := 0) (e := e) hk
    refine m_go2 (p := 220) p13 (by omega) (by rw [u13.tk, m5]; exact hTk) w5 hn (by omega) (fun M15 t15 f15 g15 => ?_)
    rw [nI_1]
    exact ih M15 (u13.tr g15.u)
theorem op_post_ok : op_post Rel0 := by
  intro X M x y z ⟨E, hN, hR⟩
  have hN' := hN
  obtain ⟨w, h9, hX, hM, hTk⟩ := hN
  have h3 := w.2.2.2.1
  unfold w_X7_post w_X8_post
  rw [hX.kp, hM.k41]
  rcases dR x 1 9 with ⟨e, he1, he, rfl⟩ | hno
  · refine c_io1 (a := 1) (b := 9) he1 he (by omega) (b0 ?_)
    rcases dQ y z with ⟨n, k, hn, hk, rfl, rfl⟩ | hno
    · refine c_q1 hn hk (b0 ?_)
      refine pk_lt (E 41) 3 (fun h => ?_) (fun h => ?_)
      · refine c_post hX w h9 hn h he1 he (fun X' f => ?_)
        refine m_in1 (a := 1) (b := 9) he1 he (by omega) (b1 (m_q1 hn hk ⟨i41, pk_eq (E 41) 3 (fun z => by omega) (fun _ => ?_)⟩))
        exact m_post hM hTk w h9 hn h he1 he (fun M' g => ⟨rfl, Rel0.q hN' hR f g⟩)
      · exact m_in1 (a := 1) (b := 9) he1 he (by omega) (b1 (m_q1 hn hk ⟨i41, pk_eq (E 41) 3 (fun _ => ⟨rfl, E, hN', hR⟩) (fun z => by omega)⟩))
    · exact c_q0 hno (b1 (m_in1 (a := 1) (b := 9) he1 he (by omega) (b1 (m_q0 hno ⟨rfl, E, hN', hR⟩))))
  · exact c_io0 (a := 1) (b := 9) hno (by omega) (by omega) (b1 (m_in0 (a := 1) (b := 9) hno (by omega) (by omega) (b0 ⟨rfl, E, hN', hR⟩)))
/-! how sharp an ear -/
def shF (E : Es) (k t n : Nat) : Nat → Int32
  | 0 => -4
  | v + 1 => if isB (hB no n (up E (38 + k) (v + 1))) t then nI (v + 1) else shF E k t n v
theorem c_sharp {X : Mem} {E : Es} {k t n : Nat} {Q : Int32 → Mem → Prop} (h : EX X 1 E) (w : WF E) (h9 : E 42 ≤ 999) (hn : n ≤ 60) (hk : k < E 41) (q : ∀ X', qX X X' → Q (shF E k t n 9) X') : ∃ m, fu2 (w_X7_sharp_32 (nI k) (nI t) (nI n) Q) m 9 X := by
  have h3 := w.2.2.2.1
  have main : ∀ v N, v ≤ 9 → gX X N → shF E k t n v = shF E k t n 9 → fu2 (w_X7_sharp_32 (nI k) (nI t) (nI n) Q) (v + 1) (nI v) N := by
    intro v
    induction v with
    | zero =>
      intro N _ g e
      exact pk_lt 0 1 (fun _ => by rw [show (-4 : Int32) = shF E k t n 9 from e]; exact q N g.q) (fun z => by omega)
    | succ v ih =>
      intro N hv g e
      show w_X7_sharp_32 (nI k) (nI t) (nI n) Q (fu2 (w_X7_sharp_32 (nI k) (nI t) (nI n) Q) (v + 1)) (nI (v + 1)) N
      generalize fu2 (w_X7_sharp_32 (nI k) (nI t) (nI n) Q) (v + 1) = K at ih ⊢
      refine pk_lt (v + 1) 1 (fun z => by omega) (fun _ => ?_)
      refine w_begin (g.ex h) (fun X9 t9 g9 => ⟨vp_in_nI (by omega) (by omega), fun X10 e10 => ?_⟩)
      rw [nI_clamp (by omega)] at e10
      have t10 : TX X10 (up E (38 + k) (v + 1)) 0 0 0 0 0 := by
        rw [e10]
        exact t9.set (cxk k (by omega)).2.2 (by omega) (by omega) (by omega)
      have g10 : gX X X10 := by
        rw [e10]
        exact (g.tr g9).mu (by omega) (by omega)
      have w5 : WF (up E (38 + k) (v + 1)) := up_WF w (by omega) (by omega) (by omega)
      have n5 : up E (38 + k) (v + 1) 42 = E 42 := up_n (by omega)
      refine w_pass t10 w5 hn (by omega) (fun X12 t12 g12 => ?_)
      have e' : (if isB (hB no n (up E (38 + k) (v + 1))) t then nI (v + 1) else shF E k t n v) = shF E k t n 9 := e
      refine w_was t12.2.2.2.2.1 ⟨fun z => b1 ?_, fun z => b0 ?_⟩
      · rw [if_pos z] at e'
        rw [e']
        exact q X12 (g10.tr g12).q
      · rw [if_neg z] at e'
        rw [pk_m1]
        exact ih X12 (by omega) (g10.tr g12) e'
  exact ⟨10, main 9 X (by omega) gX.rf rfl⟩
theorem m_sharp {M : Mem} {E : Es} {k t n : Nat} {Q : Int32 → Mem → Prop} (h : PM M 0 E) (hTk : M 0 1 = nI (E 44)) (w : WF E) (h9 : E 42 ≤ 999) (hn : n ≤ 60) (hk : k < E 41) (q : ∀ M', qM M M' → Q (shF E k t n 9) M') : ∃ m, fu2 (w_X8_sharp_34 (nI k) (nI t) (nI n) Q) m 9 M := by
  have h3 := w.2.2.2.1
  have main : ∀ v N, v ≤ 9 → uM M N → shF E k t n v = shF E k t n 9 → fu2 (w_X8_sharp_34 (nI k) (nI t) (nI n) Q) (v + 1) (nI v) N := by
    intro v
    induction v with
    | zero =>
      intro N _ g e
      exact pk_lt 0 1 (fun _ => by rw [show (-4 : Int32) = shF E k t n 9 from e]; exact q N g.q) (fun z => by omega)
    | succ v ih =>
      intro N hv g e
      show w_X8_sharp_34 (nI k) (nI t) (nI n) Q (fu2 (w_X8_sharp_34 (nI k) (nI t) (nI n) Q) (v + 1)) (nI (v + 1)) N
      generalize fu2 (w_X8_sharp_34 (nI k) (nI t) (nI n) Q) (v + 1) = K at ih ⊢
      refine pk_lt (v + 1) 1 (fun z => by omega) (fun _ => ?_)
      refine m_other (g.pm h) (fun M9 p9 u9 => ?_)
      rw [show (258 : Int32) + nI k = nI (220 + (38 + k)) from (nI_add 258 k).trans (by congr 1; omega), nI_clamp (by omega)]
      refine ⟨vp_in_nI (by omega) (by omega), fun M10 e10 => ?_⟩
      have p10 : PM M10 220 (up E (38 + k) (v + 1)) := by
        rw [e10]
        exact p9.set0 (by omega) (by omega) (by omega)
      have u10 : uM M M10 := by
        rw [e10]
        exact (g.tr u9).mu (by omega)
      have w5 : WF (up E (38 + k) (v + 1)) := up_WF w (by omega) (by omega) (by omega)
      have n5 : up E (38 + k) (v + 1) 42 = E 42 := up_n (by omega)
      have m5 : up E (38 + k) (v + 1) 44 = E 44 := up_n (by omega)
      refine m_go2 (p := 220) p10 (by omega) (by rw [u10.tk, m5]; exact hTk) w5 hn (by omega) (fun M12 t12 f12 g12 => ?_)
      have e' : (if isB (hB no n (up E (38 + k) (v + 1))) t then nI (v + 1) else shF E k t n v) = shF E k t n 9 := e
      rw [t12.2.2.1]
      refine ⟨fun z => ?_, fun z => ?_⟩
      · rw [if_pos z] at e'
        rw [e']
        exact q M12 (u10.tr g12.u).q
      · rw [if_neg z] at e'
        rw [pk_m1]
        exact ih M12 (by omega) (u10.tr g12.u) e'
  exact ⟨10, main 9 M (by omega) uM.rf rfl⟩
theorem op_sharp_ok : op_sharp Rel0 := by
  intro X M x y z ⟨E, hN, hR⟩
  have hN' := hN
  obtain ⟨w, h9, hX, hM, hTk⟩ := hN
  unfold w_X7_sharp
  rcases dT x (E 41) with ⟨k, hk, rfl⟩ | hno
  · refine c_kp1 hX w hk (b0 ?_)
    rcases dT y (E 44) with ⟨t, ht, rfl⟩ | hno
    · refine c_tk1 hX w ht (b0 ?_)
      rcases dR z 0 60 with ⟨n, -, hn, rfl⟩ | hno
      · refine c_io1 (a := 0) (b := 60) (by omega) hn (by omega) (b0 ?_)
        exact c_sharp hX w h9 hn hk (fun X' f => m_kp1 hM w hk (b1 (m_tk1 hTk w ht (b1 (m_in1 (a := 0) (b := 60) (by omega) hn (by omega) (b1 (m_sharp hM hTk w h9 hn hk (fun M' g => ⟨rfl, Rel0.q hN' hR f g⟩))))))))
      · exact c_io0 (a := 0) (b := 60) hno (by omega) (by omega) (b1 (m_kp1 hM w hk (b1 (m_tk1 hTk w ht (b1 (m_in0 (a := 0) (b := 60) hno (by omega) (by omega) (b0 ⟨rfl, E, hN', hR⟩)))))))
    · exact c_tk0 hX w hno (b1 (m_kp1 hM w hk (b1 (m_tk0 hTk w hno (b0 ⟨rfl, E, hN', hR⟩)))))
  · exact c_kp0 hX w hno (b1 (m_kp0 hM w hno (b0 ⟨rfl, E, hN', hR⟩)))
