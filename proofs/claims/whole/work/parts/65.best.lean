/-! what is best: a number of one taker is tried -/
theorem TX.set {X : Mem} {E : Es} {i v a k : Nat} (h : TX X E 0 0 0 0 0) (hc : cx i = (a, k)) (hi : i < 45) (h41 : i ≠ 41) (h44 : i ≠ 44) : TX (mu X (12 + a) k (nI v)) (up E i v) 0 0 0 0 0 := by
  obtain ⟨h0, h1, h2, h3, h4, h5⟩ := h
  exact ⟨h0.set' hc hi h41 h44, by rw [mu_c (by omega)]; exact h1, by rw [mu_c (by omega)]; exact h2, by rw [mu_c (by omega)]; exact h3, by rw [mu_c (by omega)]; exact h4, by rw [mu_c (by omega)]; exact h5⟩
def bm (f : Nat → Nat) : Nat → Int32
  | 0 => -1
  | v + 1 => if nI (f v) ≤ bm f v then bm f v else nI (f v)
def bw (f : Nat → Nat) : Nat → Int32
  | 0 => 0
  | v + 1 => if nI (f v) ≤ bm f v then bw f v else nI v
def bV (f : Nat → Nat) (e : Nat) (k : Nat) : Int32 := if nI k = 0 then bw f e else bm f e
def fbF (E : Es) (b t n : Nat) (v : Nat) : Nat := hE no n (up E (b + t) v) (22 + t)
theorem c_full {X : Mem} {E : Es} {b a t n e k : Nat} {Q : Int32 → Mem → Prop} (h : EX X 1 E) (w : WF E) (h9 : E 42 ≤ 999) (hn : n ≤ 60) (ht : t < E 44) (hb : b < 32) (hc : cx (b + t) = (a, t)) (ha : a ≤ 9) (he : e < 2 ^ 30) (hw : ∀ v, v ≤ e → WF (up E (b + t) v)) (q : ∀ X', qX X X' → Q (bV (fbF E b t n) (e + 1) k) X') : w_X7_fullestBag (12 + a) 5 (nI t) (nI e) (nI n) (nI k) X Q := by
  have h5 := w.2.2.2.2.1
  refine pk_loop (fun m v N => fu4 (w_X7_fullestBag_9 (12 + a) 5 (nI t) (nI e) (nI n) (nI k) Q) m (bw (fbF E b t n) v) (bm (fbF E b t n) v) (nI v) N) (fun v N => gX X N) (e + 1) 0 X (by omega) gX.rf (fun m N g => ?_) (fun m v N hv g ih => ?_)
  · exact pk_lt e (e + 1) (fun _ => q N g.q) (fun z => by omega)
  · refine pk_lt e v (fun z => by omega) (fun _ => ?_)
    refine w_begin (g.ex h) (fun X4 t4 g4 => ⟨vp_in_nI (by omega) (by omega), fun X5 e5 => ?_⟩)
    rw [nI_clamp (by omega)] at e5 ⊢
    have t5 : TX X5 (up E (b + t) v) 0 0 0 0 0 := by
      rw [e5]
      exact t4.set hc (by omega) (by omega) (by omega)
    have g5 : gX X X5 := by
      rw [e5]
      exact (g.tr g4).mu (by omega) (by omega)
    have w5 := hw v (by omega)
    have n5 : up E (b + t) v 42 = E 42 := up_n (by omega)
    have m5 : up E (b + t) v 44 = E 44 := up_n (by omega)
    refine w_pass t5 w5 hn (by omega) (fun X7 t7 g7 => ⟨vp_in_nI (by omega) (by omega), ?_⟩)
    obtain ⟨a1, a2, a3, a4⟩ := hE_fix no _ w5 n (by omega)
    have r7 : X7 17 t = nI (fbF E b t n v) := (t7.1.tr a1 (t := t) (by omega)).2.2.1
    rw [r7]
    refine ⟨fun z => ?_, fun z => ⟨vp_in_nI (by omega) (by omega), ?_⟩⟩
    · have := ih X7 (g5.tr g7)
      rw [show bw (fbF E b t n) (v + 1) = bw (fbF E b t n) v from if_pos z, show bm (fbF E b t n) (v + 1) = bm (fbF E b t n) v from if_pos z] at this
      unfold w_X7_fullestBag_75
      rw [nI_1]
      exact this
    · have := ih X7 (g5.tr g7)
      rw [show bw (fbF E b t n) (v + 1) = nI v from if_neg z, show bm (fbF E b t n) (v + 1) = nI (fbF E b t n v) from if_neg z] at this
      unfold w_X7_fullestBag_75
      rw [nI_1]
      exact this
/-- what is there, on the other page -/
theorem m_other {M : Mem} {E : Es} {Q : Mem → Prop} (h : PM M 0 E) (q : ∀ M', PM M' 220 E → uM M M' → Q M') : w_X8_copies 0 220 M Q :=
  m_copies (a := 0) (b := 220) (by omega) (by omega) (by omega) (fun M' c1 c2 c3 => q M' (fun i hi hok => by
    rw [c1 i hi]
    exact h i hi hok) ⟨fun a h0 h1 => c2 a h1, fun j hj => c3 j (by omega), fun k _ _ _ _ => by rw [c2 0 (by omega)]⟩)
theorem uM.pm {M N : Mem} {E : Es} (f : uM M N) (h : PM M 0 E) : PM N 0 E := f.q.pm h
theorem uM.tk {M N : Mem} (f : uM M N) : N 0 1 = M 0 1 := f.q.tk
theorem m_best {M : Mem} {E : Es} {t n k : Nat} {Q : Int32 → Mem → Prop} (h : PM M 0 E) (hTk : M 0 1 = nI (E 44)) (w : WF E) (h9 : E 42 ≤ 999) (hn : n ≤ 60) (hk : k ≤ 1) (ht : t < E 44) (hw : ∀ v, v ≤ 5 → WF (up E (17 + t) v)) (q : ∀ M', qM M M' → Q (bV (fbF E 17 t n) 6 k) M') : w_X8_best (nI t) (nI n) (nI k) M Q := by
  have h5 := w.2.2.2.2.1
  refine m_tk1 hTk w ht (b1 (m_q1 hn hk ?_))
  refine pk_loop (fun m v N => fu4 (w_X8_best_41 (nI t) (nI n) (nI k) Q) m (bm (fbF E 17 t n) v) (bw (fbF E 17 t n) v) (nI v) N) (fun v N => uM M N) 6 0 M (by omega) uM.rf (fun m N g => ?_) (fun m v N hv g ih => ?_)
  · exact pk_le 6 6 (fun _ => q N g.q) (fun z => by omega)
  · refine pk_le 6 v (fun z => by omega) (fun _ => ?_)
    refine m_other (g.pm h) (fun M10 p10 u10 => ?_)
    rw [show (237 : Int32) + nI t = nI (220 + (17 + t)) from (nI_add 237 t).trans (by congr 1; omega), nI_clamp (by omega)]
    refine ⟨vp_in_nI (by omega) (by omega), fun M11 e11 => ?_⟩
    have p11 : PM M11 220 (up E (17 + t) v) := by
      rw [e11]
      exact p10.set0 (by omega) (by omega) (by omega)
    have u11 : uM M M11 := by
      rw [e11]
      exact (g.tr u10).mu (by omega)
    have w5 := hw v (by omega)
    have n5 : up E (17 + t) v 42 = E 42 := up_n (by omega)
    have m5 : up E (17 + t) v 44 = E 44 := up_n (by omega)
    refine m_go2 (p := 220) p11 (by omega) (by rw [u11.tk, m5]; exact hTk) w5 hn (by omega) (fun M13 t13 f13 g13 => ?_)
    rw [show (198 : Int32) + nI t = nI (176 + (22 + t)) from (nI_add 198 t).trans (by congr 1; omega), nI_clamp (by omega)]
    refine ⟨vp_in_nI (by omega) (by omega), fun v16 e16 => ?_⟩
    obtain ⟨a1, a2, a3, a4⟩ := hE_fix no _ w5 n (by omega)
    have r13 : M13 1 (176 + (22 + t)) = nI (fbF E 17 t n v) := (t13.1.tr a1 (t := t) (by omega)).2.2.1
    rw [r13] at e16 ⊢
    rw [e16, nI_1]
    exact ih M13 (u11.tr g13.u)
theorem op_best_ok : op_best Rel0 := by
  intro X M x y z ⟨E, hN, hR⟩
  have hN' := hN
  obtain ⟨w, h9, hX, hM, hTk⟩ := hN
  have h5 := w.2.2.2.2.1
  unfold w_X7_best
  rcases dT x (E 44) with ⟨t, ht, rfl⟩ | hno
  · refine c_tk1 hX w ht (b0 ?_)
    rcases dQ y z with ⟨n, k, hn, hk, rfl, rfl⟩ | hno
    · refine c_q1 hn hk (b0 ?_)
      obtain ⟨c1, c2, c3, c4⟩ := cxt t (by omega)
      have hw : ∀ v, v ≤ 5 → WF (up E (17 + t) v) := fun v hv => up_WF w (by omega) (by omega) (by omega)
      exact c_full (e := 5) hX w h9 hn ht (by omega) c2 (by omega) (by omega) hw (fun X' f => m_best hM hTk w h9 hn hk ht hw (fun M' g => ⟨rfl, Rel0.q hN' hR f g⟩))
    · exact c_q0 hno (b1 (m_tk1 hTk w ht (b1 (m_q0 hno ⟨rfl, E, hN', hR⟩))))
  · exact c_tk0 hX w hno (b1 (m_tk0 hTk w hno (b0 ⟨rfl, E, hN', hR⟩)))
theorem m_ripen {M : Mem} {E : Es} {t n k : Nat} {Q : Int32 → Mem → Prop} (h : PM M 0 E) (hTk : M 0 1 = nI (E 44)) (w : WF E) (h9 : E 42 ≤ 999) (hn : n ≤ 60) (hk : k ≤ 1) (ht : t < E 44) (hw : ∀ v, v ≤ 20 → WF (up E (27 + t) v)) (q : ∀ M', qM M M' → Q (bV (fbF E 27 t n) 21 k) M') : w_X8_ripen (nI t) (nI n) (nI k) M Q := by
  have h5 := w.2.2.2.2.1
  refine m_tk1 hTk w ht (b1 (m_q1 hn hk ?_))
  refine pk_loop (fun m v N => fu4 (w_X8_ripen_41 (nI t) (nI n) (nI k) Q) m (bm (fbF E 27 t n) v) (bw (fbF E 27 t n) v) (nI v) N) (fun v N => uM M N) 21 0 M (by omega) uM.rf (fun m N g => ?_) (fun m v N hv g ih => ?_)
  · exact pk_lt 20 21 (fun _ => q N g.q) (fun z => by omega)
  · refine pk_lt 20 v (fun z => by omega) (fun _ => ?_)
    refine m_other (g.pm h) (fun M10 p10 u10 => ?_)
    rw [show (247 : Int32) + nI t = nI (220 + (27 + t)) from (nI_add 247 t).trans (by congr 1; omega), nI_clamp (by omega)]
    refine ⟨vp_in_nI (by omega) (by omega), fun M11 e11 => ?_⟩
    have p11 : PM M11 220 (up E (27 + t) v) := by
      rw [e11]
      exact p10.set0 (by omega) (by omega) (by omega)
    have u11 : uM M M11 := by
      rw [e11]
      exact (g.tr u10).mu (by omega)
    have w5 := hw v (by omega)
    have n5 : up E (27 + t) v 42 = E 42 := up_n (by omega)
    have m5 : up E (27 + t) v 44 = E 44 := up_n (by omega)
    refine m_go2 (p := 220) p11 (by omega) (by rw [u11.tk, m5]; exact hTk) w5 hn (by omega) (fun M13 t13 f13 g13 => ?_)
    rw [show (198 : Int32) + nI t = nI (176 + (22 + t)) from (nI_add 198 t).trans (by congr 1; omega), nI_clamp (by omega)]
    refine ⟨vp_in_nI (by omega) (by omega), fun v16 e16 => ?_⟩
    obtain ⟨a1, a2, a3, a4⟩ := hE_fix no _ w5 n (by omega)
    have r13 : M13 1 (176 + (22 + t)) = nI (fbF E 27 t n v) := (t13.1.tr a1 (t := t) (by omega)).2.2.1
    rw [r13] at e16 ⊢
    rw [e16, nI_1]
    exact ih M13 (u11.tr g13.u)
theorem op_ripen_ok : op_ripen Rel0 := by
  intro X M x y z ⟨E, hN, hR⟩
  have hN' := hN
  obtain ⟨w, h9, hX, hM, hTk⟩ := hN
  have h5 := w.2.2.2.2.1
  unfold w_X7_ripen
  rcases dT x (E 44) with ⟨t, ht, rfl⟩ | hno
  · refine c_tk1 hX w ht (b0 ?_)
    rcases dQ y z with ⟨n, k, hn, hk, rfl, rfl⟩ | hno
    · refine c_q1 hn hk (b0 ?_)
      obtain ⟨c1, c2, c3, c4⟩ := cxt t (by omega)
      have hw : ∀ v, v ≤ 20 → WF (up E (27 + t) v) := fun v hv => up_WF w (by omega) (by omega) (by omega)
      exact c_full (e := 20) hX w h9 hn ht (by omega) c4 (by omega) (by omega) hw (fun X' f => m_ripen hM hTk w h9 hn hk ht hw (fun M' g => ⟨rfl, Rel0.q hN' hR f g⟩))
    · exact c_q0 hno (b1 (m_tk1 hTk w ht (b1 (m_q0 hno ⟨rfl, E, hN', hR⟩))))
  · exact c_tk0 hX w hno (b1 (m_tk0 hTk w hno (b0 ⟨rfl, E, hN', hR⟩)))
theorem m_kind {M : Mem} {E : Es} {t n k : Nat} {Q : Int32 → Mem → Prop} (h : PM M 0 E) (hTk : M 0 1 = nI (E 44)) (w : WF E) (h9 : E 42 ≤ 999) (hn : n ≤ 60) (hk : k ≤ 1) (ht : t < E 44) (hw : ∀ v, v ≤ 3 → WF (up E (12 + t) v)) (q : ∀ M', qM M M' → Q (bV (fbF E 12 t n) 4 k) M') : w_X8_kind (nI t) (nI n) (nI k) M Q := by
  have h5 := w.2.2.2.2.1
  refine m_tk1 hTk w ht (b1 (m_q1 hn hk ?_))
  refine pk_loop (fun m v N => fu4 (w_X8_kind_41 (nI t) (nI n) (nI k) Q) m (bm (fbF E 12 t n) v) (bw (fbF E 12 t n) v) (nI v) N) (fun v N => uM M N) 4 0 M (by omega) uM.rf (fun m N g => ?_) (fun m v N hv g ih => ?_)
  · exact pk_le 4 4 (fun _ => q N g.q) (fun z => by omega)
  · refine pk_le 4 v (fun z => by omega) (fun _ => ?_)
    refine m_other (g.pm h) (fun M10 p10 u10 => ?_)
    rw [show (232 : Int32) + nI t = nI (220 + (12 + t)) from (nI_add 232 t).trans (by congr 1; omega), nI_clamp (by omega)]
    refine ⟨vp_in_nI (by omega) (by omega), fun M11 e11 => ?_⟩
    have p11 : PM M11 220 (up E (12 + t) v) := by
      rw [e11]
      exact p10.set0 (by omega) (by omega) (by omega)
    have u11 : uM M M11 := by
      rw [e11]
      exact (g.tr u10).mu (by omega)
    have w5 := hw v (by omega)
    have n5 : up E (12 + t) v 42 = E 42 := up_n (by omega)
    have m5 : up E (12 + t) v 44 = E 44 := up_n (by omega)
    refine m_go2 (p := 220) p11 (by omega) (by rw [u11.tk, m5]; exact hTk) w5 hn (by omega) (fun M13 t13 f13 g13 => ?_)
    rw [show (198 : Int32) + nI t = nI (176 + (22 + t)) from (nI_add 198 t).trans (by congr 1; omega), nI_clamp (by omega)]
    refine ⟨vp_in_nI (by omega) (by omega), fun v16 e16 => ?_⟩
    obtain ⟨a1, a2, a3, a4⟩ := hE_fix no _ w5 n (by omega)
    have r13 : M13 1 (176 + (22 + t)) = nI (fbF E 12 t n v) := (t13.1.tr a1 (t := t) (by omega)).2.2.1
    rw [r13] at e16 ⊢
    rw [e16, nI_1]
    exact ih M13 (u11.tr g13.u)
theorem op_kind_ok : op_kind Rel0 := by
  intro X M x y z ⟨E, hN, hR⟩
  have hN' := hN
  obtain ⟨w, h9, hX, hM, hTk⟩ := hN
  have h5 := w.2.2.2.2.1
  unfold w_X7_kind
  rcases dT x (E 44) with ⟨t, ht, rfl⟩ | hno
  · refine c_tk1 hX w ht (b0 ?_)
    rcases dQ y z with ⟨n, k, hn, hk, rfl, rfl⟩ | hno
    · refine c_q1 hn hk (b0 ?_)
      obtain ⟨c1, c2, c3, c4⟩ := cxt t (by omega)
      have hw : ∀ v, v ≤ 3 → WF (up E (12 + t) v) := fun v hv => up_WF w (by omega) (by omega) (by omega)
      exact c_full (e := 3) hX w h9 hn ht (by omega) c1 (by omega) (by omega) hw (fun X' f => m_kind hM hTk w h9 hn hk ht hw (fun M' g => ⟨rfl, Rel0.q hN' hR f g⟩))
    · exact c_q0 hno (b1 (m_tk1 hTk w ht (b1 (m_q0 hno ⟨rfl, E, hN', hR⟩))))
  · exact c_tk0 hX w hno (b1 (m_tk0 hTk w hno (b0 ⟨rfl, E, hN', hR⟩)))
