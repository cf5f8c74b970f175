/-! which kinds, which gates fit what was seen -/
def ftB (f : Nat → Bool) : Nat → Int32
  | 0 => 0
  | v + 1 => if f v = true then ftB f v ||| sl 1 (nI v) else ftB f v
def ftF (n : Nat) (a g v : Nat → Nat) (E : Es) (i u : Nat) : Bool := fkB n a g v (up E i u) 21
theorem c_fitting {X M : Mem} {n : Nat} {a g v : Nat → Nat} {E : Es} {b c t e : Nat} {Q : Int32 → Mem → Prop} (s : SV X M n a g v) (h : EX X 1 E) (w : WF E) (h9 : E 42 ≤ 999) (ht : t < E 44) (hb : b < 32) (hc : cx (b + t) = (c, t)) (hc9 : c ≤ 9) (he : e < 2 ^ 30) (hw : ∀ u, u ≤ e → WF (up E (b + t) u)) (N0 : Mem) (gN0 : ∀ x, x < 11 ∨ (22 ≤ x ∧ x < 29) → N0 x = X x) (q : ∀ X', gX N0 X' → Q (ftB (ftF n a g v E (b + t)) (e + 1)) X') : w_X7_fittingBits (12 + c) 5 (nI t) (nI e) N0 Q := by
  have h5 := w.2.2.2.2.1
  have h0 : EX N0 1 E := h.cell (fun x hx => gN0 _ (by omega))
  have s0 : SV N0 M n a g v := by
    obtain ⟨hn, s1, s2, s3⟩ := s
    refine ⟨hn, by rw [gN0 25 (by omega)]; exact s1, s2, fun j hj => ?_⟩
    rw [gN0 26 (by omega), gN0 27 (by omega), gN0 28 (by omega)]
    exact s3 j hj
  refine pk_loop (fun m u N => fu3 (w_X7_fittingBits_6 (12 + c) 5 (nI t) (nI e) Q) m (ftB (ftF n a g v E (b + t)) u) (nI u) N) (fun u N => gX N0 N) (e + 1) 0 N0 (by omega) gX.rf (fun m N gg => ?_) (fun m u N hu gg ih => ?_)
  · exact pk_lt e (e + 1) (fun _ => q N gg) (fun z => by omega)
  · refine pk_lt e u (fun z => by omega) (fun _ => ?_)
    refine w_begin (gg.ex h0) (fun X4 t4 g4 => ⟨vp_in_nI (by omega) (by omega), fun X5 e5 => ?_⟩)
    rw [nI_clamp (by omega)] at e5
    have t5 : TX X5 (up E (b + t) u) 0 0 0 0 0 := by
      rw [e5]
      exact t4.set hc (by omega) (by omega) (by omega)
    have g5 : gX N0 X5 := by
      rw [e5]
      exact (gg.tr g4).mu (by omega) (by omega)
    have n5 : up E (b + t) u 42 = E 42 := up_n (by omega)
    refine w_fit s0 g5 t5 (hw u (by omega)) (by omega) (fun N6 g6 => ?_)
    have key := ih N6 g6
    rw [nI_1]
    by_cases z : ftF n a g v E (b + t) u = true
    · rw [show ftB (ftF n a g v E (b + t)) (u + 1) = ftB (ftF n a g v E (b + t)) u ||| sl 1 (nI u) from if_pos z] at key
      rw [if_pos (show fkB n a g v (up E (b + t) u) 21 = true from z), if_neg (by decide)]
      exact key
    · rw [show ftB (ftF n a g v E (b + t)) (u + 1) = ftB (ftF n a g v E (b + t)) u from if_neg z] at key
      rw [if_neg (show ¬ fkB n a g v (up E (b + t) u) 21 = true from z), if_pos rfl]
      exact key
/-- the page but one place -/
def jM (i0 : Nat) (M N : Mem) : Prop := (∀ a, a ≠ 0 → a ≠ 1 → a ≠ 7 → N a = M a) ∧ (∀ j, j < 176 → j ≠ i0 → N 1 j = M 1 j) ∧ (∀ k, k ≠ 16 → k ≠ 17 → k ≠ 18 → k ≠ 19 → N 0 k = M 0 k)
theorem jM.mu {i0 : Nat} {M N : Mem} {x : Int32} (h : jM i0 M N) : jM i0 M (mu N 1 i0 x) := ⟨fun a h0 h1 h7 => by rw [mu_c h1]; exact h.1 a h0 h1 h7, fun j h1 h2 => by rw [mu_at, if_neg (by omega)]; exact h.2.1 j h1 h2, fun k a b c d => by rw [mu_c (by omega)]; exact h.2.2 k a b c d⟩
theorem jM.v {i0 : Nat} {M N K : Mem} (h : jM i0 M N) (g : vM N K) : jM i0 M K := ⟨fun a h0 h1 h7 => (g.1 a h0 h1 h7).trans (h.1 a h0 h1 h7), fun j h1 h2 => (g.2.1 j (by omega)).trans (h.2.1 j h1 h2), fun k a b c d => (g.2.2 k a b c d).trans (h.2.2 k a b c d)⟩
theorem jM_pm {i0 u : Nat} {M N : Mem} {E : Es} (h : jM i0 M N) (p : PM M 0 E) (h12 : 12 ≤ i0) (h41 : i0 < 41) : PM (mu N 1 i0 (nI u)) 0 (up E i0 u) := by
  intro i hi hok
  rw [up_n (by omega), up_n (by omega)] at hok
  rw [mu_at]
  by_cases z : i = i0
  · subst z
    rw [if_pos ⟨rfl, by omega⟩, up_s, off0 h12, sub0]
  · rw [if_neg (by omega), up_n z, h.2.1 _ (by omega) (by omega)]
    exact p i hi hok
theorem jM_q {i0 : Nat} {M N : Mem} (h : jM i0 M N) (hi : i0 < 132) : qM M (mu N 1 i0 (M 1 i0)) := by
  have f : ∀ j, j < 132 → mu N 1 i0 (M 1 i0) 1 j = M 1 j := fun j hj => by
    rw [mu_at]
    by_cases z : j = i0
    · subst z
      rw [if_pos ⟨rfl, rfl⟩]
    · rw [if_neg (by omega)]
      exact h.2.1 j (by omega) z
  exact ⟨⟨fun a h0 h1 h7 => by rw [mu_c h1]; exact h.1 a h0 h1 h7, fun j h1 h2 => f j h2, fun k a b c d => by rw [mu_c (by omega)]; exact h.2.2 k a b c d⟩, fun j hj => f j (by omega)⟩
theorem jM_rf {i0 : Nat} {M : Mem} : jM i0 M M := ⟨fun _ _ _ _ => rfl, fun _ _ _ => rfl, fun _ _ _ _ _ => rfl⟩
theorem m_kinds {X M : Mem} {n : Nat} {a g v : Nat → Nat} {E : Es} {t : Nat} {Q : Int32 → Mem → Prop} (s : SV X M n a g v) (h : PM M 0 E) (hTk : M 0 1 = nI (E 44)) (w : WF E) (h9 : E 42 ≤ 999) (ht : t < E 44) (q : ∀ M', qM M M' → Q (ftB (ftF n a g v E (12 + t)) 4) M') : w_X8_kinds (nI t) M Q := by
  have h5 := w.2.2.2.2.1
  refine m_tk1 hTk w ht (b1 ?_)
  rw [show (12 : Int32) + nI t = nI (12 + t) from nI_add 12 t, nI_clamp (by omega)]
  refine ⟨vp_in_nI (by omega) (by omega), ?_⟩
  refine pk_loop (fun m u N => fu3 (w_X8_kinds_25 (nI t) (M 1 (12 + t)) Q) m (ftB (ftF n a g v E (12 + t)) u) (nI u) N) (fun u N => jM (12 + t) M N) 4 0 M (by omega) jM_rf (fun m N j => ?_) (fun m u N hu j ih => ?_)
  · refine pk_le 4 4 (fun _ => ?_) (fun z => by omega)
    unfold w_X8_kinds_67
    rw [show (12 : Int32) + nI t = nI (12 + t) from nI_add 12 t, nI_clamp (by omega)]
    refine ⟨vp_in_nI (by omega) (by omega), fun M4 e4 => ?_⟩
    rw [e4]
    exact q _ (jM_q j (by omega))
  · show w_X8_kinds_25 (nI t) (M 1 (12 + t)) Q (fu3 (w_X8_kinds_25 (nI t) (M 1 (12 + t)) Q) m) _ _ _
    generalize fu3 (w_X8_kinds_25 (nI t) (M 1 (12 + t)) Q) m = K at ih ⊢
    refine pk_le 4 u (fun z => by omega) (fun _ => ?_)
    rw [show (12 : Int32) + nI t = nI (12 + t) from nI_add 12 t, nI_clamp (by omega)]
    refine ⟨vp_in_nI (by omega) (by omega), fun M5 e5 => ?_⟩
    have p5 : PM M5 0 (up E (12 + t) u) := by
      rw [e5]
      exact jM_pm j h (by omega) (by omega)
    have j5 : jM (12 + t) M M5 := by
      rw [e5]
      exact j.mu
    have n5 : up E (12 + t) u 42 = E 42 := up_n (by omega)
    have m5 : up E (12 + t) u 44 = E 44 := up_n (by omega)
    refine m_asSeen (row := 0) s (j5.1 6 (by omega) (by omega) (by omega)) (j5.2.2 21 (by omega) (by omega) (by omega) (by omega)) p5 (by rw [j5.2.2 1 (by omega) (by omega) (by omega) (by omega), m5]; exact hTk) (up_WF w (by omega) (by omega) (by omega)) (by omega) (by omega) (fun N7 v7 _ _ => ?_)
    have key := ih N7 (j5.v v7)
    rw [nI_1]
    by_cases z : ftF n a g v E (12 + t) u = true
    · rw [show ftB (ftF n a g v E (12 + t)) (u + 1) = ftB (ftF n a g v E (12 + t)) u ||| sl 1 (nI u) from if_pos z] at key
      rw [if_pos (show fkB n a g v (up E (12 + t) u) 21 = true from z), if_neg (by decide)]
      exact key
    · rw [show ftB (ftF n a g v E (12 + t)) (u + 1) = ftB (ftF n a g v E (12 + t)) u from if_neg z] at key
      rw [if_neg (show ¬ fkB n a g v (up E (12 + t) u) 21 = true from z), if_pos rfl, Int32.or_zero]
      exact key
theorem m_gatesOf {X M : Mem} {n : Nat} {a g v : Nat → Nat} {E : Es} {t : Nat} {Q : Int32 → Mem → Prop} (s : SV X M n a g v) (h : PM M 0 E) (hTk : M 0 1 = nI (E 44)) (w : WF E) (h9 : E 42 ≤ 999) (ht : t < E 44) (q : ∀ M', qM M M' → (∀ u, u < 6 → lrow M' u 21 (up E (17 + t) u)) → Q (ftB (ftF n a g v E (17 + t)) 6) M') : w_X8_gatesOf (nI t) M Q := by
  have h5 := w.2.2.2.2.1
  unfold w_X8_gatesOf
  rw [show (17 : Int32) + nI t = nI (17 + t) from nI_add 17 t, nI_clamp (by omega)]
  refine ⟨vp_in_nI (by omega) (by omega), ?_⟩
  refine pk_loop (fun m u N => fu3 (w_X8_gatesOf_15 (nI t) (M 1 (17 + t)) Q) m (ftB (ftF n a g v E (17 + t)) u) (nI u) N) (fun u N => jM (17 + t) M N ∧ ∀ u', u' < u → lrow N u' 21 (up E (17 + t) u')) 6 0 M (by omega) ⟨jM_rf, fun u' hu' => by omega⟩ (fun m N hI => ?_) (fun m u N hu hI ih => ?_)
  · obtain ⟨j, lr⟩ := hI
    refine pk_le 6 6 (fun _ => ?_) (fun z => by omega)
    unfold w_X8_gatesOf_59
    rw [show (17 : Int32) + nI t = nI (17 + t) from nI_add 17 t, nI_clamp (by omega)]
    refine ⟨vp_in_nI (by omega) (by omega), fun M4 e4 => ?_⟩
    rw [e4]
    refine q _ (jM_q j (by omega)) (fun u hu i g hi hg => ?_)
    rw [mu_c (by omega)]
    exact lr u hu i g hi hg
  · obtain ⟨j, lr⟩ := hI
    show w_X8_gatesOf_15 (nI t) (M 1 (17 + t)) Q (fu3 (w_X8_gatesOf_15 (nI t) (M 1 (17 + t)) Q) m) _ _ _
    generalize fu3 (w_X8_gatesOf_15 (nI t) (M 1 (17 + t)) Q) m = K at ih ⊢
    refine pk_le 6 u (fun z => by omega) (fun _ => ?_)
    rw [show (17 : Int32) + nI t = nI (17 + t) from nI_add 17 t, nI_clamp (by omega)]
    refine ⟨vp_in_nI (by omega) (by omega), fun M5 e5 => ?_⟩
    have p5 : PM M5 0 (up E (17 + t) u) := by
      rw [e5]
      exact jM_pm j h (by omega) (by omega)
    have j5 : jM (17 + t) M M5 := by
      rw [e5]
      exact j.mu
    have n5 : up E (17 + t) u 42 = E 42 := up_n (by omega)
    have m5 : up E (17 + t) u 44 = E 44 := up_n (by omega)
    refine m_asSeen (row := u) s (j5.1 6 (by omega) (by omega) (by omega)) (j5.2.2 21 (by omega) (by omega) (by omega) (by omega)) p5 (by rw [j5.2.2 1 (by omega) (by omega) (by omega) (by omega), m5]; exact hTk) (up_WF w (by omega) (by omega) (by omega)) (by omega) (by omega) (fun N7 v7 l7 o7 => ?_)
    have key := ih N7 ⟨j5.v v7, fun u' hu' => ?_⟩
    · rw [nI_1]
      by_cases z : ftF n a g v E (17 + t) u = true
      · rw [show ftB (ftF n a g v E (17 + t)) (u + 1) = ftB (ftF n a g v E (17 + t)) u ||| sl 1 (nI u) from if_pos z] at key
        rw [if_pos (show fkB n a g v (up E (17 + t) u) 21 = true from z), if_neg (by decide)]
        exact key
      · rw [show ftB (ftF n a g v E (17 + t)) (u + 1) = ftB (ftF n a g v E (17 + t)) u from if_neg z] at key
        rw [if_neg (show ¬ fkB n a g v (up E (17 + t) u) 21 = true from z), if_pos rfl, Int32.or_zero]
        exact key
    · by_cases z : u' = u
      · subst z
        exact l7
      · intro i g hi hg
        rw [o7 _ (by omega), e5, mu_c (by omega)]
        exact lr u' (by omega) i g hi hg
theorem op_kinds_ok : op_kinds Rel0 := by
  intro X M x ⟨E, hN, hR⟩
  have hN' := hN
  obtain ⟨w, h9, hX, hM, hTk⟩ := hN
  have h5 := w.2.2.2.2.1
  obtain ⟨n, a, g, v, s⟩ := hR.2.2.1.sv
  unfold w_X7_kinds
  rcases dT x (E 44) with ⟨t, ht, rfl⟩ | hno
  · refine c_tk1 hX w ht (b0 ?_)
    exact c_fitting (b := 12) (c := 3) (e := 3) s hX w h9 ht (by omega) (cxt t (by omega)).1 (by omega) (by omega) (fun u hu => up_WF w (by omega) (by omega) (by omega)) X (fun _ _ => rfl) (fun X' f => m_kinds s hM hTk w h9 ht (fun M' g => ⟨rfl, Rel0.q hN' hR f.q g⟩))
  · exact c_tk0 hX w hno (b1 (m_tk0 hTk w hno (b0 ⟨rfl, E, hN', hR⟩)))
theorem op_gates_ok : op_gates Rel0 := by
  intro X M x ⟨E, hN, hR⟩
  have hN' := hN
  obtain ⟨w, h9, hX, hM, hTk⟩ := hN
  have h5 := w.2.2.2.2.1
  obtain ⟨n, a, g, v, s⟩ := hR.2.2.1.sv
  unfold w_X7_gates
  rcases dT x (E 44) with ⟨t, ht, rfl⟩ | hno
  · refine c_tk1 hX w ht (b0 ?_)
    exact c_fitting (b := 17) (c := 4) (e := 5) s hX w h9 ht (by omega) (cxt t (by omega)).2.1 (by omega) (by omega) (fun u hu => up_WF w (by omega) (by omega) (by omega)) X (fun _ _ => rfl) (fun X' f => m_tk1 hTk w ht (b1 (m_gatesOf s hM hTk w h9 ht (fun M' g _ => ⟨rfl, Rel0.q hN' hR f.q g⟩))))
  · exact c_tk0 hX w hno (b1 (m_tk0 hTk w hno (b0 ⟨rfl, E, hN', hR⟩)))
