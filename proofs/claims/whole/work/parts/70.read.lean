/-! sendings read off a sheet -/
theorem RR.torn {X M : Mem} {n : Nat} {v : Int32} (h : RR X M n) : RR (mu X 0 10 v) (mu M 0 27 v) n := by
  obtain ⟨a, b, c, d, e, i⟩ := h
  have z3 : ∀ a, a ≠ 0 → mu X 0 10 v a = X a := fun a h => mu_c h
  have z5 : ∀ a, a ≠ 0 → mu M 0 27 v a = M a := fun a h => mu_c h
  have y5 : ∀ k, k ≠ 27 → mu M 0 27 v 0 k = M 0 k := fun k h => by rw [mu_at, if_neg (by omega)]
  refine ⟨a.cg (z3 _ (by omega)) (fun a h1 _ => z3 a (by omega)) (z5 _ (by omega)) (fun j h1 h2 => by rw [z5 1 (by omega)]), b.cg (by rw [z3 22 (by omega)]) (z3 _ (by omega)) (y5 _ (by omega)) (z5 _ (by omega)), c.cg (by rw [z3 25 (by omega)]) (z3 _ (by omega)) (z3 _ (by omega)) (z3 _ (by omega)) (y5 _ (by omega)) (z5 _ (by omega)), d.cg (fun a ha => z3 a (by omega)) (z5 _ (by omega)) (z5 _ (by omega)) (z5 _ (by omega)), ⟨?_, ?_⟩, ⟨?_, ?_⟩⟩
  · rw [mu_at, if_neg (by omega), y5 7 (by omega)]
    exact e.1
  · rw [mu_at, if_pos ⟨rfl, rfl⟩, mu_at, if_pos ⟨rfl, rfl⟩]
  · rw [z5 4 (by omega)]
    exact i.1
  · rw [z5 5 (by omega)]
    exact i.2
theorem Rel0.torn {X M : Mem} {v : Int32} (h : Rel0 X M) : Rel0 (mu X 0 10 v) (mu M 0 27 v) := by
  obtain ⟨E, hN, hR⟩ := h
  exact ⟨E, hN.cg (fun a h1 _ => mu_c (by omega)) (fun j _ => by rw [mu_c (by omega)]) (by rw [mu_at, if_neg (by omega)]), hR.torn⟩
theorem f_nI {f : Int32} {c j : Nat} (hc : c < 2 ^ 30) (hj : j < 2 ^ 30) : f + nI c = nI j ↔ f.toInt + c = j := by
  constructor
  · intro h
    have e : f = nI j - nI c := by
      rw [← h, Int32.add_sub_cancel]
    rw [e, sub_toInt hj hc]
    omega
  · intro h
    have e : f = nI j - nI c := by
      apply Int32.toInt_inj.mp
      rw [sub_toInt hj hc]
      omega
    rw [e, sac]
theorem w_lk {X : Mem} {o s c : Nat} {f : Int32} {Q : Int32 → Prop} (h : X o 1 = nI s) (hs : s ≤ 40) (hc : c < 100) (q : ((0 ≤ f.toInt + c ∧ f.toInt + c < s) → Q 0) ∧ (¬ (0 ≤ f.toInt + c ∧ f.toInt + c < s) → Q 1)) : w_X2_lacks o (f + nI c) X Q := by
  refine w_lacks h hs ⟨fun i hi e => q.1 ?_, fun hno => q.2 (fun z => ?_)⟩
  · have := (f_nI (by omega) (by omega)).mp e
    omega
  · exact hno (f.toInt + c).toNat (by omega) ((f_nI (by omega) (by omega)).mpr (by omega))
theorem m_lk {M : Mem} {s c : Nat} {f : Int32} {Q : Int32 → Prop} (hs : s ≤ 40) (hc : c < 100) (q : ((0 ≤ f.toInt + c ∧ f.toInt + c < s) → Q 1) ∧ (¬ (0 ≤ f.toInt + c ∧ f.toInt + c < s) → Q 0)) : w_X8_in (f.toInt64 + (nI c).toInt64) 0 (nI s - 1).toInt64 M Q := by
  have b1 := Int32.toInt_lt f
  have b2 := Int32.le_toInt f
  have e1 : (f.toInt64 + (nI c).toInt64).toInt = f.toInt + c := by
    rw [Int64.toInt_add, Int32.toInt_toInt64, Int32.toInt_toInt64, nI_toInt (by omega)]
    exact Int.bmod_eq_of_le (by omega) (by omega)
  have e2 : (nI s - 1).toInt64.toInt = s - 1 := by
    rw [Int32.toInt_toInt64, show nI s - 1 = nI s - nI 1 from rfl, sub_toInt (by omega) (by omega)]
    omega
  have e0 : (0 : Int64).toInt = 0 := by decide
  unfold w_X8_in
  by_cases h1 : f.toInt + c < 0
  · rw [if_pos (lgc.mpr (by rw [Int64.lt_iff_toInt_lt, e1, e0]; exact h1))]
    exact ⟨nb0, q.2 (by omega)⟩
  · rw [if_neg (fun z => h1 (by have := lgc.mp z; rw [Int64.lt_iff_toInt_lt, e1, e0] at this; exact this))]
    by_cases h2 : f.toInt + c < s
    · rw [if_neg (fun z => by have := lgc2.mp z; rw [Int64.lt_iff_toInt_lt, e1, e2] at this; omega)]
      exact ⟨nb1, q.1 (by omega)⟩
    · rw [if_pos (lgc2.mpr (by rw [Int64.lt_iff_toInt_lt, e1, e2]; omega))]
      exact ⟨nb0, q.2 (by omega)⟩
/-- may one be sent -/
abbrev snd (E : Es) (x y : Int32) : Prop := (¬ x < 0 ∧ x ≤ nI (E 44) - 1) ∧ (¬ y < nI 0 ∧ y ≤ nI 5) ∧ E 42 < 999
theorem snd_iff {E : Es} {x y : Int32} (w : WF E) : snd E x y ↔ (∃ t, t < E 44 ∧ x = nI t) ∧ (∃ g, g ≤ 5 ∧ y = nI g) ∧ E 42 < 999 := by
  have h5 := w.2.2.2.2.1
  constructor
  · rintro ⟨h1, h2, h3⟩
    obtain ⟨g, -, hg, e⟩ := (rgI (by omega) (by omega)).mp h2
    exact ⟨(rgT (by omega)).mp h1, ⟨g, hg, e⟩, h3⟩
  · rintro ⟨h1, ⟨g, hg, e⟩, h3⟩
    exact ⟨(rgT (by omega)).mpr h1, (rgI (by omega) (by omega)).mpr ⟨g, by omega, hg, e⟩, h3⟩
def snE (E : Es) (x y : Int32) : Es := nE false (up E (17 + x.toNatClampNeg) y.toNatClampNeg)
def rdO (F : Int) (s : Nat) (c : Nat → Int32) : Nat → Nat → Es → Nat × Es × Nat
  | 0, i, E => (0, E, i)
  | r + 1, i, E => if 0 ≤ F + 2 * i ∧ F + 2 * i + 1 < s then (if snd E (c (F + 2 * i).toNat) (c ((F + 2 * i).toNat + 1)) then rdO F s c r (i + 1) (snE E (c (F + 2 * i).toNat) (c ((F + 2 * i).toNat + 1))) else (1, E, i)) else (2, E, i)
theorem c_fin {X N : Mem} {E : Es} {u v : Int32} {Q : Int32 → Mem → Prop} (h : EX N 12 E) (g : gX X N) (q : ∀ X', EX X' 1 E → fX X X' → Q v (mu X' 0 10 u)) : w_X7_read_162 u v N Q := by
  refine w_copy h (by omega) (fun X' a f => ?_)
  intro M15 e15
  rw [e15]
  exact q X' a (fun b hb => by rw [f b (by omega), g b (by omega)])
theorem snE_fix {E : Es} {x y : Int32} (w : WF E) (h : snd E x y) : WF (snE E x y) ∧ snE E x y 44 = E 44 ∧ snE E x y 42 = E 42 + 1 := by
  obtain ⟨⟨t, ht, rfl⟩, ⟨g, hg, rfl⟩, h9⟩ := (snd_iff w).mp h
  have h5 := w.2.2.2.2.1
  unfold snE
  rw [nI_clamp (by omega), nI_clamp (by omega)]
  have w2 : WF (up E (17 + t) g) := up_WF w (by omega) (by omega) (by omega)
  have e42 : up E (17 + t) g 42 = E 42 := up_n (by omega)
  have e44 : up E (17 + t) g 44 = E 44 := up_n (by omega)
  obtain ⟨a, b, c, d⟩ := nE_fix false _ w2 (by omega)
  exact ⟨a, b.trans e44, by omega⟩
/-- what the class does with a sending -/
theorem c_send {N : Mem} {E E' : Es} {i T C B F : Nat} {x y : Int32} {Q : Int32 → Mem → Prop} (hX : EX N 1 E) (w : WF E) (w' : WF E') (e44 : E' 44 = E 44) (t : TX N E' i T C B F) (hF : F ≤ i) (hi : i < 100) (q : (snd E' x y → ∀ N' T' C' B' F', F' ≤ i + 1 → TX N' (snE E' x y) (i + 1) T' C' B' F' → gX N N' → Q 1 N') ∧ (¬ snd E' x y → Q 0 N)) : w_X7_sendTaker x y N Q := by
  have h5 := w.2.2.2.2.1
  unfold w_X7_sendTaker
  rcases dT x (E 44) with ⟨p, hp, rfl⟩ | hno
  · refine c_tk1 hX w hp (b0 ?_)
    rcases dR y 0 5 with ⟨g, -, hg, rfl⟩ | hno
    · refine c_gt1 hg (b0 ?_)
      rw [show N 12 11 = nI (E' 42) from t.1.ni]
      have h42 := w'.2.2.2.2.2.1
      refine pk_lt (E' 42) 999 (fun h => ?_) (fun h => q.2 (fun z => by have := z.2.2; omega))
      have sn : snd E' (nI p) (nI g) := (snd_iff w').mpr ⟨⟨p, by omega, rfl⟩, ⟨g, hg, rfl⟩, h⟩
      rw [nI_clamp (by omega)]
      refine ⟨vp_in_nI (by omega) (by omega), fun X6 e6 => ?_⟩
      have t6 : TX X6 (up E' (17 + p) g) i T C B F := by
        obtain ⟨y0, y1, y2, y3, y4, y5⟩ := t
        rw [e6]
        exact ⟨y0.set' (cxt p (by omega)).2.1 (by omega) (by omega) (by omega), by rw [mu_c (by omega)]; exact y1, by rw [mu_c (by omega)]; exact y2, by rw [mu_c (by omega)]; exact y3, by rw [mu_c (by omega)]; exact y4, by rw [mu_c (by omega)]; exact y5⟩
      have w2 : WF (up E' (17 + p) g) := up_WF w' (by omega) (by omega) (by omega)
      have e42 : up E' (17 + p) g 42 = E' 42 := up_n (by omega)
      refine w_one (hz := false) t6 w2 (by omega) (by omega) ⟨fun _ => rfl, fun _ => rfl⟩ (fun X8 t8 g8 => ?_)
      have se : snE E' (nI p) (nI g) = nE false (up E' (17 + p) g) := by
        unfold snE
        rw [nI_clamp (by omega), nI_clamp (by omega)]
      rw [← se] at t8
      refine q.1 sn X8 _ _ _ _ (fst_le hF) t8 ?_
      refine gX.tr ?_ g8
      rw [e6]
      exact gX.rf.mu (by omega) (by omega)
    · exact c_gt0 hno (b1 (q.2 (fun z => by
        obtain ⟨g, hg, e⟩ := ((snd_iff w').mp z).2.1
        exact hno g (by omega) hg e)))
  · exact c_tk0 hX w hno (b1 (q.2 (fun z => by
      obtain ⟨p, hp, e⟩ := ((snd_iff w').mp z).1
      exact hno p (by omega) e)))
def rdQ (X : Mem) (Q : Int32 → Mem → Prop) (o : Nat × Es × Nat) : Prop := (o.1 = 1 → ∀ X', qX X X' → Q (-20 - nI o.2.2) X') ∧ (o.1 ≠ 1 → ∀ X', EX X' 1 o.2.1 → fX X X' → Q (nI o.2.2) (mu X' 0 10 (nI o.1)))
theorem c_read {X : Mem} {E : Es} {k n s : Nat} {f : Int32} {c : Nat → Int32} {Q : Int32 → Mem → Prop} (h : EX X 1 E) (w : WF E) (h9 : E 42 ≤ 999) (hn : n ≤ 20) (hs : s ≤ 40) (hk : k ≤ 3) (s1 : X (shI k) 1 = nI s) (hc : ∀ j, j < 40 → X (shI k + 1) j = c j) (q : rdQ X Q (rdO f.toInt s c n 0 E)) : w_X7_read_52 f (nI n) (shI k) 0 X Q := by
  have ek := shk k
  refine w_begin h (fun X11 t11 g11 => ⟨n + 2, ?_⟩)
  have main : ∀ r i N E', r + i = n → WF E' → E' 44 = E 44 → E' 42 ≤ 999 → gX X N → (∃ T C B F, F ≤ i ∧ TX N E' i T C B F) → rdO f.toInt s c r i E' = rdO f.toInt s c n 0 E → fu4 (w_X7_read_71 f (nI n) (shI k) Q) (r + 2) 0 (nI i) (nI i) N := by
    intro r
    induction r with
    | zero =>
      intro i N E' hi w' e4 e9 g ⟨T, C, B, F, hF, t⟩ e
      have e1 : i = n := by omega
      subst e1
      refine pk_le i i (fun _ => ?_) (fun z => by omega)
      rw [← e] at q
      exact c_fin t.1 g (fun X' a f' => q.2 (by show 0 ≠ 1; omega) X' a f')
    | succ r ih =>
      intro i N E' hi w' e4 e9 g ⟨T, C, B, F, hF, t⟩ e
      show w_X7_read_71 f (nI n) (shI k) Q (fu4 (w_X7_read_71 f (nI n) (shI k) Q) (r + 2)) 0 (nI i) (nI i) N
      have bad : rdO f.toInt s c (r + 1) i E' = (2, E', i) → w_X7_read_113 f (nI n) (shI k) (nI i) (nI i) N (fu4 (w_X7_read_71 f (nI n) (shI k) Q) (r + 2)) Q := by
        intro e2
        unfold w_X7_read_113 w_X7_read_156
        show w_X7_read_71 f (nI n) (shI k) Q (fu4 (w_X7_read_71 f (nI n) (shI k) Q) (r + 1)) 2 (nI i) (nI i + 1) N
        generalize fu4 (w_X7_read_71 f (nI n) (shI k) Q) (r + 1) = K
        have fin : w_X7_read_162 2 (nI i) N Q := by
          rw [← e, e2] at q
          exact c_fin t.1 g (fun X' a f' => q.2 (by show 2 ≠ 1; omega) X' a f')
        rw [nI_1]
        exact pk_le n (i + 1) (fun _ => fin) (fun _ => ⟨fun z => absurd z (by decide), fun _ => fin⟩)
      generalize fu4 (w_X7_read_71 f (nI n) (shI k) Q) (r + 2) = K at ih bad ⊢
      refine pk_le n i (fun z => by omega) (fun _ => ⟨fun _ => ?_, fun z => absurd rfl z⟩)
      have s2 : N (shI k) 1 = nI s := by rw [g (shI k) (by omega)]; exact s1
      have c2 : ∀ j, j < 40 → N (shI k + 1) j = c j := fun j hj => by rw [g (shI k + 1) (by omega)]; exact hc j hj
      rw [show (2 : Int32) * nI i = nI (2 * i) from nIm 2 i, show f + nI (2 * i) + 1 = f + nI (2 * i + 1) from by rw [Int32.add_assoc, nI_1]]
      have no2 : ¬ (0 ≤ f.toInt + 2 * (i : Int) ∧ f.toInt + 2 * (i : Int) + 1 < s) → rdO f.toInt s c (r + 1) i E' = (2, E', i) := fun z => if_neg z
      refine w_lk s2 hs (by omega) ⟨fun z1 => b0 ?_, fun z1 => b1 (bad (no2 (by omega)))⟩
      refine w_lk s2 hs (by omega) ⟨fun z2 => b0 ?_, fun z2 => b1 (bad (no2 (by omega)))⟩
      have yes : 0 ≤ f.toInt + 2 * (i : Int) ∧ f.toInt + 2 * (i : Int) + 1 < s := by omega
      have f1 : f + nI (2 * i) = nI (f.toInt + 2 * i).toNat := (f_nI (by omega) (by omega)).mpr (by omega)
      have f2 : f + nI (2 * i + 1) = nI ((f.toInt + 2 * i).toNat + 1) := (f_nI (by omega) (by omega)).mpr (by omega)
      rw [f1, f2, nI_clamp (by omega), nI_clamp (by omega), c2 _ (by omega), c2 _ (by omega)]
      have e3 : rdO f.toInt s c (r + 1) i E' = _ := if_pos yes
      refine ⟨vp_in_nI (by omega) (by omega), vp_in_nI (by omega) (by omega), ?_⟩
      refine c_send (g.ex h) w w' e4 t hF (by omega) ⟨fun sn N' T' C' B' F' hF' t' g' => b1 ?_, fun sn => b0 ?_⟩
      · rw [if_pos sn] at e3
        unfold w_X7_read_156
        rw [nI_1]
        obtain ⟨w3, e5, e6⟩ := snE_fix w' sn
        have := sn.2.2
        exact ih (i + 1) N' _ (by omega) w3 (e5.trans e4) (by omega) (g.tr g') ⟨T', C', B', F', hF', t'⟩ (e3.symm.trans e)
      · rw [if_neg sn] at e3
        rw [← e, e3] at q
        unfold w_X7_read_150
        exact q.1 rfl N g.q
  exact main n 0 X11 E (by omega) w rfl h9 g11 ⟨0, 0, 0, 0, Nat.le_refl _, t11⟩ rfl
theorem c_readF {X : Mem} {E : Es} {k n v : Nat} {f : Int32} {Q : Int32 → Mem → Prop} (h : EX X 1 E) (hn : n ≤ 20) (hv : v = 1 ∨ v = 3) (q : ∀ X', EX X' 1 E → fX X X' → Q 0 (mu X' 0 10 (nI v))) : w_X7_read_52 f (nI n) (shI k) (nI v) X Q := by
  refine w_begin h (fun X11 t11 g11 => ⟨1, ?_⟩)
  show w_X7_read_71 _ _ _ _ _ _ _ _ _
  have fin : w_X7_read_162 (nI v) 0 X11 Q := c_fin t11.1 g11 q
  exact pk_le n 0 (fun _ => fin) (fun _ => ⟨fun z => absurd z (nI_ne0 (by omega) (by omega)), fun _ => fin⟩)
/-- the reference's -/
def mdQ (M : Mem) (E : Es) (Q : Int32 → Mem → Prop) (o : Nat × Es × Nat) : Prop := (o.1 = 1 → ∀ M', PM M' 0 E → fM M M' → Q (-20 - nI o.2.2) M') ∧ (o.1 ≠ 1 → ∀ M', PM M' 0 o.2.1 → fM M M' → Q (nI o.2.2) (mu M' 0 27 (nI o.1)))
theorem rm2 {a : Nat} (h : a < 2 ^ 31) : irm (nI a) 2 = nI (a % 2) := pk_rem (d := 2) h (by omega) (by omega)
theorem m_undo {M N : Mem} {E : Es} {x : Int32} {Q : Int32 → Mem → Prop} (p : PM N 132 E) (g : fM M N) (q : ∀ M', PM M' 0 E → fM M M' → Q (-20 - x) M') : w_X8_read_189 x N Q := by
  refine m_copies (a := 132) (b := 0) (by omega) (by omega) (by omega) (fun M' c1 c2 c3 => q M' (fun i hi hok => ?_) ?_)
  · rw [c1 i hi]
    exact p i hi hok
  · exact g.tr ⟨fun a h0 h1 _ => c2 a h1, fun j h1 h2 => c3 j (by omega), fun k _ _ _ _ => by rw [c2 0 (by omega)]⟩
theorem m_read {M : Mem} {E : Es} {k n s l : Nat} {f : Int32} {c : Nat → Int32} {Q : Int32 → Mem → Prop} (h : PM M 0 E) (hTk : M 0 1 = nI (E 44)) (w : WF E) (h9 : E 42 ≤ 999) (hn : n ≤ 20) (hs : s ≤ 40) (hk : k ≤ 3) (l1 : M 9 k = nI l) (hl : l < 3) (s1 : M 10 k = nI s) (hc : ∀ j, j < 40 → M 11 (40 * k + j) = c j) (q : mdQ M E Q (rdO f.toInt s c n 0 E)) : w_X8_copies 0 132 M (fun M8 => ∃ m, fu4 (w_X8_read_56 (nI k) (nI l) f (nI n) Q) m 0 0 0 M8) := by
  have h5 := w.2.2.2.2.1
  have ev : vp_in (nI k) 4 := vp_in_nI (by omega) (by omega)
  refine m_copies (a := 0) (b := 132) (by omega) (by omega) (by omega) (fun M8 c1 c2 c3 => ⟨2 * n + 2, ?_⟩)
  have g8 : fM M M8 := ⟨fun a h0 h1 _ => c2 a h1, fun j h1 h2 => c3 j (by omega), fun k _ _ _ _ => by rw [c2 0 (by omega)]⟩
  have p8 : PM M8 132 E := fun i hi hok => by
    rw [c1 i hi]
    exact h i hi hok
  have n8 : PM M8 0 E := fun i hi hok => by
    rw [c3 _ (by omega)]
    exact h i hi hok
  have main : ∀ r i N E', r + i = n → WF E' → E' 44 = E 44 → E' 42 ≤ 999 → fM M N → PM N 132 E → PM N 0 E' → rdO f.toInt s c r i E' = rdO f.toInt s c n 0 E → fu4 (w_X8_read_56 (nI k) (nI l) f (nI n) Q) (2 * r + 2) 0 (nI i) (nI (2 * i)) N := by
    intro r
    induction r with
    | zero =>
      intro i N E' hi w' e4 e9 g p132 p0 e
      have e1 : i = n := by omega
      subst e1
      show w_X8_read_56 _ _ _ _ _ _ _ _ _ _
      unfold w_X8_read_56
      rw [show (2 : Int32) * nI i = nI (2 * i) from nIm 2 i]
      refine pk_le (2 * i) (2 * i) (fun _ => ?_) (fun z => by omega)
      rw [← e] at q
      intro M10 e10
      rw [e10]
      exact q.2 (by show 0 ≠ 1; omega) N p0 g
    | succ r ih =>
      intro i N E' hi w' e4 e9 g p132 p0 e
      have kl : N 9 k = nI l := by rw [g.1 9 (by omega) (by omega) (by omega)]; exact l1
      have ks : N 10 k = nI s := by rw [g.1 10 (by omega) (by omega) (by omega)]; exact s1
      have kc : ∀ j, j < 40 → N 11 (40 * k + j) = c j := fun j hj => by rw [g.1 11 (by omega) (by omega) (by omega)]; exact hc j hj
      have kT : N 0 1 = nI (E' 44) := by rw [g.2.2 1 (by omega) (by omega) (by omega) (by omega), e4]; exact hTk
      have no2 : ¬ (0 ≤ f.toInt + 2 * (i : Int) ∧ f.toInt + 2 * (i : Int) + 1 < s) → rdO f.toInt s c (r + 1) i E' = (2, E', i) := fun z => if_neg z
      have out : ∀ m j, rdO f.toInt s c (r + 1) i E' = (2, E', i) → fu4 (w_X8_read_56 (nI k) (nI l) f (nI n) Q) (m + 1) 2 (nI i) (nI j) N := by
        intro m j e2
        show w_X8_read_56 (nI k) (nI l) f (nI n) Q (fu4 (w_X8_read_56 (nI k) (nI l) f (nI n) Q) m) 2 (nI i) (nI j) N
        generalize fu4 (w_X8_read_56 (nI k) (nI l) f (nI n) Q) m = K
        have fin : w_X8_read_218 2 (nI i) N Q := by
          rw [← e, e2] at q
          intro M10 e10
          rw [e10]
          exact q.2 (by show 2 ≠ 1; omega) N p0 g
        exact br_c (fun _ => fin) (fun _ => ⟨fun z => absurd z (by decide), fun _ => fin⟩)
      rw [show 2 * (r + 1) + 2 = (2 * r + 2) + 1 + 1 by omega]
      show w_X8_read_56 (nI k) (nI l) f (nI n) Q (fu4 (w_X8_read_56 (nI k) (nI l) f (nI n) Q) (2 * r + 2 + 1)) 0 (nI i) (nI (2 * i)) N
      have half : ¬ ¬ (0 ≤ f.toInt + ((2 * i : Nat) : Int) ∧ f.toInt + ((2 * i : Nat) : Int) < s) → fu4 (w_X8_read_56 (nI k) (nI l) f (nI n) Q) (2 * r + 2 + 1) 0 (nI i) (nI (2 * i + 1)) N := by
        intro z1
        have z1 := Classical.not_not.mp z1
        show w_X8_read_56 (nI k) (nI l) f (nI n) Q (fu4 (w_X8_read_56 (nI k) (nI l) f (nI n) Q) (2 * r + 2)) 0 (nI i) (nI (2 * i + 1)) N
        have out2 := out (2 * r + 1) (2 * i + 1 + 1)
        generalize fu4 (w_X8_read_56 (nI k) (nI l) f (nI n) Q) (2 * r + 2) = K at ih out2 ⊢
        unfold w_X8_read_56
        rw [show (2 : Int32) * nI n = nI (2 * n) from nIm 2 n, nI_clamp (by omega), kl, ks]
        refine pk_le (2 * n) (2 * i + 1) (fun z => by omega) (fun _ => ⟨fun _ => ⟨ev, fun z => absurd z (nI_nm4 (by omega)), fun _ => ⟨ev, fun _ => ⟨ev, ?_⟩, fun z => absurd rfl z⟩⟩, fun z => absurd rfl z⟩)
        refine m_lk hs (by omega) ⟨fun z2 => ?_, fun z2 => ?_⟩
        · rw [if_neg (by decide)]
          unfold w_X8_read_126
          refine ⟨fun _ => ?_, fun z => absurd rfl z⟩
          rw [rm2 (by omega), show (2 * i + 1) % 2 = 1 by omega]
          refine ⟨fun _ => ?_, fun z => absurd rfl z⟩
          rw [p0.k42]
          have yes : 0 ≤ f.toInt + 2 * (i : Int) ∧ f.toInt + 2 * (i : Int) + 1 < s := by omega
          have e3 : rdO f.toInt s c (r + 1) i E' = _ := if_pos yes
          have undo : ∀ N', PM N' 132 E → fM M N' → ¬ snd E' (c (f.toInt + 2 * i).toNat) (c ((f.toInt + 2 * i).toNat + 1)) → w_X8_read_189 (nI i) N' Q := by
            intro N' p' g' sn
            rw [if_neg sn] at e3
            rw [← e, e3] at q
            exact m_undo p' g' (q.1 rfl)
          refine ⟨i42, pk_eq (E' 42) 999 (fun z => undo N p132 g (fun sn => by have := sn.2.2; omega)) (fun z => ?_)⟩
          have f1 : f + nI (2 * i) = nI (f.toInt + 2 * i).toNat := (f_nI (by omega) (by omega)).mpr (by omega)
          have ix : ((40 * nI k) + f) + nI (2 * i + 1) = nI (40 * k + (f.toInt + 2 * i).toNat + 1) := by
            rw [show (40 : Int32) * nI k = nI (40 * k) from nIm 40 k, ← nI_1, Int32.add_assoc, ← Int32.add_assoc f, f1, ← Int32.add_assoc, nI_add, nI_1]
          rw [ix, nI_pred, nI_clamp (by omega), nI_clamp (by omega), kc _ (by omega), show 40 * k + (f.toInt + 2 * i).toNat + 1 = 40 * k + ((f.toInt + 2 * i).toNat + 1) by omega, kc _ (by omega)]
          refine ⟨vp_in_nI (by omega) (by omega), vp_in_nI (by omega) (by omega), ?_⟩
          by_cases sn : snd E' (c (f.toInt + 2 * i).toNat) (c ((f.toInt + 2 * i).toNat + 1))
          · rw [if_pos sn] at e3
            obtain ⟨w3, e5, e6⟩ := snE_fix w' sn
            obtain ⟨⟨t, ht, et⟩, ⟨g2, hg2, eg⟩, h99⟩ := (snd_iff w').mp sn
            have es : snE E' (c (f.toInt + 2 * i).toNat) (c ((f.toInt + 2 * i).toNat + 1)) = nE false (up E' (17 + t) g2) := by
              unfold snE
              rw [et, eg, nI_clamp (by omega), nI_clamp (by omega)]
            rw [es] at e3 e5 e6 w3
            rw [et, eg]
            refine m_alters1 (k := 1) w' kT p0 ht (by omega) hg2 ?_
            have hg5 := (w'.2.1 t ht).2.1
            rw [show 12 + 5 * 1 + t = 17 + t by omega]
            refine ⟨fun _ => ?_, fun z => absurd (nI_pos' (by omega)) z⟩
            have pu : PM (mu N 1 (17 + t) (nI g2)) 0 (up E' (17 + t) g2) := by
              have := p0.set0 (i := 17 + t) (n := g2) (by omega) (by omega) (by omega)
              rwa [Nat.zero_add] at this
            have w2 : WF (up E' (17 + t) g2) := up_WF w' (by omega) (by omega) (by omega)
            have e44 : up E' (17 + t) g2 44 = E' 44 := up_n (by omega)
            refine m_night (p := 0) (hz := false) pu (by rw [mu_c (by omega), e44]; exact kT) w2 (by omega) ⟨fun _ => rfl, fun _ => rfl⟩ (fun N2 q2 r2 _ _ _ => ?_)
            unfold w_X8_read_212
            rw [nI_1, nI_1, show 2 * i + 1 + 1 = 2 * (i + 1) by omega]
            refine ih (i + 1) N2 _ (by omega) w3 (e5.trans e4) (by omega) ?_ ?_ q2 (e3.symm.trans e)
            · refine g.tr ⟨fun a h0 h1 h7 => ?_, fun j h1 h2 => ?_, fun k a b c _ => ?_⟩
              · rw [r2.1 a h0 h1, mu_c h1]
              · rw [r2.2.1 j (by omega), mu_at, if_neg (by omega)]
              · rw [r2.2.2 k a b c, mu_c (by omega)]
            · intro j hj hok
              rw [r2.2.1 _ (by omega), mu_at, if_neg (by omega)]
              exact p132 j hj hok
          · have al : w_X8_alters (c (f.toInt + 2 * i).toNat) 1 (c ((f.toInt + 2 * i).toNat + 1)) N (fun r21 M22 => (0 ≤ r21 → w_X8_nightOn 0 0 M22 (fun M25 => w_X8_read_212 (nI k) (nI l) f (nI n) 0 (nI i + 1) (nI (2 * i + 1)) M25 K Q)) ∧ (¬ 0 ≤ r21 → w_X8_read_189 (nI i) M22 Q)) := by
              refine m_alters0 w' kT ?_ ⟨fun z => absurd z (by decide), fun _ => undo N p132 g sn⟩
              rcases dT (c (f.toInt + 2 * i).toNat) (E' 44) with ⟨t, ht, et⟩ | hno
              · rcases dR (c ((f.toInt + 2 * i).toNat + 1)) 0 5 with ⟨g2, -, hg2, eg⟩ | hno
                · exact absurd ((snd_iff w').mpr ⟨⟨t, ht, et⟩, ⟨g2, hg2, eg⟩, by omega⟩) sn
                · exact Or.inr (Or.inr ⟨1, by omega, rfl, hno⟩)
              · exact Or.inl hno
            exact al
        · rw [if_pos rfl]
          unfold w_X8_read_126
          refine ⟨fun z => absurd z (by decide), fun _ => ?_⟩
          unfold w_X8_read_212
          rw [nI_1]
          exact out2 (no2 (by omega))
      have out2 := out (2 * r + 2) (2 * i + 1)
      generalize fu4 (w_X8_read_56 (nI k) (nI l) f (nI n) Q) (2 * r + 2 + 1) = K at half out2 ⊢
      unfold w_X8_read_56
      rw [show (2 : Int32) * nI n = nI (2 * n) from nIm 2 n, nI_clamp (by omega), kl, ks]
      refine pk_le (2 * n) (2 * i) (fun z => by omega) (fun _ => ⟨fun _ => ⟨ev, fun z => absurd z (nI_nm4 (by omega)), fun _ => ⟨ev, fun _ => ⟨ev, ?_⟩, fun z => absurd rfl z⟩⟩, fun z => absurd rfl z⟩)
      refine m_lk hs (by omega) ⟨fun z2 => ?_, fun z2 => ?_⟩
      · rw [if_neg (by decide)]
        unfold w_X8_read_126
        refine ⟨fun _ => ?_, fun z => absurd rfl z⟩
        rw [rm2 (by omega), show 2 * i % 2 = 0 by omega]
        refine ⟨fun z => absurd z (by decide), fun _ => ?_⟩
        unfold w_X8_read_212
        rw [nI_1]
        exact half (fun z => z z2)
      · rw [if_pos rfl]
        unfold w_X8_read_126
        refine ⟨fun z => absurd z (by decide), fun _ => ?_⟩
        unfold w_X8_read_212
        rw [nI_1]
        exact out2 (no2 (by omega))
  exact main n 0 M8 E (by omega) w rfl h9 g8 p8 n8 rfl
theorem m_readF {M : Mem} {E : Es} {k n v l : Nat} {f : Int32} {Q : Int32 → Mem → Prop} (h : PM M 0 E) (hn : n ≤ 20) (hn1 : 1 ≤ n) (hk : k ≤ 3) (hl : l < 3) (hv : (v = 1 ∧ M 9 k = -4) ∨ (v = 3 ∧ ∃ l', l' < 3 ∧ M 9 k = nI l' ∧ l' ≠ l)) (q : ∀ M', PM M' 0 E → fM M M' → Q 0 (mu M' 0 27 (nI v))) : w_X8_copies 0 132 M (fun M8 => ∃ m, fu4 (w_X8_read_56 (nI k) (nI l) f (nI n) Q) m 0 0 0 M8) := by
  have ev : vp_in (nI k) 4 := vp_in_nI (by omega) (by omega)
  refine m_copies (a := 0) (b := 132) (by omega) (by omega) (by omega) (fun M8 c1 c2 c3 => ⟨2, ?_⟩)
  have g8 : fM M M8 := ⟨fun a h0 h1 _ => c2 a h1, fun j h1 h2 => c3 j (by omega), fun k _ _ _ _ => by rw [c2 0 (by omega)]⟩
  have n8 : PM M8 0 E := fun i hi hok => by
    rw [c3 _ (by omega)]
    exact h i hi hok
  show w_X8_read_56 (nI k) (nI l) f (nI n) Q (fu4 (w_X8_read_56 (nI k) (nI l) f (nI n) Q) 1) 0 0 0 M8
  have fin : fu4 (w_X8_read_56 (nI k) (nI l) f (nI n) Q) 1 (nI v) 0 (0 + 1) M8 := by
    show w_X8_read_56 (nI k) (nI l) f (nI n) Q (fu4 (w_X8_read_56 (nI k) (nI l) f (nI n) Q) 0) (nI v) 0 (0 + 1) M8
    generalize fu4 (w_X8_read_56 (nI k) (nI l) f (nI n) Q) 0 = K
    have e : w_X8_read_218 (nI v) 0 M8 Q := by
      intro M10 e10
      rw [e10]
      exact q M8 n8 g8
    exact br_c (fun _ => e) (fun _ => ⟨fun z => absurd z (nI_ne0 (by omega) (by omega)), fun _ => e⟩)
  generalize fu4 (w_X8_read_56 (nI k) (nI l) f (nI n) Q) 1 = K at fin ⊢
  unfold w_X8_read_56
  rw [show (2 : Int32) * nI n = nI (2 * n) from nIm 2 n, nI_clamp (by omega), c2 9 (by omega), c2 10 (by omega)]
  refine pk_le (2 * n) 0 (fun z => by omega) (fun _ => ⟨fun _ => ⟨ev, ?_⟩, fun z => absurd rfl z⟩)
  rcases hv with ⟨rfl, h4⟩ | ⟨rfl, l', hl', e', ne⟩
  · refine ⟨fun _ => ⟨fun z => absurd z (by decide), fun _ => fin⟩, fun z => absurd h4 z⟩
  · refine ⟨fun z => absurd z (by rw [e']; exact nI_nm4 (by omega)), fun _ => ⟨ev, fun z => ?_, fun _ => ⟨fun z => absurd z (by decide), fun _ => fin⟩⟩⟩
    rw [e'] at z
    exact absurd ((nI_eq (by omega) (by omega)).mp z) ne
theorem op_read_ok : op_read Rel0 := by
  intro X M x y f z ⟨E, hN, hR⟩
  have hN' := hN
  obtain ⟨w, h9, hX, hM, hTk⟩ := hN
  unfold w_X7_read
  rcases dR x 0 3 with ⟨k, -, hk, rfl⟩ | hno
  · refine c_sh1 hk (b0 ?_)
    have ev : vp_in (nI k) 4 := vp_in_nI (by omega) (by omega)
    rcases dR y 0 2 with ⟨l, -, hl, rfl⟩ | hno
    · refine c_io1 (a := 0) (b := 2) (by omega) hl (by omega) (b0 ?_)
      rcases dR z 0 20 with ⟨n, -, hn, rfl⟩ | hno
      · refine c_io1 (a := 0) (b := 20) (by omega) hn (by omega) (b0 ⟨ev, ?_⟩)
        rw [nI_clamp (by omega)]
        have md : ∀ {Q : Int32 → Mem → Prop}, w_X8_copies 0 132 M (fun M8 => ∃ m, fu4 (w_X8_read_56 (nI k) (nI l) f (nI n) Q) m 0 0 0 M8) → w_X8_read (nI k) (nI l) f (nI n) M Q := fun hq => m_in1 (a := 0) (b := 3) (by omega) hk (by omega) (b1 (m_in1 (a := 0) (b := 2) (by omega) hl (by omega) (b1 (m_in1 (a := 0) (b := 20) (by omega) hn (by omega) (b1 hq)))))
        have rel : ∀ E' X' M' v, WF E' → E' 44 = E 44 → E' 42 ≤ 999 → EX X' 1 E' → fX X X' → PM M' 0 E' → fM M M' → Rel0 (mu X' 0 10 v) (mu M' 0 27 v) := fun E' X' M' v w' e4 e9 a1 a2 a3 a4 => Rel0.torn (Rel0.n hR ⟨w', e9, a1, a3, by rw [a4.2.2 1 (by omega) (by omega) (by omega) (by omega), e4]; exact hTk⟩ e4 a2 a4)
        have good : ∀ (s : Nat) (c : Nat → Int32), s ≤ 40 → X (shI k) 1 = nI s → (∀ j, j < 40 → X (shI k + 1) j = c j) → M 9 k = nI l → M 10 k = nI s → (∀ j, j < 40 → M 11 (40 * k + j) = c j) → w_X7_read_52 f (nI n) (shI k) 0 X (fun r X1 => w_X8_read (nI k) (nI l) f (nI n) M (fun r1 M1 => r = r1 ∧ Rel0 X1 M1)) := by
          intro s c hs s1 hc l1 s2 hc2
          have fix : ∀ r i E', WF E' → E' 44 = E 44 → E' 42 ≤ 999 → WF (rdO f.toInt s c r i E').2.1 ∧ (rdO f.toInt s c r i E').2.1 44 = E 44 ∧ (rdO f.toInt s c r i E').2.1 42 ≤ 999 := by
            intro r
            induction r with
            | zero => intro i E' a b d; exact ⟨a, b, d⟩
            | succ r ih =>
              intro i E' a b d
              show WF (if 0 ≤ f.toInt + 2 * (i : Int) ∧ f.toInt + 2 * (i : Int) + 1 < s then (if snd E' (c (f.toInt + 2 * i).toNat) (c ((f.toInt + 2 * i).toNat + 1)) then rdO f.toInt s c r (i + 1) (snE E' (c (f.toInt + 2 * i).toNat) (c ((f.toInt + 2 * i).toNat + 1))) else (1, E', i)) else (2, E', i)).2.1 ∧ (if 0 ≤ f.toInt + 2 * (i : Int) ∧ f.toInt + 2 * (i : Int) + 1 < s then (if snd E' (c (f.toInt + 2 * i).toNat) (c ((f.toInt + 2 * i).toNat + 1)) then rdO f.toInt s c r (i + 1) (snE E' (c (f.toInt + 2 * i).toNat) (c ((f.toInt + 2 * i).toNat + 1))) else (1, E', i)) else (2, E', i)).2.1 44 = E 44 ∧ (if 0 ≤ f.toInt + 2 * (i : Int) ∧ f.toInt + 2 * (i : Int) + 1 < s then (if snd E' (c (f.toInt + 2 * i).toNat) (c ((f.toInt + 2 * i).toNat + 1)) then rdO f.toInt s c r (i + 1) (snE E' (c (f.toInt + 2 * i).toNat) (c ((f.toInt + 2 * i).toNat + 1))) else (1, E', i)) else (2, E', i)).2.1 42 ≤ 999
              by_cases q1 : 0 ≤ f.toInt + 2 * (i : Int) ∧ f.toInt + 2 * (i : Int) + 1 < s
              · rw [if_pos q1]
                by_cases q2 : snd E' (c (f.toInt + 2 * i).toNat) (c ((f.toInt + 2 * i).toNat + 1))
                · rw [if_pos q2]
                  obtain ⟨a3, a4, a5⟩ := snE_fix a q2
                  have := q2.2.2
                  exact ih (i + 1) _ a3 (a4.trans b) (by omega)
                · rw [if_neg q2]
                  exact ⟨a, b, d⟩
              · rw [if_neg q1]
                exact ⟨a, b, d⟩
          obtain ⟨wf, e44, e42⟩ := fix n 0 E w rfl h9
          refine c_read hX w h9 hn hs hk s1 hc ⟨fun z X' gx => ?_, fun z X' ax gx => ?_⟩
          · exact md (m_read hM hTk w h9 hn hs hk l1 (by omega) s2 hc2 ⟨fun _ M' am gm => ⟨rfl, Rel0.n hR ⟨w, h9, gx.ex hX, am, by rw [gm.2.2 1 (by omega) (by omega) (by omega) (by omega)]; exact hTk⟩ rfl gx.1 gm⟩, fun z' => absurd z z'⟩)
          · exact md (m_read hM hTk w h9 hn hs hk l1 (by omega) s2 hc2 ⟨fun z' => absurd z' z, fun _ M' am gm => ⟨rfl, rel _ X' M' _ wf e44 e42 ax gx am gm⟩⟩)
        have n0 : n = 0 → w_X7_read_52 f (nI n) (shI k) 0 X (fun r X1 => w_X8_read (nI k) (nI l) f (nI n) M (fun r1 M1 => r = r1 ∧ Rel0 X1 M1)) := by
          intro e
          subst e
          refine w_begin hX (fun X11 t11 g11 => ⟨1, ?_⟩)
          show w_X7_read_71 _ _ _ _ _ _ _ _ _
          refine pk_le 0 0 (fun _ => c_fin t11.1 g11 (fun X' ax gx => ?_)) (fun z => by omega)
          refine md (m_copies (a := 0) (b := 132) (by omega) (by omega) (by omega) (fun M8 c1 c2 c3 => ⟨1, ?_⟩))
          show w_X8_read_56 _ _ _ _ _ _ _ _ _ _
          refine pk_le 0 0 (fun _ => ?_) (fun z => by omega)
          intro M10 e10
          rw [e10]
          refine ⟨rfl, rel E X' M8 0 w rfl h9 ax gx (fun i hi hok => ?_) ⟨fun a h0 h1 _ => c2 a h1, fun j h1 h2 => c3 j (by omega), fun k _ _ _ _ => by rw [c2 0 (by omega)]⟩⟩
          rw [c3 _ (by omega)]
          exact hM i hi hok
        refine pk_eq n 0 (fun e => n0 e) (fun hz => ?_)
        unfold w_X2_faultAs
        rcases hR.2.2.2.1 k (by omega) with ⟨h1, h2⟩ | ⟨l', s, hl', hs, ⟨l1, l2⟩, ⟨n1, n2⟩, hc⟩
        · refine w_nothing1 h1 (b1 ?_)
          refine c_readF (v := 1) hX hn (Or.inl rfl) (fun X' ax gx => ?_)
          exact md (m_readF (v := 1) hM hn (by omega) hk (by omega) (Or.inl ⟨rfl, h2⟩) (fun M' am gm => ⟨rfl, rel E X' M' _ w rfl h9 ax gx am gm⟩))
        · refine w_nothing0 l1 hl' (b0 ?_)
          rw [l1]
          by_cases q : l' = l
          · subst q
            rw [if_pos rfl]
            exact good s (fun j => X (shI k + 1) j) hs n1 (fun _ _ => rfl) l2 n2 (fun j hj => (hc j hj).symm)
          · rw [if_neg (fun e => q ((nI_eq (by omega) (by omega)).mp e))]
            refine c_readF (v := 3) hX hn (Or.inr rfl) (fun X' ax gx => ?_)
            exact md (m_readF (v := 3) hM hn (by omega) hk (by omega) (Or.inr ⟨rfl, l', hl', l2, q⟩) (fun M' am gm => ⟨rfl, rel E X' M' _ w rfl h9 ax gx am gm⟩))
      · exact c_io0 (a := 0) (b := 20) hno (by omega) (by omega) (b1 (m_in1 (a := 0) (b := 3) (by omega) hk (by omega) (b1 (m_in1 (a := 0) (b := 2) (by omega) hl (by omega) (b1 (m_in0 (a := 0) (b := 20) hno (by omega) (by omega) (b0 ⟨rfl, E, hN', hR⟩)))))))
    · exact c_io0 (a := 0) (b := 2) hno (by omega) (by omega) (b1 (m_in1 (a := 0) (b := 3) (by omega) hk (by omega) (b1 (m_in0 (a := 0) (b := 2) hno (by omega) (by omega) (b0 ⟨rfl, E, hN', hR⟩)))))
  · exact c_sh0 hno (b1 (m_in0 (a := 0) (b := 3) hno (by omega) (by omega) (b0 ⟨rfl, E, hN', hR⟩)))
