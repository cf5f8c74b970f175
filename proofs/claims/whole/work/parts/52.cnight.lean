/-! the class's night -/
theorem w_takes {X : Mem} {o t : Nat} {E : Es} {Q : Int32 → Prop} (h : EX X o E) (w : WF E) (ht : t < E 44) (hq : Q (nI (takesN (E (12 + t))))) : w_X0_takes o (nI t) X Q := by
  have h5 := w.2.2.2.2.1
  have hk := (w.2.1 t ht).1
  unfold w_X0_takes
  rw [nI_clamp (by omega), (h.tr w ht).1, nI_clamp (by omega), takes_eq _ hk]
  exact ⟨vp_in_nI (by omega) (by omega), vp_in_nI hk (by omega), hq⟩
theorem w_noise {X : Mem} {o t : Nat} {E : Es} {Q : Int32 → Prop} (h : EX X o E) (w : WF E) (ht : t < E 44) (hq : Q (nI (noiseN (E (12 + t))))) : w_X0_noise o (nI t) X Q := by
  have h5 := w.2.2.2.2.1
  have hk := (w.2.1 t ht).1
  unfold w_X0_noise
  rw [nI_clamp (by omega), (h.tr w ht).1, nI_clamp (by omega), noise_eq _ hk]
  exact ⟨vp_in_nI (by omega) (by omega), vp_in_nI hk (by omega), hq⟩
theorem at_bd {E : Es} (w : WF E) {k : Nat} (hk : k < E 41) : E (32 + k) + E 42 * E (35 + k) < 2 ^ 31 := by
  have h := w.2.2.1 k hk
  have h1 : E 42 * E (35 + k) ≤ 5000 * 5 := Nat.mul_le_mul w.2.2.2.2.2.1 h.2.1
  omega
theorem w_place {X : Mem} {o k : Nat} {E : Es} {Q : Int32 → Prop} (h : EX X o E) (w : WF E) (hk : k < E 41) (hq : Q (nI (atN E k))) : w_X0_placeOf o (nI k) X Q := by
  have h3 := w.2.2.2.1
  unfold w_X0_placeOf
  rw [nI_clamp (by omega), (h.kr w hk).1, (h.kr w hk).2.1, h.ni, pk_mul, nI_add, irm6 (at_bd w hk)]
  exact ⟨vp_in_nI (by omega) (by omega), vp_in_nI (by omega) (by omega), hq⟩
theorem w_wbc {X : Mem} {o t : Nat} {E : Es} {Q : Int32 → Prop} (h : EX X o E) (w : WF E) (ht : t < E 44) (hq : Q (if E (27 + t) = 0 ∧ hears E t = true then 1 else 0)) : w_X0_wouldBeCaught o (nI t) X Q := by
  have h5 := w.2.2.2.2.1
  have h3 := w.2.2.2.1
  have h2 := w.2.1 t ht
  have ev : vp_in (nI t) 5 := vp_in_nI (by omega) (by omega)
  have etr := h.tr w ht
  have loop : ∀ (n k : Nat), k ≤ E 41 → E 41 - k < n → hearsB E t k = false → E (27 + t) = 0 → fu1 (w_X0_wouldBeCaught_13 o (nI t) X Q) n (nI k) := by
    intro n
    induction n with
    | zero => intro k hk hn; omega
    | succ n ih =>
      intro k hk hn hf hz
      show w_X0_wouldBeCaught_13 o (nI t) X Q (fu1 (w_X0_wouldBeCaught_13 o (nI t) X Q) n) (nI k)
      generalize fu1 (w_X0_wouldBeCaught_13 o (nI t) X Q) n = K at ih ⊢
      unfold w_X0_wouldBeCaught_13
      rw [h.kp]
      refine pk_le (E 41) k (fun hle => ?_) (fun hlt => ?_)
      · have e : k = E 41 := by omega
        rw [e] at hf
        rw [if_neg (by unfold hears; rw [hf]; simp)] at hq
        exact hq
      · have hnext : hearsB E t (k + 1) = false → w_X0_wouldBeCaught_51 o (nI t) (nI k) X K Q := fun hf2 => by
          show K (nI k + 1)
          rw [nI_1]
          exact ih (k + 1) (by omega) (by omega) hf2 hz
        refine w_place h w hlt ⟨ev, ?_⟩
        rw [nI_clamp (by omega), etr.2.1]
        have hat : atN E k < 6 := Nat.mod_lt _ (by omega)
        refine pk_eq (atN E k) (E (17 + t)) (fun e1 => ?_) (fun e1 => ?_)
        · refine w_noise h w ht ⟨vp_in_nI (by omega) (by omega), ?_⟩
          have hn5 := noise_le (E (12 + t))
          rw [nI_clamp (by omega), (h.kr w hlt).2.2]
          have he := w.2.2.1 k hlt
          refine pk_lt (noiseN (E (12 + t))) (E (38 + k)) (fun e2 => ?_) (fun e2 => ?_)
          · exact hnext (by simp [hearsB, hf]; intro _; omega)
          · have ht2 : hearsB E t (k + 1) = true := by simp [hearsB, e1, e2]
            have : hears E t = true := hearsB_up ht2 (by omega)
            rw [if_pos ⟨hz, this⟩] at hq
            exact hq
        · exact hnext (by simp [hearsB, hf, e1])
  unfold w_X0_wouldBeCaught
  rw [nI_clamp (by omega), etr.2.2.2]
  refine ⟨ev, pk_le (E (27 + t)) 0 (fun hle => ?_) (fun hlt => ?_)⟩
  · exact ⟨E 41 + 1, loop (E 41 + 1) 0 (by omega) (by omega) rfl (by omega)⟩
  · rw [if_neg (by omega)] at hq
    exact hq
/-- what stays: the cells outside the estate's own -/
def frX (o : Nat) (X X' : Mem) : Prop := ∀ a, a < o ∨ o + 10 ≤ a → X' a = X a
theorem frX.rf {o : Nat} {X : Mem} : frX o X X := fun _ _ => rfl
theorem frX.tr {o : Nat} {X Y Z : Mem} (h : frX o X Y) (h2 : frX o Y Z) : frX o X Z := fun a ha => (h2 a ha).trans (h a ha)
theorem frX.mu {o : Nat} {X Y : Mem} (h : frX o X Y) {a k : Nat} {v : Int32} (ha : o ≤ a) (ha2 : a < o + 10) : frX o X (mu Y a k v) := fun b hb => (mu_c (by omega)).trans (h b hb)
theorem EX.set' {X : Mem} {o : Nat} {E : Es} (h : EX X o E) {i n a k : Nat} (hc : cx i = (a, k)) (hi : i < 45) (h41 : i ≠ 41) (h44 : i ≠ 44) : EX (mu X (o + a) k (nI n)) o (up E i n) := by
  have := h.set (n := n) hi h41 h44
  rw [hc] at this
  exact this
theorem ite_min {a b : Nat} (ha : a < 2 ^ 31) (hb : b < 2 ^ 31) : (if nI a < nI b then nI a else nI b) = nI (min b a) := by
  by_cases h : a < b
  · rw [if_pos ((nI_ltI ha hb).mpr h), Nat.min_eq_right (by omega)]
  · rw [if_neg (fun q => h ((nI_ltI ha hb).mp q)), Nat.min_eq_left (by omega)]
theorem w_seize {X : Mem} {o t : Nat} {E : Es} {Q : Mem → Prop} (h : EX X o E) (w : WF E) (ht : t < E 44) {b : Nat} (hb : X o 13 = nI b) (hq : ∀ X', EX X' o (up (up E (27 + t) 7) 43 (min 999 (E 43 + 1))) → frX o X X' → X' o 13 = nI (b ||| 2 ^ t) → Q X') : w_X0_seize o (nI t) X Q := by
  have h5 := w.2.2.2.2.1
  have h43 := w.2.2.2.2.2.2
  unfold w_X0_seize
  rw [nI_clamp (by omega)]
  refine ⟨vp_in_nI (by omega) (by omega), fun M1 e1 M2 e2 M3 e3 => ?_⟩
  have a1 : EX M1 o (up E (27 + t) 7) := by rw [e1]; exact h.set' (n := 7) (cxt t (by omega)).2.2.2 (by omega) (by omega) (by omega)
  have b1 : M1 o 12 = nI (E 43) := by rw [a1.ca, up_n (by omega)]
  have c1 : M1 o 13 = nI b := by rw [e1, mu_c (by omega)]; exact hb
  rw [b1] at e2
  have e2' : M2 = mu M1 o 12 (nI (min 999 (E 43 + 1))) := by
    rw [e2]
    congr 1
    show (if nI (E 43) + nI 1 < nI 999 then nI (E 43) + nI 1 else nI 999) = _
    rw [nI_add]
    exact ite_min (by omega) (by omega)
  have a2 : EX M2 o (up (up E (27 + t) 7) 43 (min 999 (E 43 + 1))) := by rw [e2']; exact a1.set' (n := min 999 (E 43 + 1)) (i := 43) (a := 0) (k := 12) rfl (by omega) (by omega) (by omega)
  have c2 : M2 o 13 = nI b := by rw [e2', mu_at, if_neg (by omega)]; exact c1
  rw [c2, sl1 t (by omega), nI_or] at e3
  refine hq M3 ?_ ?_ ?_
  · rw [e3]
    exact a2.out (fun i hi q => by
      have h1 := (cx_lt i hi).2
      omega)
  · rw [e3, e2', e1]
    exact ((frX.rf.mu (by omega) (by omega)).mu (by omega) (by omega)).mu (by omega) (by omega)
  · rw [e3, mu_at, if_pos ⟨rfl, rfl⟩]
theorem w_fill {X : Mem} {o t : Nat} {E : Es} {Q : Int32 → Mem → Prop} (h : EX X o E) (w : WF E) (ht : t < E 44) (hq : ∀ X', EX X' o (up (up E (E (17 + t)) (E (E (17 + t)) - min (takesN (E (12 + t))) (E (E (17 + t))))) (22 + t) (min 999 (E (22 + t) + min (takesN (E (12 + t))) (E (E (17 + t)))))) → frX o X X' → X' o = X o → Q (nI (min (takesN (E (12 + t))) (E (E (17 + t))))) X') : w_X0_fillBag o (nI t) X Q := by
  have h5 := w.2.2.2.2.1
  have h2 := w.2.1 t ht
  have hl := w.1 (E (17 + t)) h2.2.1
  have htk := takes_le (E (12 + t))
  have etr := h.tr w ht
  have evt : vp_in (nI t) 5 := vp_in_nI (by omega) (by omega)
  have evg : vp_in (nI (E (17 + t))) 6 := vp_in_nI (by omega) (by omega)
  unfold w_X0_fillBag
  rw [nI_clamp (by omega), etr.2.1, nI_clamp (by omega), h.lg h2.2.1]
  refine ⟨evt, w_takes h w ht ⟨evg, fun v2 e2 => ⟨evg, evg, fun M3 e3 => ⟨evt, evt, fun M4 e4 => ?_⟩⟩⟩⟩
  rw [ite_min (by omega) (by omega)] at e2
  generalize hv : min (takesN (E (12 + t))) (E (E (17 + t))) = v at *
  have hv1 : v ≤ 12 := by omega
  have hv2 : v ≤ E (E (17 + t)) := by omega
  rw [e2, nIs hv2] at e3
  have a3 : EX M3 o (up E (E (17 + t)) (E (E (17 + t)) - v)) := by rw [e3]; exact h.set' (n := E (E (17 + t)) - v) (cxg _ h2.2.1).1 (by omega) (by omega) (by omega)
  have b3 : M3 (o + 5) t = nI (E (22 + t)) := by rw [e3, mu_c (by omega)]; exact etr.2.2.1
  rw [b3, e2] at e4
  have e4' : M4 = mu M3 (o + 5) t (nI (min 999 (E (22 + t) + v))) := by
    rw [e4]
    congr 1
    show (if nI (E (22 + t)) + nI v < nI 999 then nI (E (22 + t)) + nI v else nI 999) = _
    rw [nI_add]
    exact ite_min (by omega) (by omega)
  rw [e2]
  refine hq M4 ?_ ?_ ?_
  · rw [e4']
    exact a3.set' (n := min 999 (E (22 + t) + v)) (cxt t (by omega)).2.2.1 (by omega) (by omega) (by omega)
  · rw [e4', e3]
    exact (frX.rf.mu (by omega) (by omega)).mu (by omega) (by omega)
  · rw [e4', e3, mu_c (by omega), mu_c (by omega)]
theorem up_up_EX {X : Mem} {o : Nat} {E E' : Es} (h : EX X o E) (he : ∀ i, i < 45 → E' i = E i) : EX X o E' := by
  intro i hi hok
  rw [he 44 (by omega), he 41 (by omega)] at hok
  rw [he i hi]
  exact h i hi hok
/-- a night of the class's estate -/
theorem w_night {X : Mem} {o : Nat} {E : Es} {hz : Bool} {x : Int32} {Q : Int32 → Mem → Prop} (h : EX X o E) (w : WF E) (hx : x = 0 ↔ hz = false) (h42 : E 42 < 5000) (hq : ∀ X', EX X' o (nE hz E) → frX o X X' → X' o 13 = nI (nB hz E) → Q (nI (nT hz E)) X') : w_X0_passNight o x X Q := by
  have h5 := w.2.2.2.2.1
  have last : ∀ Y : Mem, EX Y o (growK 6 (sE hz (E 44) E)) → frX o X Y → Y o 13 = nI (nB hz E) → w_X0_passNight_111 o (nI (nT hz E)) Y Q := by
    intro Y hY hf h13 M4 e4
    have a44 := sE_fix hz E w (E 44) (Nat.le_refl _)
    have g42 := growK_WF a44.1 (n := 6) (Nat.le_refl _)
    rw [hY.ni, g42.2.2.2, a44.2.2.2] at e4
    have e4 : M4 = mu Y o 11 (nI (E 42 + 1)) := e4.trans (by rw [nI_1])
    refine hq M4 ?_ ?_ ?_
    · rw [e4]
      exact hY.set' (n := E 42 + 1) (i := 42) (a := 0) (k := 11) rfl (by omega) (by omega) (by omega)
    · rw [e4]
      exact hf.mu (by omega) (by omega)
    · rw [e4, mu_at, if_neg (by omega)]
      exact h13
  have grow : ∀ (n k : Nat) (Y : Mem), k ≤ 6 → 6 - k < n → EX Y o (growK k (sE hz (E 44) E)) → frX o X Y → Y o 13 = nI (nB hz E) → fu2 (w_X0_passNight_75 o (nI (nT hz E)) Q) n (nI k) Y := by
    intro n
    induction n with
    | zero => intro k Y hk hn; omega
    | succ n ih =>
      intro k Y hk hn hY hf h13
      show w_X0_passNight_75 o (nI (nT hz E)) Q (fu2 (w_X0_passNight_75 o (nI (nT hz E)) Q) n) (nI k) Y
      generalize fu2 (w_X0_passNight_75 o (nI (nT hz E)) Q) n = K at ih ⊢
      unfold w_X0_passNight_75
      refine pk_le 6 k (fun hle => ?_) (fun hlt => ?_)
      · have e : k = 6 := by omega
        subst e
        exact last Y hY hf h13
      · have ev : vp_in (nI k) 6 := vp_in_nI (by omega) (by omega)
        refine ⟨ev, ev, ev, fun M5 e5 => ?_⟩
        rw [nI_clamp (by omega), hY.lg hlt, hY.gr hlt] at e5
        have f1 : growK k (sE hz (E 44) E) k = sE hz (E 44) E k := if_neg (by omega)
        have f2 : growK k (sE hz (E 44) E) (6 + k) = sE hz (E 44) E (6 + k) := if_neg (by omega)
        have a44 := (sE_fix hz E w (E 44) (Nat.le_refl _)).1.1 k hlt
        rw [f1, f2, nI_add] at e5
        have e5 : M5 = mu Y (o + 1) k (nI (min 60 (sE hz (E 44) E k + sE hz (E 44) E (6 + k)))) := e5.trans (by rw [show (60 : Int32) = nI 60 from rfl, ite_min (by omega) (by omega)])
        rw [nI_1]
        refine ih (k + 1) M5 (by omega) (by omega) ?_ ?_ ?_
        · rw [e5]
          refine up_up_EX (hY.set' (n := min 60 (sE hz (E 44) E k + sE hz (E 44) E (6 + k))) (cxg k hlt).1 (by omega) (by omega) (by omega)) (fun i _ => ?_)
          unfold up growK
          by_cases hi : i = k
          · subst hi
            rw [if_pos (by omega), if_pos rfl]
          · rw [if_neg hi]
            by_cases h2 : i < k
            · rw [if_pos (by omega), if_pos h2]
            · rw [if_neg (by omega), if_neg h2]
        · rw [e5]
          exact hf.mu (by omega) (by omega)
        · rw [e5, mu_c (by omega)]
          exact h13
  have loop : ∀ (n t : Nat) (Y : Mem), t ≤ E 44 → E 44 - t < n → EX Y o (sE hz t E) → frX o X Y → Y o 13 = nI (sB hz t E) → fu3 (w_X0_passNight_9 o x Q) n (nI (sT hz t E)) (nI t) Y := by
    intro n
    induction n with
    | zero => intro t Y hk hn; omega
    | succ n ih =>
      intro t Y hk hn hY hf h13
      show w_X0_passNight_9 o x Q (fu3 (w_X0_passNight_9 o x Q) n) (nI (sT hz t E)) (nI t) Y
      generalize fu3 (w_X0_passNight_9 o x Q) n = K at ih ⊢
      have fx := sE_fix hz E w t hk
      have nxt : ∀ (v : Nat) (Z : Mem), t < E 44 → v = goT hz t (sE hz t E) → EX Z o (goE hz t (sE hz t E)) → frX o X Z → Z o 13 = nI (sB hz t E + goC hz t (sE hz t E) * 2 ^ t) → w_X0_passNight_67 o x (nI (sT hz t E + v)) (nI t) Z K Q := by
        intro v Z hlt hv hZ hfZ hbZ
        show K (nI (sT hz t E + v)) (nI t + 1) Z
        rw [nI_1, hv]
        exact ih (t + 1) Z (by omega) (by omega) hZ hfZ hbZ
      unfold w_X0_passNight_9
      rw [hY.tk, fx.2.1]
      refine pk_le (E 44) t (fun hle => ?_) (fun hlt => ?_)
      · have e : t = E 44 := by omega
        subst e
        exact ⟨7, grow 7 0 Y (by omega) (by omega) (up_up_EX hY (fun i _ => if_neg (by omega))) hf h13⟩
      · have hlt' : t < sE hz t E 44 := by rw [fx.2.1]; exact hlt
        have etr := hY.tr fx.1 hlt'
        have h2 := fx.1.2.1 t hlt'
        have ev : vp_in (nI t) 5 := vp_in_nI (by omega) (by omega)
        have fill : ¬ 0 < sE hz t E (27 + t) → ¬ (hz = false ∧ hears (sE hz t E) t = true) → w_X0_passNight_59 o x (nI (sT hz t E)) (nI t) Y K Q := by
          intro c1 c2
          refine w_fill hY fx.1 hlt' (fun Z hZ hfZ h0Z => ?_)
          rw [nI_add]
          refine nxt _ Z hlt (by unfold goT; rw [if_neg c1, if_neg c2]) ?_ (hf.tr hfZ) ?_
          · unfold goE
            rw [if_neg c1, if_neg c2]
            exact hZ
          · rw [h0Z, h13]
            unfold goC
            rw [if_neg c1, if_neg c2, Nat.zero_mul, Nat.add_zero]
        rw [nI_clamp (by omega), etr.2.2.2]
        refine ⟨ev, pk_le (sE hz t E (27 + t)) 0 (fun c1 => ?_) (fun c1 => ?_)⟩
        · have c1' : ¬ 0 < sE hz t E (27 + t) := by omega
          refine ⟨fun cx0 => ?_, fun cx0 => ?_⟩
          · have hzf := hx.mp cx0
            refine w_wbc hY fx.1 hlt' ⟨fun c2 => ?_, fun c2 => ?_⟩
            · refine fill c1' (fun q => ?_)
              rw [if_pos ⟨by omega, q.2⟩] at c2
              exact absurd c2 (by decide)
            · have c3 : hears (sE hz t E) t = true := by
                by_cases q : hears (sE hz t E) t = true
                · exact q
                · rw [if_neg (fun z => q z.2)] at c2
                  exact absurd rfl c2
              refine w_seize hY fx.1 hlt' h13 (fun Z hZ hfZ hbZ => ?_)
              have hb := sB_lt hz E t
              refine nxt 0 Z hlt (by unfold goT; rw [if_neg c1', if_pos ⟨hzf, c3⟩]) ?_ (hf.tr hfZ) ?_
              · unfold goE
                rw [if_neg c1', if_pos ⟨hzf, c3⟩]
                exact hZ
              · rw [hbZ]
                unfold goC
                rw [if_neg c1', if_pos ⟨hzf, c3⟩, Nat.one_mul]
                congr 1
                rw [Nat.or_comm, Nat.add_comm]
                exact (Nat.two_pow_add_eq_or_of_lt hb 1 |> fun q => by rw [Nat.mul_one] at q; exact q.symm)
          · exact fill c1' (fun q => cx0 (hx.mpr q.1))
        · refine ⟨ev, ev, fun M14 e14 => ?_⟩
          rw [show (1 : Int32) = nI 1 from rfl, nIs (by omega)] at e14
          refine nxt 0 M14 hlt (by unfold goT; rw [if_pos c1]) ?_ ?_ ?_
          · unfold goE
            rw [if_pos c1, e14]
            exact hY.set' (n := sE hz t E (27 + t) - 1) (cxt t (by omega)).2.2.2 (by omega) (by omega) (by omega)
          · rw [e14]
            exact hf.mu (by omega) (by omega)
          · rw [e14, mu_c (by omega), h13]
            unfold goC
            rw [if_pos c1, Nat.zero_mul, Nat.add_zero]
  unfold w_X0_passNight
  intro M1 e1
  refine ⟨E 44 + 1, loop (E 44 + 1) 0 M1 (by omega) (by omega) ?_ ?_ ?_⟩
  · rw [e1]
    exact h.out (fun i hi q => by
      have h1 := (cx_lt i hi).2
      omega)
  · rw [e1]
    exact frX.rf.mu (by omega) (by omega)
  · rw [e1, mu_at, if_pos ⟨rfl, rfl⟩]
    rfl
