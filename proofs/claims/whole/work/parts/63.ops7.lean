/-! sheets -/
theorem shk (k : Nat) : shI k = 60 + 2 * k := rfl
theorem Rel_sh {X M X' M' : Mem} {E : Es} {k : Nat} (hN : RN X M E) (hR : RR X M (E 44)) (hk : k < 4) (z3 : ∀ a, a ≠ shI k → a ≠ shI k + 1 → X' a = X a) (z5 : ∀ a, a ≠ 9 → a ≠ 10 → a ≠ 11 → M' a = M a) (y9 : ∀ j, j ≠ k → M' 9 j = M 9 j ∧ M' 10 j = M 10 j) (y11 : ∀ j, j < 40 * k ∨ 40 * k + 40 ≤ j → M' 11 j = M 11 j) (new : (X' (shI k) 2 = -1 ∧ M' 9 k = -4) ∨ (∃ l n, l < 3 ∧ n ≤ 40 ∧ (X' (shI k) 2 = nI l ∧ M' 9 k = nI l) ∧ (X' (shI k) 1 = nI n ∧ M' 10 k = nI n) ∧ ∀ j, j < 40 → X' (shI k + 1) j = M' 11 (40 * k + j))) : Rel0 X' M' := by
  have ek := shk k
  refine ⟨E, hN.cg (fun a h1 h2 => z3 a (by omega) (by omega)) (fun j hj => by rw [z5 1 (by omega) (by omega) (by omega)]) (by rw [z5 0 (by omega) (by omega) (by omega)]), hR.1.cg (z3 _ (by omega) (by omega)) (fun a h1 h2 => z3 a (by omega) (by omega)) (z5 _ (by omega) (by omega) (by omega)) (fun j h1 h2 => by rw [z5 1 (by omega) (by omega) (by omega)]), hR.2.1.cg (by rw [z3 22 (by omega) (by omega)]) (z3 _ (by omega) (by omega)) (by rw [z5 0 (by omega) (by omega) (by omega)]) (z5 _ (by omega) (by omega) (by omega)), hR.2.2.1.cg (by rw [z3 25 (by omega) (by omega)]) (z3 _ (by omega) (by omega)) (z3 _ (by omega) (by omega)) (z3 _ (by omega) (by omega)) (by rw [z5 0 (by omega) (by omega) (by omega)]) (z5 _ (by omega) (by omega) (by omega)), fun j hj => ?_, ⟨?_, ?_⟩, ⟨?_, ?_⟩⟩
  · by_cases q : j = k
    · subst q
      exact new
    · have ej := shk j
      rw [z3 (shI j) (by omega) (by omega), z3 (shI j + 1) (by omega) (by omega), (y9 j q).1, (y9 j q).2]
      rcases hR.2.2.2.1 j hj with h | ⟨l, n, h1, h2, h3, h4, h5⟩
      · exact Or.inl h
      · refine Or.inr ⟨l, n, h1, h2, h3, h4, fun i hi => ?_⟩
        rw [y11 _ (by omega)]
        exact h5 i hi
  · rw [z3 0 (by omega) (by omega), z5 0 (by omega) (by omega) (by omega)]
    exact hR.2.2.2.2.1.1
  · rw [z3 0 (by omega) (by omega), z5 0 (by omega) (by omega) (by omega)]
    exact hR.2.2.2.2.1.2
  · rw [z5 4 (by omega) (by omega) (by omega)]
    exact hR.2.2.2.2.2.1
  · rw [z5 5 (by omega) (by omega) (by omega)]
    exact hR.2.2.2.2.2.2
theorem w_renew {X : Mem} {o l n : Nat} {Q : Mem → Prop} (hq : ∀ X', (∀ a, a ≠ o → a ≠ o + 1 → X' a = X a) → X' o 2 = nI l → X' o 1 = nI n → (∀ j, j < 40 → X' (o + 1) j = 0) → Q X') : w_X2_renew o (nI l) (nI n) X Q := by
  intro M1 e1 M2 e2
  refine pk_loop (fun m i N => fu2 (w_X2_renew_12 o Q) m (nI i) N) (fun i N => (∀ a, a ≠ o + 1 → N a = M2 a) ∧ ∀ j, j < i → N (o + 1) j = 0) 40 0 M2 (by omega) ⟨fun _ _ => rfl, fun j hj => by omega⟩ (fun m N h => ?_) (fun m i N hi h ih => ?_)
  · refine pk_le 40 40 (fun _ => hq N (fun a h1 h2 => ?_) ?_ ?_ h.2) (fun z => by omega)
    · rw [h.1 a h2, e2, e1, mu_c h1, mu_c h1]
    · rw [h.1 o (by omega), e2, e1, mu_at, if_neg (by omega), mu_at, if_pos ⟨rfl, rfl⟩]
    · rw [h.1 o (by omega), e2, mu_at, if_pos ⟨rfl, rfl⟩]
  · refine pk_le 40 i (fun z => by omega) (fun _ => ⟨vp_in_nI (by omega) (by omega), fun N2 e => ?_⟩)
    rw [nI_clamp (by omega)] at e
    rw [nI_1]
    refine ih N2 ⟨fun a ha => by rw [e, mu_c ha]; exact h.1 a ha, fun j hj => ?_⟩
    rw [e, mu_at]
    by_cases q : j = i
    · rw [if_pos ⟨rfl, q⟩]
    · rw [if_neg (by omega)]
      exact h.2 j (by omega)
theorem op_sheet_ok : op_sheet Rel0 := by
  intro X M x y z ⟨E, hN, hR⟩
  unfold w_X7_sheet w_X8_sheet
  rcases dR x 0 3 with ⟨k, -, hk, rfl⟩ | hno
  · refine c_sh1 hk (b0 ?_)
    have ev : vp_in (nI k) 4 := vp_in_nI (by omega) (by omega)
    rcases dR y 0 2 with ⟨l, -, hl, rfl⟩ | hno
    · refine c_io1 (a := 0) (b := 2) (by omega) hl (by omega) (b0 ?_)
      have md : ∀ {A : Int32 → Mem → Prop} {B : Prop}, B → w_X8_in (nI k).toInt64 0 3 M (fun r1 => (r1 = 0 → A r1 M) ∧ (¬ r1 = 0 → w_X8_in (nI l).toInt64 0 2 M (fun r3 => (r3 = 0 → A r3 M) ∧ (¬ r3 = 0 → B)))) := fun b => m_in1 (a := 0) (b := 3) (by omega) hk (by omega) (b1 (m_in1 (a := 0) (b := 2) (by omega) hl (by omega) (b1 b)))
      refine ⟨fun h40 => ⟨fun h0 => ?_, fun h0 => ?_⟩, fun h40 => ?_⟩
      · obtain ⟨n, -, hn, rfl⟩ := (rgI (x := z) (a := 0) (b := 40) (by omega) (by omega)).mp ⟨Int32.not_lt.mpr h0, h40⟩
        rw [nI_clamp (by omega)]
        refine ⟨ev, w_renew (fun X' f1 f2 f3 f4 => ?_)⟩
        refine md (A := fun _ M1 => (1 : Int32) = -1 ∧ Rel0 X' M1) ⟨fun _ => ⟨fun _ => ⟨ev, fun M7 e7 => ⟨ev, fun M8 e8 => ?_⟩⟩, fun q => absurd h0 q⟩, fun q => absurd h40 q⟩
        refine pk_loop (fun m i N => fu2 (w_X8_sheet_56 (nI k) _) m (nI i) N) (fun i N => (∀ a, a ≠ 11 → N a = M8 a) ∧ (∀ j, j < 40 * k ∨ 40 * k + 40 ≤ j → N 11 j = M8 11 j) ∧ ∀ j, j < i → N 11 (40 * k + j) = 0) 40 0 M8 (by omega) ⟨fun _ _ => rfl, fun _ _ => rfl, fun j hj => by omega⟩ (fun m N h => ?_) (fun m i N hi h ih => ?_)
        · refine pk_le 40 40 (fun _ => ⟨rfl, ?_⟩) (fun z => by omega)
          refine Rel_sh hN hR (by omega) f1 (fun a h1 h2 h3 => ?_) (fun j hj => ⟨?_, ?_⟩) (fun j hj => ?_) (Or.inr ⟨l, n, by omega, hn, ⟨f2, ?_⟩, ⟨f3, ?_⟩, fun j hj => ?_⟩)
          · rw [h.1 a h3, e8, e7, mu_c h2, mu_c h1]
          · rw [h.1 9 (by omega), e8, e7, mu_c (by omega), mu_at, if_neg (by omega)]
          · rw [h.1 10 (by omega), e8, e7, mu_at, if_neg (by omega), mu_c (by omega)]
          · rw [h.2.1 j hj, e8, e7, mu_c (by omega), mu_c (by omega)]
          · rw [h.1 9 (by omega), e8, e7, mu_c (by omega), mu_at, if_pos ⟨rfl, rfl⟩]
          · rw [h.1 10 (by omega), e8, mu_at, if_pos ⟨rfl, rfl⟩]
          · rw [f4 j hj, h.2.2 j hj]
        · refine pk_le 40 i (fun z => by omega) (fun _ => ?_)
          rw [show (40 : Int32) * nI k = nI (40 * k) from nIm 40 k, nI_add, nI_clamp (by omega)]
          refine ⟨vp_in_nI (by omega) (by omega), fun N2 e => ?_⟩
          rw [nI_1]
          refine ih N2 ⟨fun a ha => by rw [e, mu_c ha]; exact h.1 a ha, fun j hj => ?_, fun j hj => ?_⟩
          · rw [e, mu_at, if_neg (by omega)]
            exact h.2.1 j hj
          · rw [e, mu_at]
            by_cases q : j = i
            · rw [if_pos ⟨rfl, by omega⟩]
            · rw [if_neg (by omega)]
              exact h.2.2 j (by omega)
      · exact md (A := fun _ M1 => (-14 : Int32) = -1 ∧ Rel0 X M1) ⟨fun _ => ⟨fun q => absurd q h0, fun _ => ⟨rfl, E, hN, hR⟩⟩, fun q => absurd h40 q⟩
      · exact md (A := fun _ M1 => (-1 : Int32) = -1 ∧ Rel0 X M1) ⟨fun q => absurd q h40, fun _ => ⟨rfl, E, hN, hR⟩⟩
    · refine c_io0 (a := 0) (b := 2) hno (by omega) (by omega) (b1 ?_)
      exact m_in1 (a := 0) (b := 3) (by omega) hk (by omega) (b1 (m_in0 (a := 0) (b := 2) hno (by omega) (by omega) (b0 ⟨rfl, E, hN, hR⟩)))
  · exact c_sh0 hno (b1 (m_in0 (a := 0) (b := 3) hno (by omega) (by omega) (b0 ⟨rfl, E, hN, hR⟩)))
theorem bv24 (x : BitVec 32) : (x.signExtend 8).signExtend 32 = (x <<< 24).sshiftRight 24 := by
  apply BitVec.eq_of_getLsbD_eq
  intro i hi
  rw [BitVec.getLsbD_signExtend, BitVec.getLsbD_sshiftRight, BitVec.getLsbD_shiftLeft, BitVec.getLsbD_signExtend, BitVec.msb_eq_getLsbD_last (x := x.signExtend 8), BitVec.msb_eq_getLsbD_last (x := x <<< 24), BitVec.getLsbD_signExtend, BitVec.getLsbD_shiftLeft]
  by_cases h : i < 8
  · have h1 : 24 + i < 32 := by omega
    have h2 : ¬ (24 + i < 24) := by omega
    have h3 : 24 + i - 24 = i := by omega
    have h4 : ¬ 32 ≤ i := by omega
    simp [h, hi, h1, h2, h3, h4]
  · have h1 : ¬ 24 + i < 32 := by omega
    have h4 : ¬ 32 ≤ i := by omega
    simp [h, hi, h1, h4]
theorem bv16 (x : BitVec 32) : (x.signExtend 16).signExtend 32 = (x <<< 16).sshiftRight 16 := by
  apply BitVec.eq_of_getLsbD_eq
  intro i hi
  rw [BitVec.getLsbD_signExtend, BitVec.getLsbD_sshiftRight, BitVec.getLsbD_shiftLeft, BitVec.getLsbD_signExtend, BitVec.msb_eq_getLsbD_last (x := x.signExtend 16), BitVec.msb_eq_getLsbD_last (x := x <<< 16), BitVec.getLsbD_signExtend, BitVec.getLsbD_shiftLeft]
  by_cases h : i < 16
  · have h1 : 16 + i < 32 := by omega
    have h2 : ¬ (16 + i < 16) := by omega
    have h3 : 16 + i - 16 = i := by omega
    have h4 : ¬ 32 ≤ i := by omega
    simp [h, hi, h1, h2, h3, h4]
  · have h1 : ¬ 16 + i < 32 := by omega
    have h4 : ¬ 32 ≤ i := by omega
    simp [h, hi, h1, h4]
theorem sh24 (x : Int32) : x.toInt8.toInt32 = sr (sl x 24) 24 := by
  apply Int32.toBitVec_inj.mp
  unfold sr sl
  rw [Int32.toBitVec_shiftRight, Int32.toBitVec_shiftLeft, show (24 &&& 31 : Int32).toBitVec.smod 32 = 24#32 from by decide]
  exact bv24 x.toBitVec
theorem sh16 (x : Int32) : x.toInt16.toInt32 = sr (sl x 16) 16 := by
  apply Int32.toBitVec_inj.mp
  unfold sr sl
  rw [Int32.toBitVec_shiftRight, Int32.toBitVec_shiftLeft, show (16 &&& 31 : Int32).toBitVec.smod 32 = 16#32 from by decide]
  exact bv16 x.toBitVec
theorem w_lacks {X : Mem} {o n : Nat} {x : Int32} {Q : Int32 → Prop} (h : X o 1 = nI n) (hn : n ≤ 40) (hq : (∀ i, i < n → x = nI i → Q 0) ∧ ((∀ i, i < n → x ≠ nI i) → Q 1)) : w_X2_lacks o x X Q := by
  unfold w_X2_lacks
  rw [h]
  rcases dT x n with ⟨i, hi, rfl⟩ | hno
  · rw [if_neg (nI_pos (by omega)), if_pos (nI_lt hi (by omega))]
    exact ⟨nb0, hq.1 i hi rfl⟩
  · have q : (if x < 0 then (1 : Int32) else (if x < nI n then (0 : Int32) else 1)) = 1 := by
      by_cases h1 : x < 0
      · rw [if_pos h1]
      · rw [if_neg h1]
        by_cases h2 : x < nI n
        · obtain ⟨j, hj, rfl⟩ := nI_of h1
          exact absurd rfl (hno j ((nI_ltI hj (by omega)).mp h2))
        · rw [if_neg h2]
    rw [q]
    exact ⟨nb1, hq.2 hno⟩
theorem w_nothing1 {X : Mem} {o : Nat} {Q : Int32 → Prop} (h : X o 2 = -1) (q : Q 1) : w_X2_isNothing o X Q := by
  unfold w_X2_isNothing
  rw [if_pos h]
  exact ⟨nb1, q⟩
theorem w_nothing0 {X : Mem} {o l : Nat} {Q : Int32 → Prop} (h : X o 2 = nI l) (hl : l < 3) (q : Q 0) : w_X2_isNothing o X Q := by
  unfold w_X2_isNothing
  rw [if_neg (by rw [h]; exact nI_nm1 (by omega))]
  exact ⟨nb0, q⟩
theorem m_lay1 {M : Mem} {k l n : Nat} {y z : Int32} {Q : Int32 → Mem → Prop} (hk : k ≤ 3) (hl : l < 3) (l2 : M 9 k = nI l) (n2 : M 10 k = nI n) (hn : n ≤ 40) (q : (∀ i, i < n → y = nI i → w_X8_lay_99 (if nI l = 0 then z.toInt8.toInt32 else (if nI l = 1 then z.toInt16.toInt32 else z)) (nI (40 * k + i)) M Q) ∧ ((∀ i, i < n → y ≠ nI i) → Q (-12) M)) : w_X8_lay (nI k) y z M Q := by
  have ev : vp_in (nI k) 4 := vp_in_nI (by omega) (by omega)
  unfold w_X8_lay
  rw [nI_clamp (by omega), l2, n2]
  refine m_in1 (a := 0) (b := 3) (by omega) hk (by omega) (b1 ⟨ev, ?_⟩)
  refine ⟨fun q => absurd q (nI_nm4 (by omega)), fun _ => ⟨ev, ?_⟩⟩
  rcases dT y n with ⟨i, hi, rfl⟩ | hno
  · refine m_T1 hi (by omega) (b1 ⟨ev, ?_⟩)
    have f := q.1 i hi rfl
    rw [← sh24, ← sh16, show (40 : Int32) * nI k = nI (40 * k) from nIm 40 k, nI_add]
    refine ⟨fun e => ?_, fun e => ⟨ev, ?_⟩⟩
    · rw [if_pos e] at f
      exact f
    · rw [if_neg e] at f
      exact f
  · exact m_T0 hno (by omega) (b0 (q.2 hno))
theorem op_lay_ok : op_lay Rel0 := by
  intro X M x y z ⟨E, hN, hR⟩
  unfold w_X7_lay
  rcases dR x 0 3 with ⟨k, -, hk, rfl⟩ | hno
  · refine c_sh1 hk (b0 ?_)
    have ev : vp_in (nI k) 4 := vp_in_nI (by omega) (by omega)
    rw [nI_clamp (by omega)]
    rcases hR.2.2.2.1 k (by omega) with ⟨h1, h2⟩ | ⟨l, n, hl, hn, ⟨l1, l2⟩, ⟨n1, n2⟩, hc⟩
    · refine ⟨ev, w_nothing1 h1 (b1 ?_)⟩
      unfold w_X8_lay
      rw [nI_clamp (by omega), h2]
      exact m_in1 (a := 0) (b := 3) (by omega) hk (by omega) (b1 ⟨ev, fun _ => ⟨rfl, E, hN, hR⟩, fun q => absurd rfl q⟩)
    · refine ⟨ev, w_nothing0 l1 hl (b0 ⟨ev, ?_⟩)⟩
      unfold w_X2_put
      refine w_lacks n1 hn ⟨fun i hi ei => b0 ?_, fun hno => b1 ?_⟩
      · subst ei
        rw [l1, nI_clamp (by omega)]
        refine ⟨vp_in_nI (by omega) (by omega), fun X5 e5 => ?_⟩
        show w_X8_lay (nI k) (nI i) z M (fun r1 M1 => (1 : Int32) = r1 ∧ Rel0 X5 M1)
        refine m_lay1 hk hl l2 n2 hn ⟨fun i' hi' ei' => ?_, fun h => absurd rfl (h i hi)⟩
        have ii : i = i' := (nI_eq (by omega) (by omega)).mp ei'
        subst ii
        generalize (if nI l = 0 then z.toInt8.toInt32 else (if nI l = 1 then z.toInt16.toInt32 else z)) = v at e5 ⊢
        unfold w_X8_lay_99
        rw [nI_clamp (by omega)]
        refine ⟨vp_in_nI (by omega) (by omega), fun M8 e8 => ⟨rfl, ?_⟩⟩
        have ek := shk k
        refine Rel_sh (k := k) hN hR (by omega) (fun a h1 h2 => ?_) (fun a h1 h2 h3 => ?_) (fun j hj => ⟨?_, ?_⟩) (fun j hj => ?_) (Or.inr ⟨l, n, hl, hn, ⟨?_, ?_⟩, ⟨?_, ?_⟩, fun j hj => ?_⟩)
        · rw [e5, mu_c h2]
        · rw [e8, mu_c h3]
        · rw [e8, mu_c (by omega)]
        · rw [e8, mu_c (by omega)]
        · rw [e8, mu_at, if_neg (by omega)]
        · rw [e5, mu_c (by omega), l1]
        · rw [e8, mu_c (by omega), l2]
        · rw [e5, mu_c (by omega), n1]
        · rw [e8, mu_c (by omega), n2]
        · rw [e5, e8, mu_at, mu_at]
          by_cases q : j = i
          · rw [if_pos ⟨rfl, q⟩, if_pos ⟨rfl, by omega⟩]
          · rw [if_neg (by omega), if_neg (by omega)]
            exact hc j hj
      · show w_X8_lay (nI k) y z M (fun r1 M1 => (-12 : Int32) = r1 ∧ Rel0 X M1)
        exact m_lay1 hk hl l2 n2 hn ⟨fun i' hi' ei' => absurd ei' (hno i' hi'), fun _ => ⟨rfl, E, hN, hR⟩⟩
  · exact c_sh0 hno (b1 (m_in0 (a := 0) (b := 3) hno (by omega) (by omega) (b0 ⟨rfl, E, hN, hR⟩)))
