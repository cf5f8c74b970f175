-- clear
def w_X0_clear_29 (o : Nat) (M : Mem) (Q : Mem → Prop) : Prop :=
  ∀ M2, M2 = mu M o 9 0 → ∀ M3, M3 = mu M2 o 10 0 → ∀ M4, M4 = mu M3 o 11 0 → ∀ M5, M5 = mu M4 o 12 0 → Q M5
def w_X0_clear_2 (o : Nat) (Q : Mem → Prop) (K2 : Int32 → Mem → Prop) (x1 : Int32) (M : Mem) : Prop :=
  (6 ≤ x1 → w_X0_clear_29 o M Q) ∧ (¬ 6 ≤ x1 → vp_in x1 6 ∧ ∀ M6, M6 = mu M (o + 1) x1.toNatClampNeg 30 → vp_in x1 6 ∧ ∀ M7, M7 = mu M6 (o + 2) x1.toNatClampNeg 2 → K2 (x1 + 1) M7)
def w_X0_clear (o : Nat) (M : Mem) (Q : Mem → Prop) : Prop :=
  ∃ n, fu2 (w_X0_clear_2 o Q) n 0 M
-- copyFrom
def w_X0_copyFrom (o : Nat) (o2 : Nat) (M : Mem) (Q : Mem → Prop) : Prop :=
  cpOk 0 0 6 6 6 ∧ ∀ M1, M1 = mc M (o2 + 1) 0 (o + 1) 0 6 → cpOk 0 0 6 6 6 ∧ ∀ M2, M2 = mc M1 (o2 + 2) 0 (o + 2) 0 6 → cpOk 0 0 5 5 5 ∧ ∀ M3, M3 = mc M2 (o2 + 3) 0 (o + 3) 0 5 → cpOk 0 0 5 5 5 ∧ ∀ M4, M4 = mc M3 (o2 + 4) 0 (o + 4) 0 5 → cpOk 0 0 5 5 5 ∧ ∀ M5, M5 = mc M4 (o2 + 5) 0 (o + 5) 0 5 → cpOk 0 0 5 5 5 ∧ ∀ M6, M6 = mc M5 (o2 + 6) 0 (o + 6) 0 5 → cpOk 0 0 3 3 3 ∧ ∀ M7, M7 = mc M6 (o2 + 7) 0 (o + 7) 0 3 → cpOk 0 0 3 3 3 ∧ ∀ M8, M8 = mc M7 (o2 + 8) 0 (o + 8) 0 3 → cpOk 0 0 3 3 3 ∧ ∀ M9, M9 = mc M8 (o2 + 9) 0 (o + 9) 0 3 → ∀ M10, M10 = mu M9 o 9 (M9 o2 9) → ∀ M11, M11 = mu M10 o 10 (M10 o2 10) → ∀ M12, M12 = mu M11 o 11 (M11 o2 11) → ∀ M13, M13 = mu M12 o 12 (M12 o2 12) → Q M13
-- addTaker
def w_X0_addTaker (o : Nat) (x1 : Int32) (x2 : Int32) (M : Mem) (Q : Int32 → Mem → Prop) : Prop :=
  ((M o 9) < 5 → vp_in (M o 9) 5 ∧ ∀ M2, M2 = mu M (o + 3) (M o 9).toNatClampNeg x1 → vp_in (M2 o 9) 5 ∧ ∀ M3, M3 = mu M2 (o + 4) (M2 o 9).toNatClampNeg x2 → vp_in (M3 o 9) 5 ∧ ∀ M4, M4 = mu M3 (o + 5) (M3 o 9).toNatClampNeg 0 → vp_in (M4 o 9) 5 ∧ ∀ M5, M5 = mu M4 (o + 6) (M4 o 9).toNatClampNeg 0 → ∀ M6, M6 = mu M5 o 9 ((M5 o 9) + 1) → Q 1 M6) ∧ (¬ (M o 9) < 5 → Q 0 M)
-- addKeeper
def w_X0_addKeeper (o : Nat) (x1 : Int32) (x2 : Int32) (x3 : Int32) (M : Mem) (Q : Int32 → Mem → Prop) : Prop :=
  ((M o 10) < 3 → vp_in (M o 10) 3 ∧ ∀ M2, M2 = mu M (o + 7) (M o 10).toNatClampNeg x1 → vp_in (M2 o 10) 3 ∧ ∀ M3, M3 = mu M2 (o + 8) (M2 o 10).toNatClampNeg x2 → vp_in (M3 o 10) 3 ∧ ∀ M4, M4 = mu M3 (o + 9) (M3 o 10).toNatClampNeg x3 → ∀ M5, M5 = mu M4 o 10 ((M4 o 10) + 1) → Q 1 M5) ∧ (¬ (M o 10) < 3 → Q 0 M)
-- takes
def w_X0_takes (o : Nat) (x1 : Int32) (M : Mem) (Q : Int32 → Prop) : Prop :=
  vp_in x1 5 ∧ vp_in (M (o + 3) x1.toNatClampNeg) 4 ∧ Q (takesT (M (o + 3) x1.toNatClampNeg).toNatClampNeg)
-- noise
def w_X0_noise (o : Nat) (x1 : Int32) (M : Mem) (Q : Int32 → Prop) : Prop :=
  vp_in x1 5 ∧ vp_in (M (o + 3) x1.toNatClampNeg) 4 ∧ Q (noiseT (M (o + 3) x1.toNatClampNeg).toNatClampNeg)
-- placeOf
def w_X0_placeOf (o : Nat) (x1 : Int32) (M : Mem) (Q : Int32 → Prop) : Prop :=
  vp_in x1 3 ∧ vp_in x1 3 ∧ Q (irm ((M (o + 7) x1.toNatClampNeg) + ((M o 11) * (M (o + 8) x1.toNatClampNeg))) 6)
-- wouldBeCaught
def w_X0_wouldBeCaught_51 (o : Nat) (x1 : Int32) (x2 : Int32) (M : Mem) (K13 : Int32 → Prop) (Q : Int32 → Prop) : Prop :=
  K13 (x2 + 1)
def w_X0_wouldBeCaught_13 (o : Nat) (x1 : Int32) (M : Mem) (Q : Int32 → Prop) (K13 : Int32 → Prop) (x2 : Int32) : Prop :=
  ((M o 10) ≤ x2 → Q 0) ∧ (¬ (M o 10) ≤ x2 → w_X0_placeOf o x2 M (fun r3 => vp_in x1 5 ∧ (r3 = (M (o + 4) x1.toNatClampNeg) → w_X0_noise o x1 M (fun r5 => vp_in x2 3 ∧ (r5 < (M (o + 9) x2.toNatClampNeg) → w_X0_wouldBeCaught_51 o x1 x2 M K13 Q) ∧ (¬ r5 < (M (o + 9) x2.toNatClampNeg) → Q 1))) ∧ (¬ r3 = (M (o + 4) x1.toNatClampNeg) → w_X0_wouldBeCaught_51 o x1 x2 M K13 Q)))
def w_X0_wouldBeCaught (o : Nat) (x1 : Int32) (M : Mem) (Q : Int32 → Prop) : Prop :=
  vp_in x1 5 ∧ ((M (o + 6) x1.toNatClampNeg) ≤ 0 → ∃ n, fu1 (w_X0_wouldBeCaught_13 o x1 M Q) n 0) ∧ (¬ (M (o + 6) x1.toNatClampNeg) ≤ 0 → Q 0)
-- seize
def w_X0_seize (o : Nat) (x1 : Int32) (M : Mem) (Q : Mem → Prop) : Prop :=
  vp_in x1 5 ∧ ∀ M1, M1 = mu M (o + 6) x1.toNatClampNeg 7 → ∀ M2, M2 = mu M1 o 12 (if ((M1 o 12) + 1) < 999 then (M1 o 12) + 1 else 999) → ∀ M3, M3 = mu M2 o 13 ((M2 o 13) ||| (sl 1 x1)) → Q M3
-- fillBag
def w_X0_fillBag (o : Nat) (x1 : Int32) (M : Mem) (Q : Int32 → Mem → Prop) : Prop :=
  vp_in x1 5 ∧ w_X0_takes o x1 M (fun r1 => vp_in (M (o + 4) x1.toNatClampNeg) 6 ∧ ∀ v2 : Int32, v2 = (if (M (o + 1) (M (o + 4) x1.toNatClampNeg).toNatClampNeg) < r1 then M (o + 1) (M (o + 4) x1.toNatClampNeg).toNatClampNeg else r1) → vp_in (M (o + 4) x1.toNatClampNeg) 6 ∧ vp_in (M (o + 4) x1.toNatClampNeg) 6 ∧ ∀ M3, M3 = mu M (o + 1) (M (o + 4) x1.toNatClampNeg).toNatClampNeg ((M (o + 1) (M (o + 4) x1.toNatClampNeg).toNatClampNeg) - v2) → vp_in x1 5 ∧ vp_in x1 5 ∧ ∀ M4, M4 = mu M3 (o + 5) x1.toNatClampNeg (if ((M3 (o + 5) x1.toNatClampNeg) + v2) < 999 then (M3 (o + 5) x1.toNatClampNeg) + v2 else 999) → Q v2 M4)
-- passNight
def w_X0_passNight_111 (o : Nat) (x2 : Int32) (M : Mem) (Q : Int32 → Mem → Prop) : Prop :=
  ∀ M4, M4 = mu M o 11 ((M o 11) + 1) → Q x2 M4
def w_X0_passNight_75 (o : Nat) (x2 : Int32) (Q : Int32 → Mem → Prop) (K75 : Int32 → Mem → Prop) (x3 : Int32) (M : Mem) : Prop :=
  (6 ≤ x3 → w_X0_passNight_111 o x2 M Q) ∧ (¬ 6 ≤ x3 → vp_in x3 6 ∧ vp_in x3 6 ∧ vp_in x3 6 ∧ ∀ M5, M5 = mu M (o + 1) x3.toNatClampNeg (if ((M (o + 1) x3.toNatClampNeg) + (M (o + 2) x3.toNatClampNeg)) < 60 then (M (o + 1) x3.toNatClampNeg) + (M (o + 2) x3.toNatClampNeg) else 60) → K75 (x3 + 1) M5)
def w_X0_passNight_73 (o : Nat) (x2 : Int32) (M : Mem) (Q : Int32 → Mem → Prop) : Prop :=
  ∃ n, fu2 (w_X0_passNight_75 o x2 Q) n 0 M
def w_X0_passNight_67 (o : Nat) (x1 : Int32) (x2 : Int32) (x3 : Int32) (M : Mem) (K9 : Int32 → Int32 → Mem → Prop) (Q : Int32 → Mem → Prop) : Prop :=
  K9 x2 (x3 + 1) M
def w_X0_passNight_59 (o : Nat) (x1 : Int32) (x2 : Int32) (x3 : Int32) (M : Mem) (K9 : Int32 → Int32 → Mem → Prop) (Q : Int32 → Mem → Prop) : Prop :=
  w_X0_fillBag o x3 M (fun r8 M9 => w_X0_passNight_67 o x1 (x2 + r8) x3 M9 K9 Q)
def w_X0_passNight_9 (o : Nat) (x1 : Int32) (Q : Int32 → Mem → Prop) (K9 : Int32 → Int32 → Mem → Prop) (x2 : Int32) (x3 : Int32) (M : Mem) : Prop :=
  ((M o 9) ≤ x3 → w_X0_passNight_73 o x2 M Q) ∧ (¬ (M o 9) ≤ x3 → vp_in x3 5 ∧ ((M (o + 6) x3.toNatClampNeg) ≤ 0 → (x1 = 0 → w_X0_wouldBeCaught o x3 M (fun r10 => (r10 = 0 → w_X0_passNight_59 o x1 x2 x3 M K9 Q) ∧ (¬ r10 = 0 → w_X0_seize o x3 M (fun M13 => w_X0_passNight_67 o x1 x2 x3 M13 K9 Q)))) ∧ (¬ x1 = 0 → w_X0_passNight_59 o x1 x2 x3 M K9 Q)) ∧ (¬ (M (o + 6) x3.toNatClampNeg) ≤ 0 → vp_in x3 5 ∧ vp_in x3 5 ∧ ∀ M14, M14 = mu M (o + 6) x3.toNatClampNeg ((M (o + 6) x3.toNatClampNeg) - 1) → w_X0_passNight_67 o x1 x2 x3 M14 K9 Q))
def w_X0_passNight (o : Nat) (x1 : Int32) (M : Mem) (Q : Int32 → Mem → Prop) : Prop :=
  ∀ M1, M1 = mu M o 13 0 → ∃ n, fu3 (w_X0_passNight_9 o x1 Q) n 0 0 M1
-- sum
def w_X0_sum_4 (r : Nat) (nr : Nat) (x1 : Int32) (M : Mem) (Q : Int32 → Prop) (K4 : Int32 → Int32 → Prop) (x2 : Int32) (x3 : Int32) : Prop :=
  (x1 ≤ x3 → Q x2) ∧ (¬ x1 ≤ x3 → ((nI nr) ≤ x3 → Q x2) ∧ (¬ (nI nr) ≤ x3 → vp_in x3 nr ∧ K4 (x2 + (M r x3.toNatClampNeg)) (x3 + 1)))
def w_X0_sum (r : Nat) (nr : Nat) (x1 : Int32) (M : Mem) (Q : Int32 → Prop) : Prop :=
  ∃ n, fu2 (w_X0_sum_4 r nr x1 M Q) n 0 0
-- lightOfAll
def w_X0_lightOfAll (o : Nat) (M : Mem) (Q : Int32 → Prop) : Prop :=
  w_X0_sum (o + 1) 6 6 M (fun r1 => Q r1)
-- growthOfAll
def w_X0_growthOfAll (o : Nat) (M : Mem) (Q : Int32 → Prop) : Prop :=
  w_X0_sum (o + 2) 6 6 M (fun r1 => Q r1)
-- bagsOfAll
def w_X0_bagsOfAll (o : Nat) (M : Mem) (Q : Int32 → Prop) : Prop :=
  w_X0_sum (o + 5) 5 (M o 9) M (fun r1 => Q r1)
-- earsOfAll
def w_X0_earsOfAll (o : Nat) (M : Mem) (Q : Int32 → Prop) : Prop :=
  w_X0_sum (o + 9) 3 (M o 10) M (fun r1 => Q r1)
-- heldBits
def w_X0_heldBits_4 (o : Nat) (M : Mem) (Q : Int32 → Prop) (K4 : Int32 → Int32 → Prop) (x1 : Int32) (x2 : Int32) : Prop :=
  ((M o 9) ≤ x2 → Q x1) ∧ (¬ (M o 9) ≤ x2 → vp_in x2 5 ∧ ∀ v3 : Int32, v3 = (x1 ||| (if (M (o + 6) x2.toNatClampNeg) ≤ 0 then (0 : Int32) else (sl 1 x2))) → K4 v3 (x2 + 1))
def w_X0_heldBits (o : Nat) (M : Mem) (Q : Int32 → Prop) : Prop :=
  ∃ n, fu2 (w_X0_heldBits_4 o M Q) n 0 0
-- nextCaughtBits
def w_X0_nextCaughtBits_4 (o : Nat) (M : Mem) (Q : Int32 → Prop) (K4 : Int32 → Int32 → Prop) (x1 : Int32) (x2 : Int32) : Prop :=
  ((M o 9) ≤ x2 → Q x1) ∧ (¬ (M o 9) ≤ x2 → w_X0_wouldBeCaught o x2 M (fun r2 => K4 (x1 ||| (if r2 = 0 then (0 : Int32) else (sl 1 x2))) (x2 + 1)))
def w_X0_nextCaughtBits (o : Nat) (M : Mem) (Q : Int32 → Prop) : Prop :=
  ∃ n, fu2 (w_X0_nextCaughtBits_4 o M Q) n 0 0
-- takerBitsAt
def w_X0_takerBitsAt_4 (o : Nat) (x1 : Int32) (M : Mem) (Q : Int32 → Prop) (K4 : Int32 → Int32 → Prop) (x2 : Int32) (x3 : Int32) : Prop :=
  ((M o 9) ≤ x3 → Q x2) ∧ (¬ (M o 9) ≤ x3 → vp_in x3 5 ∧ ∀ v3 : Int32, v3 = (x2 ||| (if (M (o + 4) x3.toNatClampNeg) = x1 then (sl 1 x3) else 0)) → K4 v3 (x3 + 1))
def w_X0_takerBitsAt (o : Nat) (x1 : Int32) (M : Mem) (Q : Int32 → Prop) : Prop :=
  ∃ n, fu2 (w_X0_takerBitsAt_4 o x1 M Q) n 0 0
-- keeperBitsAt
def w_X0_keeperBitsAt_4 (o : Nat) (x1 : Int32) (M : Mem) (Q : Int32 → Prop) (K4 : Int32 → Int32 → Prop) (x2 : Int32) (x3 : Int32) : Prop :=
  ((M o 10) ≤ x3 → Q x2) ∧ (¬ (M o 10) ≤ x3 → w_X0_placeOf o x3 M (fun r2 => K4 (x2 ||| (if r2 = x1 then (sl 1 x3) else 0)) (x3 + 1)))
def w_X0_keeperBitsAt (o : Nat) (x1 : Int32) (M : Mem) (Q : Int32 → Prop) : Prop :=
  ∃ n, fu2 (w_X0_keeperBitsAt_4 o x1 M Q) n 0 0
section
variable {p : Program} {l : Launch} {e : Env} {s : State} {m : MethodId} {args : Array Value} {below : List Frame} {meth : Method} {c : Code} {g : Gt}
-- clear
set_option maxHeartbeats 4000000 in
set_option maxRecDepth 100000 in
theorem v_X0_clear_29 {o : Nat} {M : Mem} {Q : Mem → Prop} {H : Heap} {locs : List Loc} {ls : Array Slot} (C : Cx p s m args c cX0_clear 2 RX0 g) (hr : meth.sig.returnType = none) (hk : meth.locks = false) (hE : isE o)  (h : w_X0_clear_29 o M Q) (w : Wd g layX 68 s.heap M H locs) (hl : lv_has ls 2 [(0, .ref (ga g o))]) : W p l e (rmOf 0 0) s m args below meth c H locs 0 0 (MQ below (va_Qv Q (PostW g layX 68) (gF g)) args s 0 0 (gF g)) (F0 m 29 ls []) := by
  unfold w_X0_clear_29 at h
  refine lv_aload_n C.1.1 C.1.2.1 dX0_clear_29 rfl (lv_at hl 0 rfl) ?_
  refine lv_iconst (v := 0) C.1.1 C.1.2.1 dX0_clear_30 (by decide) ?_
  refine pi_RX0_40 C w (eO hE) (eL hE) rfl dX0_clear_31 (fun M2 H locs eM2 w => ?_)
  replace h := h M2 eM2
  refine lv_aload_n C.1.1 C.1.2.1 dX0_clear_34 rfl (lv_at hl 0 rfl) ?_
  refine lv_iconst (v := 0) C.1.1 C.1.2.1 dX0_clear_35 (by decide) ?_
  refine pi_RX0_44 C w (eO hE) (eL hE) rfl dX0_clear_36 (fun M3 H locs eM3 w => ?_)
  replace h := h M3 eM3
  refine lv_aload_n C.1.1 C.1.2.1 dX0_clear_39 rfl (lv_at hl 0 rfl) ?_
  refine lv_iconst (v := 0) C.1.1 C.1.2.1 dX0_clear_40 (by decide) ?_
  refine pi_RX0_47 C w (eO hE) (eL hE) rfl dX0_clear_41 (fun M4 H locs eM4 w => ?_)
  replace h := h M4 eM4
  refine lv_aload_n C.1.1 C.1.2.1 dX0_clear_44 rfl (lv_at hl 0 rfl) ?_
  refine lv_iconst (v := 0) C.1.1 C.1.2.1 dX0_clear_45 (by decide) ?_
  refine pi_RX0_50 C w (eO hE) (eL hE) rfl dX0_clear_46 (fun M5 H locs eM5 w => ?_)
  replace h := h M5 eM5
  exact q_vret C hr hk w h dX0_clear_49
set_option maxHeartbeats 4000000 in
set_option maxRecDepth 100000 in
theorem v_X0_clear_2 {o : Nat} {x1 : Int32} {M : Mem} {K2 : Int32 → Mem → Prop} {Q : Mem → Prop} {H : Heap} {locs : List Loc} {ls : Array Slot} (C : Cx p s m args c cX0_clear 2 RX0 g) (hr : meth.sig.returnType = none) (hk : meth.locks = false) (hE : isE o) (hK2 : ∀ (x1 : Int32) (M : Mem) (H : Heap) (locs : List Loc) (ls : Array Slot), K2 x1 M → Wd g layX 68 s.heap M H locs → lv_has ls 2 [(0, .ref (ga g o)), (1, .int x1)] → W p l e (rmOf 0 0) s m args below meth c H locs 0 0 (MQ below (va_Qv Q (PostW g layX 68) (gF g)) args s 0 0 (gF g)) (F0 m 2 ls [])) (h : w_X0_clear_2 o Q K2 x1 M) (w : Wd g layX 68 s.heap M H locs) (hl : lv_has ls 2 [(0, .ref (ga g o)), (1, .int x1)]) : W p l e (rmOf 0 0) s m args below meth c H locs 0 0 (MQ below (va_Qv Q (PostW g layX 68) (gF g)) args s 0 0 (gF g)) (F0 m 2 ls []) := by
  unfold w_X0_clear_2 at h
  refine lv_iload_n C.1.1 C.1.2.1 dX0_clear_2 rfl (lv_at hl 1 rfl) ?_
  refine lv_bipush (v := 6) C.1.1 C.1.2.1 dX0_clear_3 (by decide) ?_
  refine lv_icmp_ge (tgt := 29) C.1.1 C.1.2.1 dX0_clear_5 (by decide) (fun hc1 => ?_) (fun hc1 => ?_)
  · replace h := h.1 hc1
    exact v_X0_clear_29 C hr hk hE  h w (lv_sub hl [0] rfl)
  · replace h := h.2 hc1
    refine lv_aload_n C.1.1 C.1.2.1 dX0_clear_8 rfl (lv_at hl 0 rfl) ?_
    refine gr_RX0_9 C w (eO hE) (eL hE) rfl dX0_clear_9 ?_
    refine lv_iload_n C.1.1 C.1.2.1 dX0_clear_12 rfl (lv_at hl 1 rfl) ?_
    refine lv_bipush (v := 30) C.1.1 C.1.2.1 dX0_clear_13 (by decide) ?_
    refine q_ias C w (eA0 hE).1 (eA0 hE).2 h.1 dX0_clear_15 (fun M6 H locs eM6 w => ?_)
    replace h := h.2 M6 eM6
    refine lv_aload_n C.1.1 C.1.2.1 dX0_clear_16 rfl (lv_at hl 0 rfl) ?_
    refine gr_RX0_13 C w (eO hE) (eL hE) rfl dX0_clear_17 ?_
    refine lv_iload_n C.1.1 C.1.2.1 dX0_clear_20 rfl (lv_at hl 1 rfl) ?_
    refine lv_iconst (v := 2) C.1.1 C.1.2.1 dX0_clear_21 (by decide) ?_
    refine q_ias C w (eA1 hE).1 (eA1 hE).2 h.1 dX0_clear_22 (fun M7 H locs eM7 w => ?_)
    replace h := h.2 M7 eM7
    refine lv_iinc (v := x1 + 1) (lv' := [(1, .int (x1 + 1)), (0, .ref (ga g o))]) C.1.1 C.1.2.1 dX0_clear_23 hl (k := 1) rfl rfl (by decide) rfl (fun ls hl => ?_)
    refine lv_goto (tgt := 2) C.1.1 C.1.2.1 dX0_clear_26 (by decide) ?_
    exact hK2 _ _ _ _ _ h w (lv_sub hl [1, 0] rfl)
set_option maxHeartbeats 4000000 in
set_option maxRecDepth 100000 in
theorem l_X0_clear_2 {o : Nat} {Q : Mem → Prop} (C : Cx p s m args c cX0_clear 2 RX0 g) (hr : meth.sig.returnType = none) (hk : meth.locks = false) (hE : isE o)  : ∀ (n : Nat) (x1 : Int32) (M : Mem) (H : Heap) (locs : List Loc) (ls : Array Slot), fu2 (w_X0_clear_2 o Q) n x1 M → Wd g layX 68 s.heap M H locs → lv_has ls 2 [(0, .ref (ga g o)), (1, .int x1)] → W p l e (rmOf 0 0) s m args below meth c H locs 0 0 (MQ below (va_Qv Q (PostW g layX 68) (gF g)) args s 0 0 (gF g)) (F0 m 2 ls []) := by
  intro n
  induction n with
  | zero => intro x1 M H locs ls h; exact h.elim
  | succ n ih => intro x1 M H locs ls h w hl; exact v_X0_clear_2 C hr hk hE  ih h w hl
set_option maxHeartbeats 4000000 in
set_option maxRecDepth 100000 in
theorem c_X0_clear {l : Launch} {g : Gt} {o : Nat} {M : Mem} {Q : Mem → Prop} (hE : isE o) (h : w_X0_clear o M Q) : MV l yX0_clear cX0_clear 2 none 0 0 g layX 68 [.ref (ga g o)] M Q :=
  m_of (by decide +kernel) (Nat.le_of_ble_eq_true rfl) (fun p e s m args below meth c ls C hr hk w hl => by
    have C : Cx p s m args c cX0_clear 2 RX0 g := C
    have hl : lv_has ls 2 [(0, .ref (ga g o))] := hl
    unfold w_X0_clear at h
    obtain ⟨H, eH⟩ : ∃ H : Heap, H = s.heap := ⟨_, rfl⟩
    obtain ⟨locs, el⟩ : ∃ locs : List Loc, locs = [] := ⟨_, rfl⟩
    have w : Wd g layX 68 s.heap M H locs := by rw [eH, el]; exact w
    suffices hw : W p l e (rmOf 0 0) s m args below meth c H locs 0 0 (MQ below (va_Qv Q (PostW g layX 68) (gF g)) args s 0 0 (gF g)) (F0 m 0 ls []) by rw [eH, el] at hw; exact hw
    clear eH el
    refine lv_iconst (v := 0) C.1.1 C.1.2.1 dX0_clear_0 (by decide) ?_
    refine lv_istore_n (lv' := [(1, .int 0), (0, .ref (ga g o))]) C.1.1 C.1.2.1 dX0_clear_1 rfl hl (by decide) rfl (fun ls hl => ?_)
    obtain ⟨n, h⟩ := h
    exact l_X0_clear_2 C hr hk hE  n _ _ _ _ _ h w (lv_sub hl [1, 0] rfl))
-- copyFrom
set_option maxHeartbeats 4000000 in
set_option maxRecDepth 100000 in
theorem c_X0_copyFrom {l : Launch} {g : Gt} {o : Nat} {o2 : Nat} {M : Mem} {Q : Mem → Prop} (hE : isE o) (hE2 : isE o2) (h : w_X0_copyFrom o o2 M Q) : MV l yX0_copyFrom cX0_copyFrom 2 none 1 26 g layX 68 [.ref (ga g o), .ref (ga g o2)] M Q :=
  m_of (by decide +kernel) (Nat.le_of_ble_eq_true rfl) (fun p e s m args below meth c ls C hr hk w hl => by
    have C : Cx p s m args c cX0_copyFrom 2 RX0 g := C
    have hl : lv_has ls 2 [(0, .ref (ga g o)), (1, .ref (ga g o2))] := hl
    unfold w_X0_copyFrom at h
    obtain ⟨H, eH⟩ : ∃ H : Heap, H = s.heap := ⟨_, rfl⟩
    obtain ⟨locs, el⟩ : ∃ locs : List Loc, locs = [] := ⟨_, rfl⟩
    have w : Wd g layX 68 s.heap M H locs := by rw [eH, el]; exact w
    suffices hw : W p l e (rmOf 1 26) s m args below meth c H locs 0 0 (MQ below (va_Qv Q (PostW g layX 68) (gF g)) args s 0 0 (gF g)) (F0 m 0 ls []) by rw [eH, el] at hw; exact hw
    clear eH el
    refine lv_aload_n C.1.1 C.1.2.1 dX0_copyFrom_0 rfl (lv_at hl 1 rfl) ?_
    refine gr_RX0_9 C w (eO hE2) (eL hE2) rfl dX0_copyFrom_1 ?_
    refine lv_iconst (v := 0) C.1.1 C.1.2.1 dX0_copyFrom_4 (by decide) ?_
    refine lv_aload_n C.1.1 C.1.2.1 dX0_copyFrom_5 rfl (lv_at hl 0 rfl) ?_
    refine gr_RX0_9 C w (eO hE) (eL hE) rfl dX0_copyFrom_6 ?_
    refine lv_iconst (v := 0) C.1.1 C.1.2.1 dX0_copyFrom_9 (by decide) ?_
    refine lv_bipush (v := 6) C.1.1 C.1.2.1 dX0_copyFrom_10 (by decide) ?_
    refine q_copy C w kCopy_ok k_0 hl.1 (eA0 hE2).1 (eA0 hE2).2 (eA0 hE).1 (eA0 hE).2 h.1 ⟨Nat.le_of_ble_eq_true rfl, Nat.le_of_ble_eq_true rfl⟩ dX0_copyFrom_12 (fun M1 H locs eM1 w => ?_)
    replace h := h.2 M1 eM1
    refine lv_aload_n C.1.1 C.1.2.1 dX0_copyFrom_15 rfl (lv_at hl 1 rfl) ?_
    refine gr_RX0_13 C w (eO hE2) (eL hE2) rfl dX0_copyFrom_16 ?_
    refine lv_iconst (v := 0) C.1.1 C.1.2.1 dX0_copyFrom_19 (by decide) ?_
    refine lv_aload_n C.1.1 C.1.2.1 dX0_copyFrom_20 rfl (lv_at hl 0 rfl) ?_
    refine gr_RX0_13 C w (eO hE) (eL hE) rfl dX0_copyFrom_21 ?_
    refine lv_iconst (v := 0) C.1.1 C.1.2.1 dX0_copyFrom_24 (by decide) ?_
    refine lv_bipush (v := 6) C.1.1 C.1.2.1 dX0_copyFrom_25 (by decide) ?_
    refine q_copy C w kCopy_ok k_0 hl.1 (eA1 hE2).1 (eA1 hE2).2 (eA1 hE).1 (eA1 hE).2 h.1 ⟨Nat.le_of_ble_eq_true rfl, Nat.le_of_ble_eq_true rfl⟩ dX0_copyFrom_27 (fun M2 H locs eM2 w => ?_)
    replace h := h.2 M2 eM2
    refine lv_aload_n C.1.1 C.1.2.1 dX0_copyFrom_30 rfl (lv_at hl 1 rfl) ?_
    refine gr_RX0_16 C w (eO hE2) (eL hE2) rfl dX0_copyFrom_31 ?_
    refine lv_iconst (v := 0) C.1.1 C.1.2.1 dX0_copyFrom_34 (by decide) ?_
    refine lv_aload_n C.1.1 C.1.2.1 dX0_copyFrom_35 rfl (lv_at hl 0 rfl) ?_
    refine gr_RX0_16 C w (eO hE) (eL hE) rfl dX0_copyFrom_36 ?_
    refine lv_iconst (v := 0) C.1.1 C.1.2.1 dX0_copyFrom_39 (by decide) ?_
    refine lv_iconst (v := 5) C.1.1 C.1.2.1 dX0_copyFrom_40 (by decide) ?_
    refine q_copy C w kCopy_ok k_0 hl.1 (eA2 hE2).1 (eA2 hE2).2 (eA2 hE).1 (eA2 hE).2 h.1 ⟨Nat.le_of_ble_eq_true rfl, Nat.le_of_ble_eq_true rfl⟩ dX0_copyFrom_41 (fun M3 H locs eM3 w => ?_)
    replace h := h.2 M3 eM3
    refine lv_aload_n C.1.1 C.1.2.1 dX0_copyFrom_44 rfl (lv_at hl 1 rfl) ?_
    refine gr_RX0_19 C w (eO hE2) (eL hE2) rfl dX0_copyFrom_45 ?_
    refine lv_iconst (v := 0) C.1.1 C.1.2.1 dX0_copyFrom_48 (by decide) ?_
    refine lv_aload_n C.1.1 C.1.2.1 dX0_copyFrom_49 rfl (lv_at hl 0 rfl) ?_
    refine gr_RX0_19 C w (eO hE) (eL hE) rfl dX0_copyFrom_50 ?_
    refine lv_iconst (v := 0) C.1.1 C.1.2.1 dX0_copyFrom_53 (by decide) ?_
    refine lv_iconst (v := 5) C.1.1 C.1.2.1 dX0_copyFrom_54 (by decide) ?_
    refine q_copy C w kCopy_ok k_0 hl.1 (eA3 hE2).1 (eA3 hE2).2 (eA3 hE).1 (eA3 hE).2 h.1 ⟨Nat.le_of_ble_eq_true rfl, Nat.le_of_ble_eq_true rfl⟩ dX0_copyFrom_55 (fun M4 H locs eM4 w => ?_)
    replace h := h.2 M4 eM4
    refine lv_aload_n C.1.1 C.1.2.1 dX0_copyFrom_58 rfl (lv_at hl 1 rfl) ?_
    refine gr_RX0_22 C w (eO hE2) (eL hE2) rfl dX0_copyFrom_59 ?_
    refine lv_iconst (v := 0) C.1.1 C.1.2.1 dX0_copyFrom_62 (by decide) ?_
    refine lv_aload_n C.1.1 C.1.2.1 dX0_copyFrom_63 rfl (lv_at hl 0 rfl) ?_
    refine gr_RX0_22 C w (eO hE) (eL hE) rfl dX0_copyFrom_64 ?_
    refine lv_iconst (v := 0) C.1.1 C.1.2.1 dX0_copyFrom_67 (by decide) ?_
    refine lv_iconst (v := 5) C.1.1 C.1.2.1 dX0_copyFrom_68 (by decide) ?_
    refine q_copy C w kCopy_ok k_0 hl.1 (eA4 hE2).1 (eA4 hE2).2 (eA4 hE).1 (eA4 hE).2 h.1 ⟨Nat.le_of_ble_eq_true rfl, Nat.le_of_ble_eq_true rfl⟩ dX0_copyFrom_69 (fun M5 H locs eM5 w => ?_)
    replace h := h.2 M5 eM5
    refine lv_aload_n C.1.1 C.1.2.1 dX0_copyFrom_72 rfl (lv_at hl 1 rfl) ?_
    refine gr_RX0_25 C w (eO hE2) (eL hE2) rfl dX0_copyFrom_73 ?_
    refine lv_iconst (v := 0) C.1.1 C.1.2.1 dX0_copyFrom_76 (by decide) ?_
    refine lv_aload_n C.1.1 C.1.2.1 dX0_copyFrom_77 rfl (lv_at hl 0 rfl) ?_
    refine gr_RX0_25 C w (eO hE) (eL hE) rfl dX0_copyFrom_78 ?_
    refine lv_iconst (v := 0) C.1.1 C.1.2.1 dX0_copyFrom_81 (by decide) ?_
    refine lv_iconst (v := 5) C.1.1 C.1.2.1 dX0_copyFrom_82 (by decide) ?_
    refine q_copy C w kCopy_ok k_0 hl.1 (eA5 hE2).1 (eA5 hE2).2 (eA5 hE).1 (eA5 hE).2 h.1 ⟨Nat.le_of_ble_eq_true rfl, Nat.le_of_ble_eq_true rfl⟩ dX0_copyFrom_83 (fun M6 H locs eM6 w => ?_)
    replace h := h.2 M6 eM6
    refine lv_aload_n C.1.1 C.1.2.1 dX0_copyFrom_86 rfl (lv_at hl 1 rfl) ?_
    refine gr_RX0_28 C w (eO hE2) (eL hE2) rfl dX0_copyFrom_87 ?_
    refine lv_iconst (v := 0) C.1.1 C.1.2.1 dX0_copyFrom_90 (by decide) ?_
    refine lv_aload_n C.1.1 C.1.2.1 dX0_copyFrom_91 rfl (lv_at hl 0 rfl) ?_
    refine gr_RX0_28 C w (eO hE) (eL hE) rfl dX0_copyFrom_92 ?_
    refine lv_iconst (v := 0) C.1.1 C.1.2.1 dX0_copyFrom_95 (by decide) ?_
    refine lv_iconst (v := 3) C.1.1 C.1.2.1 dX0_copyFrom_96 (by decide) ?_
    refine q_copy C w kCopy_ok k_0 hl.1 (eA6 hE2).1 (eA6 hE2).2 (eA6 hE).1 (eA6 hE).2 h.1 ⟨Nat.le_of_ble_eq_true rfl, Nat.le_of_ble_eq_true rfl⟩ dX0_copyFrom_97 (fun M7 H locs eM7 w => ?_)
    replace h := h.2 M7 eM7
    refine lv_aload_n C.1.1 C.1.2.1 dX0_copyFrom_100 rfl (lv_at hl 1 rfl) ?_
    refine gr_RX0_31 C w (eO hE2) (eL hE2) rfl dX0_copyFrom_101 ?_
    refine lv_iconst (v := 0) C.1.1 C.1.2.1 dX0_copyFrom_104 (by decide) ?_
    refine lv_aload_n C.1.1 C.1.2.1 dX0_copyFrom_105 rfl (lv_at hl 0 rfl) ?_
    refine gr_RX0_31 C w (eO hE) (eL hE) rfl dX0_copyFrom_106 ?_
    refine lv_iconst (v := 0) C.1.1 C.1.2.1 dX0_copyFrom_109 (by decide) ?_
    refine lv_iconst (v := 3) C.1.1 C.1.2.1 dX0_copyFrom_110 (by decide) ?_
    refine q_copy C w kCopy_ok k_0 hl.1 (eA7 hE2).1 (eA7 hE2).2 (eA7 hE).1 (eA7 hE).2 h.1 ⟨Nat.le_of_ble_eq_true rfl, Nat.le_of_ble_eq_true rfl⟩ dX0_copyFrom_111 (fun M8 H locs eM8 w => ?_)
    replace h := h.2 M8 eM8
    refine lv_aload_n C.1.1 C.1.2.1 dX0_copyFrom_114 rfl (lv_at hl 1 rfl) ?_
    refine gr_RX0_34 C w (eO hE2) (eL hE2) rfl dX0_copyFrom_115 ?_
    refine lv_iconst (v := 0) C.1.1 C.1.2.1 dX0_copyFrom_118 (by decide) ?_
    refine lv_aload_n C.1.1 C.1.2.1 dX0_copyFrom_119 rfl (lv_at hl 0 rfl) ?_
    refine gr_RX0_34 C w (eO hE) (eL hE) rfl dX0_copyFrom_120 ?_
    refine lv_iconst (v := 0) C.1.1 C.1.2.1 dX0_copyFrom_123 (by decide) ?_
    refine lv_iconst (v := 3) C.1.1 C.1.2.1 dX0_copyFrom_124 (by decide) ?_
    refine q_copy C w kCopy_ok k_0 hl.1 (eA8 hE2).1 (eA8 hE2).2 (eA8 hE).1 (eA8 hE).2 h.1 ⟨Nat.le_of_ble_eq_true rfl, Nat.le_of_ble_eq_true rfl⟩ dX0_copyFrom_125 (fun M9 H locs eM9 w => ?_)
    replace h := h.2 M9 eM9
    refine lv_aload_n C.1.1 C.1.2.1 dX0_copyFrom_128 rfl (lv_at hl 0 rfl) ?_
    refine lv_aload_n C.1.1 C.1.2.1 dX0_copyFrom_129 rfl (lv_at hl 1 rfl) ?_
    refine gi_RX0_40 C w (eO hE2) (eL hE2) rfl dX0_copyFrom_130 ?_
    refine pi_RX0_40 C w (eO hE) (eL hE) rfl dX0_copyFrom_133 (fun M10 H locs eM10 w => ?_)
    replace h := h M10 eM10
    refine lv_aload_n C.1.1 C.1.2.1 dX0_copyFrom_136 rfl (lv_at hl 0 rfl) ?_
    refine lv_aload_n C.1.1 C.1.2.1 dX0_copyFrom_137 rfl (lv_at hl 1 rfl) ?_
    refine gi_RX0_44 C w (eO hE2) (eL hE2) rfl dX0_copyFrom_138 ?_
    refine pi_RX0_44 C w (eO hE) (eL hE) rfl dX0_copyFrom_141 (fun M11 H locs eM11 w => ?_)
    replace h := h M11 eM11
    refine lv_aload_n C.1.1 C.1.2.1 dX0_copyFrom_144 rfl (lv_at hl 0 rfl) ?_
    refine lv_aload_n C.1.1 C.1.2.1 dX0_copyFrom_145 rfl (lv_at hl 1 rfl) ?_
    refine gi_RX0_47 C w (eO hE2) (eL hE2) rfl dX0_copyFrom_146 ?_
    refine pi_RX0_47 C w (eO hE) (eL hE) rfl dX0_copyFrom_149 (fun M12 H locs eM12 w => ?_)
    replace h := h M12 eM12
    refine lv_aload_n C.1.1 C.1.2.1 dX0_copyFrom_152 rfl (lv_at hl 0 rfl) ?_
    refine lv_aload_n C.1.1 C.1.2.1 dX0_copyFrom_153 rfl (lv_at hl 1 rfl) ?_
    refine gi_RX0_50 C w (eO hE2) (eL hE2) rfl dX0_copyFrom_154 ?_
    refine pi_RX0_50 C w (eO hE) (eL hE) rfl dX0_copyFrom_157 (fun M13 H locs eM13 w => ?_)
    replace h := h M13 eM13
    exact q_vret C hr hk w h dX0_copyFrom_160)
-- addTaker
set_option maxHeartbeats 4000000 in
set_option maxRecDepth 100000 in
theorem c_X0_addTaker {l : Launch} {g : Gt} {o : Nat} {x1 : Int32} {x2 : Int32} {M : Mem} {Q : Int32 → Mem → Prop} (hE : isE o) (h : w_X0_addTaker o x1 x2 M Q) : MI l yX0_addTaker cX0_addTaker 3 (some .boolean) 0 0 g layX 68 [.ref (ga g o), .int x1, .int x2] M Q :=
  m_of (by decide +kernel) (Nat.le_of_ble_eq_true rfl) (fun p e s m args below meth c ls C hr hk w hl => by
    have C : Cx p s m args c cX0_addTaker 3 RX0 g := C
    have hl : lv_has ls 3 [(0, .ref (ga g o)), (1, .int x1), (2, .int x2)] := hl
    unfold w_X0_addTaker at h
    obtain ⟨H, eH⟩ : ∃ H : Heap, H = s.heap := ⟨_, rfl⟩
    obtain ⟨locs, el⟩ : ∃ locs : List Loc, locs = [] := ⟨_, rfl⟩
    have w : Wd g layX 68 s.heap M H locs := by rw [eH, el]; exact w
    suffices hw : W p l e (rmOf 0 0) s m args below meth c H locs 0 0 (MQ below (va_Qi Q (PostW g layX 68) (gF g)) args s 0 0 (gF g)) (F0 m 0 ls []) by rw [eH, el] at hw; exact hw
    clear eH el
    refine lv_aload_n C.1.1 C.1.2.1 dX0_addTaker_0 rfl (lv_at hl 0 rfl) ?_
    refine gi_RX0_40 C w (eO hE) (eL hE) rfl dX0_addTaker_1 ?_
    refine lv_iconst (v := 5) C.1.1 C.1.2.1 dX0_addTaker_4 (by decide) ?_
    refine lv_icmp_lt (tgt := 10) C.1.1 C.1.2.1 dX0_addTaker_5 (by decide) (fun hc1 => ?_) (fun hc1 => ?_)
    · replace h := h.1 hc1
      refine lv_aload_n C.1.1 C.1.2.1 dX0_addTaker_10 rfl (lv_at hl 0 rfl) ?_
      refine gr_RX0_16 C w (eO hE) (eL hE) rfl dX0_addTaker_11 ?_
      refine lv_aload_n C.1.1 C.1.2.1 dX0_addTaker_14 rfl (lv_at hl 0 rfl) ?_
      refine gi_RX0_40 C w (eO hE) (eL hE) rfl dX0_addTaker_15 ?_
      refine lv_iload_n C.1.1 C.1.2.1 dX0_addTaker_18 rfl (lv_at hl 1 rfl) ?_
      refine q_ias C w (eA2 hE).1 (eA2 hE).2 h.1 dX0_addTaker_19 (fun M2 H locs eM2 w => ?_)
      replace h := h.2 M2 eM2
      refine lv_aload_n C.1.1 C.1.2.1 dX0_addTaker_20 rfl (lv_at hl 0 rfl) ?_
      refine gr_RX0_19 C w (eO hE) (eL hE) rfl dX0_addTaker_21 ?_
      refine lv_aload_n C.1.1 C.1.2.1 dX0_addTaker_24 rfl (lv_at hl 0 rfl) ?_
      refine gi_RX0_40 C w (eO hE) (eL hE) rfl dX0_addTaker_25 ?_
      refine lv_iload_n C.1.1 C.1.2.1 dX0_addTaker_28 rfl (lv_at hl 2 rfl) ?_
      refine q_ias C w (eA3 hE).1 (eA3 hE).2 h.1 dX0_addTaker_29 (fun M3 H locs eM3 w => ?_)
      replace h := h.2 M3 eM3
      refine lv_aload_n C.1.1 C.1.2.1 dX0_addTaker_30 rfl (lv_at hl 0 rfl) ?_
      refine gr_RX0_22 C w (eO hE) (eL hE) rfl dX0_addTaker_31 ?_
      refine lv_aload_n C.1.1 C.1.2.1 dX0_addTaker_34 rfl (lv_at hl 0 rfl) ?_
      refine gi_RX0_40 C w (eO hE) (eL hE) rfl dX0_addTaker_35 ?_
      refine lv_iconst (v := 0) C.1.1 C.1.2.1 dX0_addTaker_38 (by decide) ?_
      refine q_ias C w (eA4 hE).1 (eA4 hE).2 h.1 dX0_addTaker_39 (fun M4 H locs eM4 w => ?_)
      replace h := h.2 M4 eM4
      refine lv_aload_n C.1.1 C.1.2.1 dX0_addTaker_40 rfl (lv_at hl 0 rfl) ?_
      refine gr_RX0_25 C w (eO hE) (eL hE) rfl dX0_addTaker_41 ?_
      refine lv_aload_n C.1.1 C.1.2.1 dX0_addTaker_44 rfl (lv_at hl 0 rfl) ?_
      refine gi_RX0_40 C w (eO hE) (eL hE) rfl dX0_addTaker_45 ?_
      refine lv_iconst (v := 0) C.1.1 C.1.2.1 dX0_addTaker_48 (by decide) ?_
      refine q_ias C w (eA5 hE).1 (eA5 hE).2 h.1 dX0_addTaker_49 (fun M5 H locs eM5 w => ?_)
      replace h := h.2 M5 eM5
      refine lv_aload_n C.1.1 C.1.2.1 dX0_addTaker_50 rfl (lv_at hl 0 rfl) ?_
      refine lv_dup C.1.1 C.1.2.1 dX0_addTaker_51 rfl ?_
      refine gi_RX0_40 C w (eO hE) (eL hE) rfl dX0_addTaker_52 ?_
      refine lv_iconst (v := 1) C.1.1 C.1.2.1 dX0_addTaker_55 (by decide) ?_
      refine lv_iadd C.1.1 C.1.2.1 dX0_addTaker_56 ?_
      refine pi_RX0_40 C w (eO hE) (eL hE) rfl dX0_addTaker_57 (fun M6 H locs eM6 w => ?_)
      replace h := h M6 eM6
      refine lv_iconst (v := 1) C.1.1 C.1.2.1 dX0_addTaker_60 (by decide) ?_
      exact q_iret C hr hk w rfl h dX0_addTaker_61
    · replace h := h.2 hc1
      refine lv_iconst (v := 0) C.1.1 C.1.2.1 dX0_addTaker_8 (by decide) ?_
      exact q_iret C hr hk w rfl h dX0_addTaker_9)
-- addKeeper
set_option maxHeartbeats 4000000 in
set_option maxRecDepth 100000 in
theorem c_X0_addKeeper {l : Launch} {g : Gt} {o : Nat} {x1 : Int32} {x2 : Int32} {x3 : Int32} {M : Mem} {Q : Int32 → Mem → Prop} (hE : isE o) (h : w_X0_addKeeper o x1 x2 x3 M Q) : MI l yX0_addKeeper cX0_addKeeper 4 (some .boolean) 0 0 g layX 68 [.ref (ga g o), .int x1, .int x2, .int x3] M Q :=
  m_of (by decide +kernel) (Nat.le_of_ble_eq_true rfl) (fun p e s m args below meth c ls C hr hk w hl => by
    have C : Cx p s m args c cX0_addKeeper 4 RX0 g := C
    have hl : lv_has ls 4 [(0, .ref (ga g o)), (1, .int x1), (2, .int x2), (3, .int x3)] := hl
    unfold w_X0_addKeeper at h
    obtain ⟨H, eH⟩ : ∃ H : Heap, H = s.heap := ⟨_, rfl⟩
    obtain ⟨locs, el⟩ : ∃ locs : List Loc, locs = [] := ⟨_, rfl⟩
    have w : Wd g layX 68 s.heap M H locs := by rw [eH, el]; exact w
    suffices hw : W p l e (rmOf 0 0) s m args below meth c H locs 0 0 (MQ below (va_Qi Q (PostW g layX 68) (gF g)) args s 0 0 (gF g)) (F0 m 0 ls []) by rw [eH, el] at hw; exact hw
    clear eH el
    refine lv_aload_n C.1.1 C.1.2.1 dX0_addKeeper_0 rfl (lv_at hl 0 rfl) ?_
    refine gi_RX0_44 C w (eO hE) (eL hE) rfl dX0_addKeeper_1 ?_
    refine lv_iconst (v := 3) C.1.1 C.1.2.1 dX0_addKeeper_4 (by decide) ?_
    refine lv_icmp_lt (tgt := 10) C.1.1 C.1.2.1 dX0_addKeeper_5 (by decide) (fun hc1 => ?_) (fun hc1 => ?_)
    · replace h := h.1 hc1
      refine lv_aload_n C.1.1 C.1.2.1 dX0_addKeeper_10 rfl (lv_at hl 0 rfl) ?_
      refine gr_RX0_28 C w (eO hE) (eL hE) rfl dX0_addKeeper_11 ?_
      refine lv_aload_n C.1.1 C.1.2.1 dX0_addKeeper_14 rfl (lv_at hl 0 rfl) ?_
      refine gi_RX0_44 C w (eO hE) (eL hE) rfl dX0_addKeeper_15 ?_
      refine lv_iload_n C.1.1 C.1.2.1 dX0_addKeeper_18 rfl (lv_at hl 1 rfl) ?_
      refine q_ias C w (eA6 hE).1 (eA6 hE).2 h.1 dX0_addKeeper_19 (fun M2 H locs eM2 w => ?_)
      replace h := h.2 M2 eM2
      refine lv_aload_n C.1.1 C.1.2.1 dX0_addKeeper_20 rfl (lv_at hl 0 rfl) ?_
      refine gr_RX0_31 C w (eO hE) (eL hE) rfl dX0_addKeeper_21 ?_
      refine lv_aload_n C.1.1 C.1.2.1 dX0_addKeeper_24 rfl (lv_at hl 0 rfl) ?_
      refine gi_RX0_44 C w (eO hE) (eL hE) rfl dX0_addKeeper_25 ?_
      refine lv_iload_n C.1.1 C.1.2.1 dX0_addKeeper_28 rfl (lv_at hl 2 rfl) ?_
      refine q_ias C w (eA7 hE).1 (eA7 hE).2 h.1 dX0_addKeeper_29 (fun M3 H locs eM3 w => ?_)
      replace h := h.2 M3 eM3
      refine lv_aload_n C.1.1 C.1.2.1 dX0_addKeeper_30 rfl (lv_at hl 0 rfl) ?_
      refine gr_RX0_34 C w (eO hE) (eL hE) rfl dX0_addKeeper_31 ?_
      refine lv_aload_n C.1.1 C.1.2.1 dX0_addKeeper_34 rfl (lv_at hl 0 rfl) ?_
      refine gi_RX0_44 C w (eO hE) (eL hE) rfl dX0_addKeeper_35 ?_
      refine lv_iload_n C.1.1 C.1.2.1 dX0_addKeeper_38 rfl (lv_at hl 3 rfl) ?_
      refine q_ias C w (eA8 hE).1 (eA8 hE).2 h.1 dX0_addKeeper_39 (fun M4 H locs eM4 w => ?_)
      replace h := h.2 M4 eM4
      refine lv_aload_n C.1.1 C.1.2.1 dX0_addKeeper_40 rfl (lv_at hl 0 rfl) ?_
      refine lv_dup C.1.1 C.1.2.1 dX0_addKeeper_41 rfl ?_
      refine gi_RX0_44 C w (eO hE) (eL hE) rfl dX0_addKeeper_42 ?_
      refine lv_iconst (v := 1) C.1.1 C.1.2.1 dX0_addKeeper_45 (by decide) ?_
      refine lv_iadd C.1.1 C.1.2.1 dX0_addKeeper_46 ?_
      refine pi_RX0_44 C w (eO hE) (eL hE) rfl dX0_addKeeper_47 (fun M5 H locs eM5 w => ?_)
      replace h := h M5 eM5
      refine lv_iconst (v := 1) C.1.1 C.1.2.1 dX0_addKeeper_50 (by decide) ?_
      exact q_iret C hr hk w rfl h dX0_addKeeper_51
    · replace h := h.2 hc1
      refine lv_iconst (v := 0) C.1.1 C.1.2.1 dX0_addKeeper_8 (by decide) ?_
      exact q_iret C hr hk w rfl h dX0_addKeeper_9)
-- takes
set_option maxHeartbeats 4000000 in
set_option maxRecDepth 100000 in
theorem c_X0_takes {l : Launch} {g : Gt} {o : Nat} {x1 : Int32} {M : Mem} {Q : Int32 → Prop} (hE : isE o) (h : w_X0_takes o x1 M Q) : MI l yX0_takes cX0_takes 2 (some .int) 0 0 g layX 68 [.ref (ga g o), .int x1] M (fun r M9 => M9 = M ∧ Q r) :=
  m_of (by decide +kernel) (Nat.le_of_ble_eq_true rfl) (fun p e s m args below meth c ls C hr hk w hl => by
    have C : Cx p s m args c cX0_takes 2 RX0 g := C
    have hl : lv_has ls 2 [(0, .ref (ga g o)), (1, .int x1)] := hl
    unfold w_X0_takes at h
    obtain ⟨H, eH⟩ : ∃ H : Heap, H = s.heap := ⟨_, rfl⟩
    obtain ⟨locs, el⟩ : ∃ locs : List Loc, locs = [] := ⟨_, rfl⟩
    have w : Wd g layX 68 s.heap M H locs := by rw [eH, el]; exact w
    suffices hw : W p l e (rmOf 0 0) s m args below meth c H locs 0 0 (MQ below (va_Qi (fun r M9 => M9 = M ∧ Q r) (PostW g layX 68) (gF g)) args s 0 0 (gF g)) (F0 m 0 ls []) by rw [eH, el] at hw; exact hw
    clear eH el
    refine q_gsT C w k_1 dX0_takes_0 ?_
    refine lv_aload_n C.1.1 C.1.2.1 dX0_takes_3 rfl (lv_at hl 0 rfl) ?_
    refine gr_RX0_16 C w (eO hE) (eL hE) rfl dX0_takes_4 ?_
    refine lv_iload_n C.1.1 C.1.2.1 dX0_takes_7 rfl (lv_at hl 1 rfl) ?_
    refine q_ial C w (eA2 hE).1 (eA2 hE).2 h.1 dX0_takes_8 ?_
    replace h := h.2
    refine q_ldT C w h.1 dX0_takes_9 ?_
    replace h := h.2
    exact q_iret C hr hk w rfl ⟨rfl, h⟩ dX0_takes_10)
-- noise
set_option maxHeartbeats 4000000 in
set_option maxRecDepth 100000 in
theorem c_X0_noise {l : Launch} {g : Gt} {o : Nat} {x1 : Int32} {M : Mem} {Q : Int32 → Prop} (hE : isE o) (h : w_X0_noise o x1 M Q) : MI l yX0_noise cX0_noise 2 (some .int) 0 0 g layX 68 [.ref (ga g o), .int x1] M (fun r M9 => M9 = M ∧ Q r) :=
  m_of (by decide +kernel) (Nat.le_of_ble_eq_true rfl) (fun p e s m args below meth c ls C hr hk w hl => by
    have C : Cx p s m args c cX0_noise 2 RX0 g := C
    have hl : lv_has ls 2 [(0, .ref (ga g o)), (1, .int x1)] := hl
    unfold w_X0_noise at h
    obtain ⟨H, eH⟩ : ∃ H : Heap, H = s.heap := ⟨_, rfl⟩
    obtain ⟨locs, el⟩ : ∃ locs : List Loc, locs = [] := ⟨_, rfl⟩
    have w : Wd g layX 68 s.heap M H locs := by rw [eH, el]; exact w
    suffices hw : W p l e (rmOf 0 0) s m args below meth c H locs 0 0 (MQ below (va_Qi (fun r M9 => M9 = M ∧ Q r) (PostW g layX 68) (gF g)) args s 0 0 (gF g)) (F0 m 0 ls []) by rw [eH, el] at hw; exact hw
    clear eH el
    refine q_gsN C w k_2 dX0_noise_0 ?_
    refine lv_aload_n C.1.1 C.1.2.1 dX0_noise_3 rfl (lv_at hl 0 rfl) ?_
    refine gr_RX0_16 C w (eO hE) (eL hE) rfl dX0_noise_4 ?_
    refine lv_iload_n C.1.1 C.1.2.1 dX0_noise_7 rfl (lv_at hl 1 rfl) ?_
    refine q_ial C w (eA2 hE).1 (eA2 hE).2 h.1 dX0_noise_8 ?_
    replace h := h.2
    refine q_ldN C w h.1 dX0_noise_9 ?_
    replace h := h.2
    exact q_iret C hr hk w rfl ⟨rfl, h⟩ dX0_noise_10)
-- placeOf
set_option maxHeartbeats 4000000 in
set_option maxRecDepth 100000 in
theorem c_X0_placeOf {l : Launch} {g : Gt} {o : Nat} {x1 : Int32} {M : Mem} {Q : Int32 → Prop} (hE : isE o) (h : w_X0_placeOf o x1 M Q) : MI l yX0_placeOf cX0_placeOf 2 (some .int) 0 0 g layX 68 [.ref (ga g o), .int x1] M (fun r M9 => M9 = M ∧ Q r) :=
  m_of (by decide +kernel) (Nat.le_of_ble_eq_true rfl) (fun p e s m args below meth c ls C hr hk w hl => by
    have C : Cx p s m args c cX0_placeOf 2 RX0 g := C
    have hl : lv_has ls 2 [(0, .ref (ga g o)), (1, .int x1)] := hl
    unfold w_X0_placeOf at h
    obtain ⟨H, eH⟩ : ∃ H : Heap, H = s.heap := ⟨_, rfl⟩
    obtain ⟨locs, el⟩ : ∃ locs : List Loc, locs = [] := ⟨_, rfl⟩
    have w : Wd g layX 68 s.heap M H locs := by rw [eH, el]; exact w
    suffices hw : W p l e (rmOf 0 0) s m args below meth c H locs 0 0 (MQ below (va_Qi (fun r M9 => M9 = M ∧ Q r) (PostW g layX 68) (gF g)) args s 0 0 (gF g)) (F0 m 0 ls []) by rw [eH, el] at hw; exact hw
    clear eH el
    refine lv_aload_n C.1.1 C.1.2.1 dX0_placeOf_0 rfl (lv_at hl 0 rfl) ?_
    refine gr_RX0_28 C w (eO hE) (eL hE) rfl dX0_placeOf_1 ?_
    refine lv_iload_n C.1.1 C.1.2.1 dX0_placeOf_4 rfl (lv_at hl 1 rfl) ?_
    refine q_ial C w (eA6 hE).1 (eA6 hE).2 h.1 dX0_placeOf_5 ?_
    replace h := h.2
    refine lv_aload_n C.1.1 C.1.2.1 dX0_placeOf_6 rfl (lv_at hl 0 rfl) ?_
    refine gi_RX0_47 C w (eO hE) (eL hE) rfl dX0_placeOf_7 ?_
    refine lv_aload_n C.1.1 C.1.2.1 dX0_placeOf_10 rfl (lv_at hl 0 rfl) ?_
    refine gr_RX0_31 C w (eO hE) (eL hE) rfl dX0_placeOf_11 ?_
    refine lv_iload_n C.1.1 C.1.2.1 dX0_placeOf_14 rfl (lv_at hl 1 rfl) ?_
    refine q_ial C w (eA7 hE).1 (eA7 hE).2 h.1 dX0_placeOf_15 ?_
    replace h := h.2
    refine lv_imul C.1.1 C.1.2.1 dX0_placeOf_16 ?_
    refine lv_iadd C.1.1 C.1.2.1 dX0_placeOf_17 ?_
    refine lv_bipush (v := 6) C.1.1 C.1.2.1 dX0_placeOf_18 (by decide) ?_
    refine q_irem C dX0_placeOf_20 (by decide) ?_
    exact q_iret C hr hk w rfl ⟨rfl, h⟩ dX0_placeOf_21)
-- wouldBeCaught
set_option maxHeartbeats 4000000 in
set_option maxRecDepth 100000 in
theorem v_X0_wouldBeCaught_51 {o : Nat} {x1 : Int32} {x2 : Int32} {M : Mem} {K13 : Int32 → Prop} {Q : Int32 → Prop} {H : Heap} {locs : List Loc} {ls : Array Slot} (C : Cx p s m args c cX0_wouldBeCaught 3 RX0 g) (hr : meth.sig.returnType = (some .boolean)) (hk : meth.locks = false) (hE : isE o) (hK13 : ∀ (x2 : Int32) (H : Heap) (locs : List Loc) (ls : Array Slot), K13 x2 → Wd g layX 68 s.heap M H locs → lv_has ls 3 [(0, .ref (ga g o)), (1, .int x1), (2, .int x2)] → W p l e (rmOf 1 21) s m args below meth c H locs 0 0 (MQ below (va_Qi (fun r M9 => M9 = M ∧ Q r) (PostW g layX 68) (gF g)) args s 0 0 (gF g)) (F0 m 13 ls [])) (h : w_X0_wouldBeCaught_51 o x1 x2 M K13 Q) (w : Wd g layX 68 s.heap M H locs) (hl : lv_has ls 3 [(0, .ref (ga g o)), (1, .int x1), (2, .int x2)]) : W p l e (rmOf 1 21) s m args below meth c H locs 0 0 (MQ below (va_Qi (fun r M9 => M9 = M ∧ Q r) (PostW g layX 68) (gF g)) args s 0 0 (gF g)) (F0 m 51 ls []) := by
  unfold w_X0_wouldBeCaught_51 at h
  refine lv_iinc (v := x2 + 1) (lv' := [(2, .int (x2 + 1)), (0, .ref (ga g o)), (1, .int x1)]) C.1.1 C.1.2.1 dX0_wouldBeCaught_51 hl (k := 2) rfl rfl (by decide) rfl (fun ls hl => ?_)
  refine lv_goto (tgt := 13) C.1.1 C.1.2.1 dX0_wouldBeCaught_54 (by decide) ?_
  exact hK13 _ _ _ _ h w (lv_sub hl [1, 2, 0] rfl)
set_option maxHeartbeats 4000000 in
set_option maxRecDepth 100000 in
theorem v_X0_wouldBeCaught_13 {o : Nat} {x1 : Int32} {x2 : Int32} {M : Mem} {K13 : Int32 → Prop} {Q : Int32 → Prop} {H : Heap} {locs : List Loc} {ls : Array Slot} (C : Cx p s m args c cX0_wouldBeCaught 3 RX0 g) (hr : meth.sig.returnType = (some .boolean)) (hk : meth.locks = false) (hE : isE o) (hK13 : ∀ (x2 : Int32) (H : Heap) (locs : List Loc) (ls : Array Slot), K13 x2 → Wd g layX 68 s.heap M H locs → lv_has ls 3 [(0, .ref (ga g o)), (1, .int x1), (2, .int x2)] → W p l e (rmOf 1 21) s m args below meth c H locs 0 0 (MQ below (va_Qi (fun r M9 => M9 = M ∧ Q r) (PostW g layX 68) (gF g)) args s 0 0 (gF g)) (F0 m 13 ls [])) (h : w_X0_wouldBeCaught_13 o x1 M Q K13 x2) (w : Wd g layX 68 s.heap M H locs) (hl : lv_has ls 3 [(0, .ref (ga g o)), (1, .int x1), (2, .int x2)]) : W p l e (rmOf 1 21) s m args below meth c H locs 0 0 (MQ below (va_Qi (fun r M9 => M9 = M ∧ Q r) (PostW g layX 68) (gF g)) args s 0 0 (gF g)) (F0 m 13 ls []) := by
  unfold w_X0_wouldBeCaught_13 at h
  refine lv_iload_n C.1.1 C.1.2.1 dX0_wouldBeCaught_13 rfl (lv_at hl 2 rfl) ?_
  refine lv_aload_n C.1.1 C.1.2.1 dX0_wouldBeCaught_14 rfl (lv_at hl 0 rfl) ?_
  refine gi_RX0_44 C w (eO hE) (eL hE) rfl dX0_wouldBeCaught_15 ?_
  refine lv_icmp_ge (tgt := 57) C.1.1 C.1.2.1 dX0_wouldBeCaught_18 (by decide) (fun hc2 => ?_) (fun hc2 => ?_)
  · replace h := h.1 hc2
    refine lv_iconst (v := 0) C.1.1 C.1.2.1 dX0_wouldBeCaught_57 (by decide) ?_
    exact q_iret C hr hk w rfl ⟨rfl, h⟩ dX0_wouldBeCaught_58
  · replace h := h.2 hc2
    refine lv_aload_n C.1.1 C.1.2.1 dX0_wouldBeCaught_21 rfl (lv_at hl 0 rfl) ?_
    refine lv_iload_n C.1.1 C.1.2.1 dX0_wouldBeCaught_22 rfl (lv_at hl 2 rfl) ?_
    refine q_pVi C w [.int x2] (c_X0_placeOf hE h) kv_X0_placeOf k_3 (rcv C w kc_X0 (eO hE) (eL hE)) rfl hl.1 (Nat.le_of_ble_eq_true rfl) ⟨Nat.le_of_ble_eq_true rfl, Nat.le_of_ble_eq_true rfl⟩ dX0_wouldBeCaught_23 (fun r3 H locs h w => ?_)
    refine lv_aload_n C.1.1 C.1.2.1 dX0_wouldBeCaught_26 rfl (lv_at hl 0 rfl) ?_
    refine gr_RX0_19 C w (eO hE) (eL hE) rfl dX0_wouldBeCaught_27 ?_
    refine lv_iload_n C.1.1 C.1.2.1 dX0_wouldBeCaught_30 rfl (lv_at hl 1 rfl) ?_
    refine q_ial C w (eA3 hE).1 (eA3 hE).2 h.1 dX0_wouldBeCaught_31 ?_
    replace h := h.2
    refine lv_icmp_ne (tgt := 51) C.1.1 C.1.2.1 dX0_wouldBeCaught_32 (by decide) (fun hc4 => ?_) (fun hc4 => ?_)
    · replace h := h.2 hc4
      exact v_X0_wouldBeCaught_51 C hr hk hE hK13 h w (lv_sub hl [0, 1, 2] rfl)
    · replace h := h.1 hc4
      refine lv_aload_n C.1.1 C.1.2.1 dX0_wouldBeCaught_35 rfl (lv_at hl 0 rfl) ?_
      refine lv_iload_n C.1.1 C.1.2.1 dX0_wouldBeCaught_36 rfl (lv_at hl 1 rfl) ?_
      refine q_pVi C w [.int x1] (c_X0_noise hE h) kv_X0_noise k_4 (rcv C w kc_X0 (eO hE) (eL hE)) rfl hl.1 (Nat.le_of_ble_eq_true rfl) ⟨Nat.le_of_ble_eq_true rfl, Nat.le_of_ble_eq_true rfl⟩ dX0_wouldBeCaught_37 (fun r5 H locs h w => ?_)
      refine lv_aload_n C.1.1 C.1.2.1 dX0_wouldBeCaught_40 rfl (lv_at hl 0 rfl) ?_
      refine gr_RX0_34 C w (eO hE) (eL hE) rfl dX0_wouldBeCaught_41 ?_
      refine lv_iload_n C.1.1 C.1.2.1 dX0_wouldBeCaught_44 rfl (lv_at hl 2 rfl) ?_
      refine q_ial C w (eA8 hE).1 (eA8 hE).2 h.1 dX0_wouldBeCaught_45 ?_
      replace h := h.2
      refine lv_icmp_lt (tgt := 51) C.1.1 C.1.2.1 dX0_wouldBeCaught_46 (by decide) (fun hc6 => ?_) (fun hc6 => ?_)
      · replace h := h.1 hc6
        exact v_X0_wouldBeCaught_51 C hr hk hE hK13 h w (lv_sub hl [0, 1, 2] rfl)
      · replace h := h.2 hc6
        refine lv_iconst (v := 1) C.1.1 C.1.2.1 dX0_wouldBeCaught_49 (by decide) ?_
        exact q_iret C hr hk w rfl ⟨rfl, h⟩ dX0_wouldBeCaught_50
set_option maxHeartbeats 4000000 in
set_option maxRecDepth 100000 in
theorem l_X0_wouldBeCaught_13 {o : Nat} {x1 : Int32} {M : Mem} {Q : Int32 → Prop} (C : Cx p s m args c cX0_wouldBeCaught 3 RX0 g) (hr : meth.sig.returnType = (some .boolean)) (hk : meth.locks = false) (hE : isE o)  : ∀ (n : Nat) (x2 : Int32) (H : Heap) (locs : List Loc) (ls : Array Slot), fu1 (w_X0_wouldBeCaught_13 o x1 M Q) n x2 → Wd g layX 68 s.heap M H locs → lv_has ls 3 [(0, .ref (ga g o)), (1, .int x1), (2, .int x2)] → W p l e (rmOf 1 21) s m args below meth c H locs 0 0 (MQ below (va_Qi (fun r M9 => M9 = M ∧ Q r) (PostW g layX 68) (gF g)) args s 0 0 (gF g)) (F0 m 13 ls []) := by
  intro n
  induction n with
  | zero => intro x2 H locs ls h; exact h.elim
  | succ n ih => intro x2 H locs ls h w hl; exact v_X0_wouldBeCaught_13 C hr hk hE  ih h w hl
set_option maxHeartbeats 4000000 in
set_option maxRecDepth 100000 in
theorem c_X0_wouldBeCaught {l : Launch} {g : Gt} {o : Nat} {x1 : Int32} {M : Mem} {Q : Int32 → Prop} (hE : isE o) (h : w_X0_wouldBeCaught o x1 M Q) : MI l yX0_wouldBeCaught cX0_wouldBeCaught 3 (some .boolean) 1 21 g layX 68 [.ref (ga g o), .int x1] M (fun r M9 => M9 = M ∧ Q r) :=
  m_of (by decide +kernel) (Nat.le_of_ble_eq_true rfl) (fun p e s m args below meth c ls C hr hk w hl => by
    have C : Cx p s m args c cX0_wouldBeCaught 3 RX0 g := C
    have hl : lv_has ls 3 [(0, .ref (ga g o)), (1, .int x1)] := hl
    unfold w_X0_wouldBeCaught at h
    obtain ⟨H, eH⟩ : ∃ H : Heap, H = s.heap := ⟨_, rfl⟩
    obtain ⟨locs, el⟩ : ∃ locs : List Loc, locs = [] := ⟨_, rfl⟩
    have w : Wd g layX 68 s.heap M H locs := by rw [eH, el]; exact w
    suffices hw : W p l e (rmOf 1 21) s m args below meth c H locs 0 0 (MQ below (va_Qi (fun r M9 => M9 = M ∧ Q r) (PostW g layX 68) (gF g)) args s 0 0 (gF g)) (F0 m 0 ls []) by rw [eH, el] at hw; exact hw
    clear eH el
    refine lv_aload_n C.1.1 C.1.2.1 dX0_wouldBeCaught_0 rfl (lv_at hl 0 rfl) ?_
    refine gr_RX0_25 C w (eO hE) (eL hE) rfl dX0_wouldBeCaught_1 ?_
    refine lv_iload_n C.1.1 C.1.2.1 dX0_wouldBeCaught_4 rfl (lv_at hl 1 rfl) ?_
    refine q_ial C w (eA5 hE).1 (eA5 hE).2 h.1 dX0_wouldBeCaught_5 ?_
    replace h := h.2
    refine lv_if_le (tgt := 11) C.1.1 C.1.2.1 dX0_wouldBeCaught_6 (by decide) (fun hc1 => ?_) (fun hc1 => ?_)
    · replace h := h.1 hc1
      refine lv_iconst (v := 0) C.1.1 C.1.2.1 dX0_wouldBeCaught_11 (by decide) ?_
      refine lv_istore_n (lv' := [(2, .int 0), (0, .ref (ga g o)), (1, .int x1)]) C.1.1 C.1.2.1 dX0_wouldBeCaught_12 rfl hl (by decide) rfl (fun ls hl => ?_)
      obtain ⟨n, h⟩ := h
      exact l_X0_wouldBeCaught_13 C hr hk hE  n _ _ _ _ h w (lv_sub hl [1, 2, 0] rfl)
    · replace h := h.2 hc1
      refine lv_iconst (v := 0) C.1.1 C.1.2.1 dX0_wouldBeCaught_9 (by decide) ?_
      exact q_iret C hr hk w rfl ⟨rfl, h⟩ dX0_wouldBeCaught_10)
-- seize
set_option maxHeartbeats 4000000 in
set_option maxRecDepth 100000 in
theorem c_X0_seize {l : Launch} {g : Gt} {o : Nat} {x1 : Int32} {M : Mem} {Q : Mem → Prop} (hE : isE o) (h : w_X0_seize o x1 M Q) : MV l yX0_seize cX0_seize 2 none 1 21 g layX 68 [.ref (ga g o), .int x1] M Q :=
  m_of (by decide +kernel) (Nat.le_of_ble_eq_true rfl) (fun p e s m args below meth c ls C hr hk w hl => by
    have C : Cx p s m args c cX0_seize 2 RX0 g := C
    have hl : lv_has ls 2 [(0, .ref (ga g o)), (1, .int x1)] := hl
    unfold w_X0_seize at h
    obtain ⟨H, eH⟩ : ∃ H : Heap, H = s.heap := ⟨_, rfl⟩
    obtain ⟨locs, el⟩ : ∃ locs : List Loc, locs = [] := ⟨_, rfl⟩
    have w : Wd g layX 68 s.heap M H locs := by rw [eH, el]; exact w
    suffices hw : W p l e (rmOf 1 21) s m args below meth c H locs 0 0 (MQ below (va_Qv Q (PostW g layX 68) (gF g)) args s 0 0 (gF g)) (F0 m 0 ls []) by rw [eH, el] at hw; exact hw
    clear eH el
    refine lv_aload_n C.1.1 C.1.2.1 dX0_seize_0 rfl (lv_at hl 0 rfl) ?_
    refine gr_RX0_25 C w (eO hE) (eL hE) rfl dX0_seize_1 ?_
    refine lv_iload_n C.1.1 C.1.2.1 dX0_seize_4 rfl (lv_at hl 1 rfl) ?_
    refine lv_bipush (v := 7) C.1.1 C.1.2.1 dX0_seize_5 (by decide) ?_
    refine q_ias C w (eA5 hE).1 (eA5 hE).2 h.1 dX0_seize_7 (fun M1 H locs eM1 w => ?_)
    replace h := h.2 M1 eM1
    refine lv_aload_n C.1.1 C.1.2.1 dX0_seize_8 rfl (lv_at hl 0 rfl) ?_
    refine lv_sipush (v := 999) C.1.1 C.1.2.1 dX0_seize_9 (by decide) ?_
    refine lv_aload_n C.1.1 C.1.2.1 dX0_seize_12 rfl (lv_at hl 0 rfl) ?_
    refine gi_RX0_50 C w (eO hE) (eL hE) rfl dX0_seize_13 ?_
    refine lv_iconst (v := 1) C.1.1 C.1.2.1 dX0_seize_16 (by decide) ?_
    refine lv_iadd C.1.1 C.1.2.1 dX0_seize_17 ?_
    refine q_min C kMin_ok k_5 hl.1 ⟨Nat.le_of_ble_eq_true rfl, Nat.le_of_ble_eq_true rfl⟩ dX0_seize_18 ?_
    refine pi_RX0_50 C w (eO hE) (eL hE) rfl dX0_seize_21 (fun M2 H locs eM2 w => ?_)
    replace h := h M2 eM2
    refine lv_aload_n C.1.1 C.1.2.1 dX0_seize_24 rfl (lv_at hl 0 rfl) ?_
    refine lv_dup C.1.1 C.1.2.1 dX0_seize_25 rfl ?_
    refine gi_RX0_72 C w (eO hE) (eL hE) rfl dX0_seize_26 ?_
    refine lv_iconst (v := 1) C.1.1 C.1.2.1 dX0_seize_29 (by decide) ?_
    refine lv_iload_n C.1.1 C.1.2.1 dX0_seize_30 rfl (lv_at hl 1 rfl) ?_
    refine q_ishl C dX0_seize_31 ?_
    refine lv_ior C.1.1 C.1.2.1 dX0_seize_32 ?_
    refine pi_RX0_72 C w (eO hE) (eL hE) rfl dX0_seize_33 (fun M3 H locs eM3 w => ?_)
    replace h := h M3 eM3
    exact q_vret C hr hk w h dX0_seize_36)
-- fillBag
set_option maxHeartbeats 4000000 in
set_option maxRecDepth 100000 in
theorem c_X0_fillBag {l : Launch} {g : Gt} {o : Nat} {x1 : Int32} {M : Mem} {Q : Int32 → Mem → Prop} (hE : isE o) (h : w_X0_fillBag o x1 M Q) : MI l yX0_fillBag cX0_fillBag 4 (some .int) 1 21 g layX 68 [.ref (ga g o), .int x1] M Q :=
  m_of (by decide +kernel) (Nat.le_of_ble_eq_true rfl) (fun p e s m args below meth c ls C hr hk w hl => by
    have C : Cx p s m args c cX0_fillBag 4 RX0 g := C
    have hl : lv_has ls 4 [(0, .ref (ga g o)), (1, .int x1)] := hl
    unfold w_X0_fillBag at h
    obtain ⟨H, eH⟩ : ∃ H : Heap, H = s.heap := ⟨_, rfl⟩
    obtain ⟨locs, el⟩ : ∃ locs : List Loc, locs = [] := ⟨_, rfl⟩
    have w : Wd g layX 68 s.heap M H locs := by rw [eH, el]; exact w
    suffices hw : W p l e (rmOf 1 21) s m args below meth c H locs 0 0 (MQ below (va_Qi Q (PostW g layX 68) (gF g)) args s 0 0 (gF g)) (F0 m 0 ls []) by rw [eH, el] at hw; exact hw
    clear eH el
    refine lv_aload_n C.1.1 C.1.2.1 dX0_fillBag_0 rfl (lv_at hl 0 rfl) ?_
    refine gr_RX0_19 C w (eO hE) (eL hE) rfl dX0_fillBag_1 ?_
    refine lv_iload_n C.1.1 C.1.2.1 dX0_fillBag_4 rfl (lv_at hl 1 rfl) ?_
    refine q_ial C w (eA3 hE).1 (eA3 hE).2 h.1 dX0_fillBag_5 ?_
    replace h := h.2
    refine lv_istore_n (lv' := [(2, .int (M (o + 4) x1.toNatClampNeg)), (0, .ref (ga g o)), (1, .int x1)]) C.1.1 C.1.2.1 dX0_fillBag_6 rfl hl (by decide) rfl (fun ls hl => ?_)
    refine lv_aload_n C.1.1 C.1.2.1 dX0_fillBag_7 rfl (lv_at hl 1 rfl) ?_
    refine lv_iload_n C.1.1 C.1.2.1 dX0_fillBag_8 rfl (lv_at hl 2 rfl) ?_
    refine q_pVi C w [.int x1] (c_X0_takes hE h) kv_X0_takes k_6 (rcv C w kc_X0 (eO hE) (eL hE)) rfl hl.1 (Nat.le_of_ble_eq_true rfl) ⟨Nat.le_of_ble_eq_true rfl, Nat.le_of_ble_eq_true rfl⟩ dX0_fillBag_9 (fun r1 H locs h w => ?_)
    refine lv_aload_n C.1.1 C.1.2.1 dX0_fillBag_12 rfl (lv_at hl 1 rfl) ?_
    refine gr_RX0_9 C w (eO hE) (eL hE) rfl dX0_fillBag_13 ?_
    refine lv_iload_n C.1.1 C.1.2.1 dX0_fillBag_16 rfl (lv_at hl 0 rfl) ?_
    refine q_ial C w (eA0 hE).1 (eA0 hE).2 h.1 dX0_fillBag_17 ?_
    replace h := h.2
    refine q_min C kMin_ok k_5 hl.1 ⟨Nat.le_of_ble_eq_true rfl, Nat.le_of_ble_eq_true rfl⟩ dX0_fillBag_18 ?_
    refine lv_topi (fun v2 ev2 => ?_)
    replace h := h v2 ev2
    refine lv_istore_n (lv' := [(3, .int v2), (2, .int (M (o + 4) x1.toNatClampNeg)), (0, .ref (ga g o)), (1, .int x1)]) C.1.1 C.1.2.1 dX0_fillBag_21 rfl hl (by decide) rfl (fun ls hl => ?_)
    refine lv_aload_n C.1.1 C.1.2.1 dX0_fillBag_22 rfl (lv_at hl 2 rfl) ?_
    refine gr_RX0_9 C w (eO hE) (eL hE) rfl dX0_fillBag_23 ?_
    refine lv_iload_n C.1.1 C.1.2.1 dX0_fillBag_26 rfl (lv_at hl 1 rfl) ?_
    refine lv_dup2_11 C.1.1 C.1.2.1 dX0_fillBag_27 rfl rfl ?_
    refine q_ial C w (eA0 hE).1 (eA0 hE).2 h.1 dX0_fillBag_28 ?_
    replace h := h.2
    refine lv_iload_n C.1.1 C.1.2.1 dX0_fillBag_29 rfl (lv_at hl 0 rfl) ?_
    refine lv_isub C.1.1 C.1.2.1 dX0_fillBag_30 ?_
    refine q_ias C w (eA0 hE).1 (eA0 hE).2 h.1 dX0_fillBag_31 (fun M3 H locs eM3 w => ?_)
    replace h := h.2 M3 eM3
    refine lv_aload_n C.1.1 C.1.2.1 dX0_fillBag_32 rfl (lv_at hl 2 rfl) ?_
    refine gr_RX0_22 C w (eO hE) (eL hE) rfl dX0_fillBag_33 ?_
    refine lv_iload_n C.1.1 C.1.2.1 dX0_fillBag_36 rfl (lv_at hl 3 rfl) ?_
    refine lv_sipush (v := 999) C.1.1 C.1.2.1 dX0_fillBag_37 (by decide) ?_
    refine lv_aload_n C.1.1 C.1.2.1 dX0_fillBag_40 rfl (lv_at hl 2 rfl) ?_
    refine gr_RX0_22 C w (eO hE) (eL hE) rfl dX0_fillBag_41 ?_
    refine lv_iload_n C.1.1 C.1.2.1 dX0_fillBag_44 rfl (lv_at hl 3 rfl) ?_
    refine q_ial C w (eA4 hE).1 (eA4 hE).2 h.1 dX0_fillBag_45 ?_
    replace h := h.2
    refine lv_iload_n C.1.1 C.1.2.1 dX0_fillBag_46 rfl (lv_at hl 0 rfl) ?_
    refine lv_iadd C.1.1 C.1.2.1 dX0_fillBag_47 ?_
    refine q_min C kMin_ok k_5 hl.1 ⟨Nat.le_of_ble_eq_true rfl, Nat.le_of_ble_eq_true rfl⟩ dX0_fillBag_48 ?_
    refine q_ias C w (eA4 hE).1 (eA4 hE).2 h.1 dX0_fillBag_51 (fun M4 H locs eM4 w => ?_)
    replace h := h.2 M4 eM4
    refine lv_iload_n C.1.1 C.1.2.1 dX0_fillBag_52 rfl (lv_at hl 0 rfl) ?_
    exact q_iret C hr hk w rfl h dX0_fillBag_53)
-- passNight
set_option maxHeartbeats 4000000 in
set_option maxRecDepth 100000 in
theorem v_X0_passNight_111 {o : Nat} {x2 : Int32} {M : Mem} {Q : Int32 → Mem → Prop} {H : Heap} {locs : List Loc} {ls : Array Slot} (C : Cx p s m args c cX0_passNight 4 RX0 g) (hr : meth.sig.returnType = (some .int)) (hk : meth.locks = false) (hE : isE o)  (h : w_X0_passNight_111 o x2 M Q) (w : Wd g layX 68 s.heap M H locs) (hl : lv_has ls 4 [(0, .ref (ga g o)), (2, .int x2)]) : W p l e (rmOf 2 44) s m args below meth c H locs 0 0 (MQ below (va_Qi Q (PostW g layX 68) (gF g)) args s 0 0 (gF g)) (F0 m 111 ls []) := by
  unfold w_X0_passNight_111 at h
  refine lv_aload_n C.1.1 C.1.2.1 dX0_passNight_111 rfl (lv_at hl 0 rfl) ?_
  refine lv_dup C.1.1 C.1.2.1 dX0_passNight_112 rfl ?_
  refine gi_RX0_47 C w (eO hE) (eL hE) rfl dX0_passNight_113 ?_
  refine lv_iconst (v := 1) C.1.1 C.1.2.1 dX0_passNight_116 (by decide) ?_
  refine lv_iadd C.1.1 C.1.2.1 dX0_passNight_117 ?_
  refine pi_RX0_47 C w (eO hE) (eL hE) rfl dX0_passNight_118 (fun M4 H locs eM4 w => ?_)
  replace h := h M4 eM4
  refine lv_iload_n C.1.1 C.1.2.1 dX0_passNight_121 rfl (lv_at hl 1 rfl) ?_
  exact q_iret C hr hk w rfl h dX0_passNight_122
set_option maxHeartbeats 4000000 in
set_option maxRecDepth 100000 in
theorem v_X0_passNight_75 {o : Nat} {x2 : Int32} {x3 : Int32} {M : Mem} {K75 : Int32 → Mem → Prop} {Q : Int32 → Mem → Prop} {H : Heap} {locs : List Loc} {ls : Array Slot} (C : Cx p s m args c cX0_passNight 4 RX0 g) (hr : meth.sig.returnType = (some .int)) (hk : meth.locks = false) (hE : isE o) (hK75 : ∀ (x3 : Int32) (M : Mem) (H : Heap) (locs : List Loc) (ls : Array Slot), K75 x3 M → Wd g layX 68 s.heap M H locs → lv_has ls 4 [(0, .ref (ga g o)), (2, .int x2), (3, .int x3)] → W p l e (rmOf 2 44) s m args below meth c H locs 0 0 (MQ below (va_Qi Q (PostW g layX 68) (gF g)) args s 0 0 (gF g)) (F0 m 75 ls [])) (h : w_X0_passNight_75 o x2 Q K75 x3 M) (w : Wd g layX 68 s.heap M H locs) (hl : lv_has ls 4 [(0, .ref (ga g o)), (2, .int x2), (3, .int x3)]) : W p l e (rmOf 2 44) s m args below meth c H locs 0 0 (MQ below (va_Qi Q (PostW g layX 68) (gF g)) args s 0 0 (gF g)) (F0 m 75 ls []) := by
  unfold w_X0_passNight_75 at h
  refine lv_iload_n C.1.1 C.1.2.1 dX0_passNight_75 rfl (lv_at hl 2 rfl) ?_
  refine lv_bipush (v := 6) C.1.1 C.1.2.1 dX0_passNight_76 (by decide) ?_
  refine lv_icmp_ge (tgt := 111) C.1.1 C.1.2.1 dX0_passNight_78 (by decide) (fun hc3 => ?_) (fun hc3 => ?_)
  · replace h := h.1 hc3
    exact v_X0_passNight_111 C hr hk hE  h w (lv_sub hl [0, 1] rfl)
  · replace h := h.2 hc3
    refine lv_aload_n C.1.1 C.1.2.1 dX0_passNight_81 rfl (lv_at hl 0 rfl) ?_
    refine gr_RX0_9 C w (eO hE) (eL hE) rfl dX0_passNight_82 ?_
    refine lv_iload_n C.1.1 C.1.2.1 dX0_passNight_85 rfl (lv_at hl 2 rfl) ?_
    refine lv_bipush (v := 60) C.1.1 C.1.2.1 dX0_passNight_86 (by decide) ?_
    refine lv_aload_n C.1.1 C.1.2.1 dX0_passNight_88 rfl (lv_at hl 0 rfl) ?_
    refine gr_RX0_9 C w (eO hE) (eL hE) rfl dX0_passNight_89 ?_
    refine lv_iload_n C.1.1 C.1.2.1 dX0_passNight_92 rfl (lv_at hl 2 rfl) ?_
    refine q_ial C w (eA0 hE).1 (eA0 hE).2 h.1 dX0_passNight_93 ?_
    replace h := h.2
    refine lv_aload_n C.1.1 C.1.2.1 dX0_passNight_94 rfl (lv_at hl 0 rfl) ?_
    refine gr_RX0_13 C w (eO hE) (eL hE) rfl dX0_passNight_95 ?_
    refine lv_iload_n C.1.1 C.1.2.1 dX0_passNight_98 rfl (lv_at hl 2 rfl) ?_
    refine q_ial C w (eA1 hE).1 (eA1 hE).2 h.1 dX0_passNight_99 ?_
    replace h := h.2
    refine lv_iadd C.1.1 C.1.2.1 dX0_passNight_100 ?_
    refine q_min C kMin_ok k_5 hl.1 ⟨Nat.le_of_ble_eq_true rfl, Nat.le_of_ble_eq_true rfl⟩ dX0_passNight_101 ?_
    refine q_ias C w (eA0 hE).1 (eA0 hE).2 h.1 dX0_passNight_104 (fun M5 H locs eM5 w => ?_)
    replace h := h.2 M5 eM5
    refine lv_iinc (v := x3 + 1) (lv' := [(3, .int (x3 + 1)), (0, .ref (ga g o)), (2, .int x2)]) C.1.1 C.1.2.1 dX0_passNight_105 hl (k := 2) rfl rfl (by decide) rfl (fun ls hl => ?_)
    refine lv_goto (tgt := 75) C.1.1 C.1.2.1 dX0_passNight_108 (by decide) ?_
    exact hK75 _ _ _ _ _ h w (lv_sub hl [1, 2, 0] rfl)
set_option maxHeartbeats 4000000 in
set_option maxRecDepth 100000 in
theorem l_X0_passNight_75 {o : Nat} {x2 : Int32} {Q : Int32 → Mem → Prop} (C : Cx p s m args c cX0_passNight 4 RX0 g) (hr : meth.sig.returnType = (some .int)) (hk : meth.locks = false) (hE : isE o)  : ∀ (n : Nat) (x3 : Int32) (M : Mem) (H : Heap) (locs : List Loc) (ls : Array Slot), fu2 (w_X0_passNight_75 o x2 Q) n x3 M → Wd g layX 68 s.heap M H locs → lv_has ls 4 [(0, .ref (ga g o)), (2, .int x2), (3, .int x3)] → W p l e (rmOf 2 44) s m args below meth c H locs 0 0 (MQ below (va_Qi Q (PostW g layX 68) (gF g)) args s 0 0 (gF g)) (F0 m 75 ls []) := by
  intro n
  induction n with
  | zero => intro x3 M H locs ls h; exact h.elim
  | succ n ih => intro x3 M H locs ls h w hl; exact v_X0_passNight_75 C hr hk hE  ih h w hl
set_option maxHeartbeats 4000000 in
set_option maxRecDepth 100000 in
theorem v_X0_passNight_73 {o : Nat} {x2 : Int32} {M : Mem} {Q : Int32 → Mem → Prop} {H : Heap} {locs : List Loc} {ls : Array Slot} (C : Cx p s m args c cX0_passNight 4 RX0 g) (hr : meth.sig.returnType = (some .int)) (hk : meth.locks = false) (hE : isE o)  (h : w_X0_passNight_73 o x2 M Q) (w : Wd g layX 68 s.heap M H locs) (hl : lv_has ls 4 [(0, .ref (ga g o)), (2, .int x2)]) : W p l e (rmOf 2 44) s m args below meth c H locs 0 0 (MQ below (va_Qi Q (PostW g layX 68) (gF g)) args s 0 0 (gF g)) (F0 m 73 ls []) := by
  unfold w_X0_passNight_73 at h
  refine lv_iconst (v := 0) C.1.1 C.1.2.1 dX0_passNight_73 (by decide) ?_
  refine lv_istore_n (lv' := [(3, .int 0), (0, .ref (ga g o)), (2, .int x2)]) C.1.1 C.1.2.1 dX0_passNight_74 rfl hl (by decide) rfl (fun ls hl => ?_)
  obtain ⟨n, h⟩ := h
  exact l_X0_passNight_75 C hr hk hE  n _ _ _ _ _ h w (lv_sub hl [1, 2, 0] rfl)
set_option maxHeartbeats 4000000 in
set_option maxRecDepth 100000 in
theorem v_X0_passNight_67 {o : Nat} {x1 : Int32} {x2 : Int32} {x3 : Int32} {M : Mem} {K9 : Int32 → Int32 → Mem → Prop} {Q : Int32 → Mem → Prop} {H : Heap} {locs : List Loc} {ls : Array Slot} (C : Cx p s m args c cX0_passNight 4 RX0 g) (hr : meth.sig.returnType = (some .int)) (hk : meth.locks = false) (hE : isE o) (hK9 : ∀ (x2 : Int32) (x3 : Int32) (M : Mem) (H : Heap) (locs : List Loc) (ls : Array Slot), K9 x2 x3 M → Wd g layX 68 s.heap M H locs → lv_has ls 4 [(0, .ref (ga g o)), (1, .int x1), (2, .int x2), (3, .int x3)] → W p l e (rmOf 2 44) s m args below meth c H locs 0 0 (MQ below (va_Qi Q (PostW g layX 68) (gF g)) args s 0 0 (gF g)) (F0 m 9 ls [])) (h : w_X0_passNight_67 o x1 x2 x3 M K9 Q) (w : Wd g layX 68 s.heap M H locs) (hl : lv_has ls 4 [(0, .ref (ga g o)), (1, .int x1), (2, .int x2), (3, .int x3)]) : W p l e (rmOf 2 44) s m args below meth c H locs 0 0 (MQ below (va_Qi Q (PostW g layX 68) (gF g)) args s 0 0 (gF g)) (F0 m 67 ls []) := by
  unfold w_X0_passNight_67 at h
  refine lv_iinc (v := x3 + 1) (lv' := [(3, .int (x3 + 1)), (0, .ref (ga g o)), (1, .int x1), (2, .int x2)]) C.1.1 C.1.2.1 dX0_passNight_67 hl (k := 3) rfl rfl (by decide) rfl (fun ls hl => ?_)
  refine lv_goto (tgt := 9) C.1.1 C.1.2.1 dX0_passNight_70 (by decide) ?_
  exact hK9 _ _ _ _ _ _ h w (lv_sub hl [1, 2, 3, 0] rfl)
set_option maxHeartbeats 4000000 in
set_option maxRecDepth 100000 in
theorem v_X0_passNight_59 {o : Nat} {x1 : Int32} {x2 : Int32} {x3 : Int32} {M : Mem} {K9 : Int32 → Int32 → Mem → Prop} {Q : Int32 → Mem → Prop} {H : Heap} {locs : List Loc} {ls : Array Slot} (C : Cx p s m args c cX0_passNight 4 RX0 g) (hr : meth.sig.returnType = (some .int)) (hk : meth.locks = false) (hE : isE o) (hK9 : ∀ (x2 : Int32) (x3 : Int32) (M : Mem) (H : Heap) (locs : List Loc) (ls : Array Slot), K9 x2 x3 M → Wd g layX 68 s.heap M H locs → lv_has ls 4 [(0, .ref (ga g o)), (1, .int x1), (2, .int x2), (3, .int x3)] → W p l e (rmOf 2 44) s m args below meth c H locs 0 0 (MQ below (va_Qi Q (PostW g layX 68) (gF g)) args s 0 0 (gF g)) (F0 m 9 ls [])) (h : w_X0_passNight_59 o x1 x2 x3 M K9 Q) (w : Wd g layX 68 s.heap M H locs) (hl : lv_has ls 4 [(0, .ref (ga g o)), (1, .int x1), (2, .int x2), (3, .int x3)]) : W p l e (rmOf 2 44) s m args below meth c H locs 0 0 (MQ below (va_Qi Q (PostW g layX 68) (gF g)) args s 0 0 (gF g)) (F0 m 59 ls []) := by
  unfold w_X0_passNight_59 at h
  refine lv_iload_n C.1.1 C.1.2.1 dX0_passNight_59 rfl (lv_at hl 2 rfl) ?_
  refine lv_aload_n C.1.1 C.1.2.1 dX0_passNight_60 rfl (lv_at hl 0 rfl) ?_
  refine lv_iload_n C.1.1 C.1.2.1 dX0_passNight_61 rfl (lv_at hl 3 rfl) ?_
  refine q_cVi C w [.int x3] (c_X0_fillBag hE h) kv_X0_fillBag k_7 (rcv C w kc_X0 (eO hE) (eL hE)) rfl hl.1 (Nat.le_of_ble_eq_true rfl) ⟨Nat.le_of_ble_eq_true rfl, Nat.le_of_ble_eq_true rfl⟩ dX0_passNight_62 (fun r8 M9 H locs h w => ?_)
  refine lv_iadd C.1.1 C.1.2.1 dX0_passNight_65 ?_
  refine lv_istore_n (lv' := [(2, .int (x2 + r8)), (0, .ref (ga g o)), (1, .int x1), (3, .int x3)]) C.1.1 C.1.2.1 dX0_passNight_66 rfl hl (by decide) rfl (fun ls hl => ?_)
  exact v_X0_passNight_67 C hr hk hE hK9 h w (lv_sub hl [1, 2, 0, 3] rfl)
set_option maxHeartbeats 4000000 in
set_option maxRecDepth 100000 in
theorem v_X0_passNight_9 {o : Nat} {x1 : Int32} {x2 : Int32} {x3 : Int32} {M : Mem} {K9 : Int32 → Int32 → Mem → Prop} {Q : Int32 → Mem → Prop} {H : Heap} {locs : List Loc} {ls : Array Slot} (C : Cx p s m args c cX0_passNight 4 RX0 g) (hr : meth.sig.returnType = (some .int)) (hk : meth.locks = false) (hE : isE o) (hK9 : ∀ (x2 : Int32) (x3 : Int32) (M : Mem) (H : Heap) (locs : List Loc) (ls : Array Slot), K9 x2 x3 M → Wd g layX 68 s.heap M H locs → lv_has ls 4 [(0, .ref (ga g o)), (1, .int x1), (2, .int x2), (3, .int x3)] → W p l e (rmOf 2 44) s m args below meth c H locs 0 0 (MQ below (va_Qi Q (PostW g layX 68) (gF g)) args s 0 0 (gF g)) (F0 m 9 ls [])) (h : w_X0_passNight_9 o x1 Q K9 x2 x3 M) (w : Wd g layX 68 s.heap M H locs) (hl : lv_has ls 4 [(0, .ref (ga g o)), (1, .int x1), (2, .int x2), (3, .int x3)]) : W p l e (rmOf 2 44) s m args below meth c H locs 0 0 (MQ below (va_Qi Q (PostW g layX 68) (gF g)) args s 0 0 (gF g)) (F0 m 9 ls []) := by
  unfold w_X0_passNight_9 at h
  refine lv_iload_n C.1.1 C.1.2.1 dX0_passNight_9 rfl (lv_at hl 3 rfl) ?_
  refine lv_aload_n C.1.1 C.1.2.1 dX0_passNight_10 rfl (lv_at hl 0 rfl) ?_
  refine gi_RX0_40 C w (eO hE) (eL hE) rfl dX0_passNight_11 ?_
  refine lv_icmp_ge (tgt := 73) C.1.1 C.1.2.1 dX0_passNight_14 (by decide) (fun hc2 => ?_) (fun hc2 => ?_)
  · replace h := h.1 hc2
    exact v_X0_passNight_73 C hr hk hE  h w (lv_sub hl [0, 2] rfl)
  · replace h := h.2 hc2
    refine lv_aload_n C.1.1 C.1.2.1 dX0_passNight_17 rfl (lv_at hl 0 rfl) ?_
    refine gr_RX0_25 C w (eO hE) (eL hE) rfl dX0_passNight_18 ?_
    refine lv_iload_n C.1.1 C.1.2.1 dX0_passNight_21 rfl (lv_at hl 3 rfl) ?_
    refine q_ial C w (eA5 hE).1 (eA5 hE).2 h.1 dX0_passNight_22 ?_
    replace h := h.2
    refine lv_if_le (tgt := 39) C.1.1 C.1.2.1 dX0_passNight_23 (by decide) (fun hc6 => ?_) (fun hc6 => ?_)
    · replace h := h.1 hc6
      refine lv_iload_n C.1.1 C.1.2.1 dX0_passNight_39 rfl (lv_at hl 1 rfl) ?_
      refine lv_if_ne (tgt := 59) C.1.1 C.1.2.1 dX0_passNight_40 (by decide) (fun hc7 => ?_) (fun hc7 => ?_)
      · replace h := h.2 hc7
        exact v_X0_passNight_59 C hr hk hE hK9 h w (lv_sub hl [0, 1, 2, 3] rfl)
      · replace h := h.1 hc7
        refine lv_aload_n C.1.1 C.1.2.1 dX0_passNight_43 rfl (lv_at hl 0 rfl) ?_
        refine lv_iload_n C.1.1 C.1.2.1 dX0_passNight_44 rfl (lv_at hl 3 rfl) ?_
        refine q_pVi C w [.int x3] (c_X0_wouldBeCaught hE h) kv_X0_wouldBeCaught k_8 (rcv C w kc_X0 (eO hE) (eL hE)) rfl hl.1 (Nat.le_of_ble_eq_true rfl) ⟨Nat.le_of_ble_eq_true rfl, Nat.le_of_ble_eq_true rfl⟩ dX0_passNight_45 (fun r10 H locs h w => ?_)
        refine lv_if_eq (tgt := 59) C.1.1 C.1.2.1 dX0_passNight_48 (by decide) (fun hc11 => ?_) (fun hc11 => ?_)
        · replace h := h.1 hc11
          exact v_X0_passNight_59 C hr hk hE hK9 h w (lv_sub hl [0, 1, 2, 3] rfl)
        · replace h := h.2 hc11
          refine lv_aload_n C.1.1 C.1.2.1 dX0_passNight_51 rfl (lv_at hl 0 rfl) ?_
          refine lv_iload_n C.1.1 C.1.2.1 dX0_passNight_52 rfl (lv_at hl 3 rfl) ?_
          refine q_cVv C w [.int x3] (c_X0_seize hE h) kv_X0_seize k_9 (rcv C w kc_X0 (eO hE) (eL hE)) rfl hl.1 (Nat.le_of_ble_eq_true rfl) ⟨Nat.le_of_ble_eq_true rfl, Nat.le_of_ble_eq_true rfl⟩ dX0_passNight_53 (fun M13 H locs h w => ?_)
          refine lv_goto (tgt := 67) C.1.1 C.1.2.1 dX0_passNight_56 (by decide) ?_
          exact v_X0_passNight_67 C hr hk hE hK9 h w (lv_sub hl [0, 1, 2, 3] rfl)
    · replace h := h.2 hc6
      refine lv_aload_n C.1.1 C.1.2.1 dX0_passNight_26 rfl (lv_at hl 0 rfl) ?_
      refine gr_RX0_25 C w (eO hE) (eL hE) rfl dX0_passNight_27 ?_
      refine lv_iload_n C.1.1 C.1.2.1 dX0_passNight_30 rfl (lv_at hl 3 rfl) ?_
      refine lv_dup2_11 C.1.1 C.1.2.1 dX0_passNight_31 rfl rfl ?_
      refine q_ial C w (eA5 hE).1 (eA5 hE).2 h.1 dX0_passNight_32 ?_
      replace h := h.2
      refine lv_iconst (v := 1) C.1.1 C.1.2.1 dX0_passNight_33 (by decide) ?_
      refine lv_isub C.1.1 C.1.2.1 dX0_passNight_34 ?_
      refine q_ias C w (eA5 hE).1 (eA5 hE).2 h.1 dX0_passNight_35 (fun M14 H locs eM14 w => ?_)
      replace h := h.2 M14 eM14
      refine lv_goto (tgt := 67) C.1.1 C.1.2.1 dX0_passNight_36 (by decide) ?_
      exact v_X0_passNight_67 C hr hk hE hK9 h w (lv_sub hl [0, 1, 2, 3] rfl)
set_option maxHeartbeats 4000000 in
set_option maxRecDepth 100000 in
theorem l_X0_passNight_9 {o : Nat} {x1 : Int32} {Q : Int32 → Mem → Prop} (C : Cx p s m args c cX0_passNight 4 RX0 g) (hr : meth.sig.returnType = (some .int)) (hk : meth.locks = false) (hE : isE o)  : ∀ (n : Nat) (x2 : Int32) (x3 : Int32) (M : Mem) (H : Heap) (locs : List Loc) (ls : Array Slot), fu3 (w_X0_passNight_9 o x1 Q) n x2 x3 M → Wd g layX 68 s.heap M H locs → lv_has ls 4 [(0, .ref (ga g o)), (1, .int x1), (2, .int x2), (3, .int x3)] → W p l e (rmOf 2 44) s m args below meth c H locs 0 0 (MQ below (va_Qi Q (PostW g layX 68) (gF g)) args s 0 0 (gF g)) (F0 m 9 ls []) := by
  intro n
  induction n with
  | zero => intro x2 x3 M H locs ls h; exact h.elim
  | succ n ih => intro x2 x3 M H locs ls h w hl; exact v_X0_passNight_9 C hr hk hE  ih h w hl
set_option maxHeartbeats 4000000 in
set_option maxRecDepth 100000 in
theorem c_X0_passNight {l : Launch} {g : Gt} {o : Nat} {x1 : Int32} {M : Mem} {Q : Int32 → Mem → Prop} (hE : isE o) (h : w_X0_passNight o x1 M Q) : MI l yX0_passNight cX0_passNight 4 (some .int) 2 44 g layX 68 [.ref (ga g o), .int x1] M Q :=
  m_of (by decide +kernel) (Nat.le_of_ble_eq_true rfl) (fun p e s m args below meth c ls C hr hk w hl => by
    have C : Cx p s m args c cX0_passNight 4 RX0 g := C
    have hl : lv_has ls 4 [(0, .ref (ga g o)), (1, .int x1)] := hl
    unfold w_X0_passNight at h
    obtain ⟨H, eH⟩ : ∃ H : Heap, H = s.heap := ⟨_, rfl⟩
    obtain ⟨locs, el⟩ : ∃ locs : List Loc, locs = [] := ⟨_, rfl⟩
    have w : Wd g layX 68 s.heap M H locs := by rw [eH, el]; exact w
    suffices hw : W p l e (rmOf 2 44) s m args below meth c H locs 0 0 (MQ below (va_Qi Q (PostW g layX 68) (gF g)) args s 0 0 (gF g)) (F0 m 0 ls []) by rw [eH, el] at hw; exact hw
    clear eH el
    refine lv_iconst (v := 0) C.1.1 C.1.2.1 dX0_passNight_0 (by decide) ?_
    refine lv_istore_n (lv' := [(2, .int 0), (0, .ref (ga g o)), (1, .int x1)]) C.1.1 C.1.2.1 dX0_passNight_1 rfl hl (by decide) rfl (fun ls hl => ?_)
    refine lv_aload_n C.1.1 C.1.2.1 dX0_passNight_2 rfl (lv_at hl 1 rfl) ?_
    refine lv_iconst (v := 0) C.1.1 C.1.2.1 dX0_passNight_3 (by decide) ?_
    refine pi_RX0_72 C w (eO hE) (eL hE) rfl dX0_passNight_4 (fun M1 H locs eM1 w => ?_)
    replace h := h M1 eM1
    refine lv_iconst (v := 0) C.1.1 C.1.2.1 dX0_passNight_7 (by decide) ?_
    refine lv_istore_n (lv' := [(3, .int 0), (2, .int 0), (0, .ref (ga g o)), (1, .int x1)]) C.1.1 C.1.2.1 dX0_passNight_8 rfl hl (by decide) rfl (fun ls hl => ?_)
    obtain ⟨n, h⟩ := h
    exact l_X0_passNight_9 C hr hk hE  n _ _ _ _ _ _ h w (lv_sub hl [2, 3, 1, 0] rfl))
-- sum
set_option maxHeartbeats 4000000 in
set_option maxRecDepth 100000 in
theorem v_X0_sum_4 {r : Nat} {nr : Nat} {x1 : Int32} {x2 : Int32} {x3 : Int32} {M : Mem} {K4 : Int32 → Int32 → Prop} {Q : Int32 → Prop} {H : Heap} {locs : List Loc} {ls : Array Slot} (C : Cx p s m args c cX0_sum 4 RX0 g) (hr : meth.sig.returnType = (some .int)) (hk : meth.locks = false) (hA : r < 68 ∧ layX r = .inr (.inl (0, nr))) (hK4 : ∀ (x2 : Int32) (x3 : Int32) (H : Heap) (locs : List Loc) (ls : Array Slot), K4 x2 x3 → Wd g layX 68 s.heap M H locs → lv_has ls 4 [(0, .ref (ga g r)), (1, .int x1), (2, .int x2), (3, .int x3)] → W p l e (rmOf 0 0) s m args below meth c H locs 0 0 (MQ below (va_Qi (fun r M9 => M9 = M ∧ Q r) (PostW g layX 68) (gF g)) args s 0 0 (gF g)) (F0 m 4 ls [])) (h : w_X0_sum_4 r nr x1 M Q K4 x2 x3) (w : Wd g layX 68 s.heap M H locs) (hl : lv_has ls 4 [(0, .ref (ga g r)), (1, .int x1), (2, .int x2), (3, .int x3)]) : W p l e (rmOf 0 0) s m args below meth c H locs 0 0 (MQ below (va_Qi (fun r M9 => M9 = M ∧ Q r) (PostW g layX 68) (gF g)) args s 0 0 (gF g)) (F0 m 4 ls []) := by
  unfold w_X0_sum_4 at h
  refine lv_iload_n C.1.1 C.1.2.1 dX0_sum_4 rfl (lv_at hl 3 rfl) ?_
  refine lv_iload_n C.1.1 C.1.2.1 dX0_sum_5 rfl (lv_at hl 1 rfl) ?_
  refine lv_icmp_ge (tgt := 27) C.1.1 C.1.2.1 dX0_sum_6 (by decide) (fun hc1 => ?_) (fun hc1 => ?_)
  · replace h := h.1 hc1
    refine lv_iload_n C.1.1 C.1.2.1 dX0_sum_27 rfl (lv_at hl 2 rfl) ?_
    exact q_iret C hr hk w rfl ⟨rfl, h⟩ dX0_sum_28
  · replace h := h.2 hc1
    refine lv_iload_n C.1.1 C.1.2.1 dX0_sum_9 rfl (lv_at hl 3 rfl) ?_
    refine lv_aload_n C.1.1 C.1.2.1 dX0_sum_10 rfl (lv_at hl 0 rfl) ?_
    refine q_alen C w hA.1 hA.2 (by decide) dX0_sum_11 ?_
    refine lv_icmp_ge (tgt := 27) C.1.1 C.1.2.1 dX0_sum_12 (by decide) (fun hc2 => ?_) (fun hc2 => ?_)
    · replace h := h.1 hc2
      refine lv_iload_n C.1.1 C.1.2.1 dX0_sum_27 rfl (lv_at hl 2 rfl) ?_
      exact q_iret C hr hk w rfl ⟨rfl, h⟩ dX0_sum_28
    · replace h := h.2 hc2
      refine lv_iload_n C.1.1 C.1.2.1 dX0_sum_15 rfl (lv_at hl 2 rfl) ?_
      refine lv_aload_n C.1.1 C.1.2.1 dX0_sum_16 rfl (lv_at hl 0 rfl) ?_
      refine lv_iload_n C.1.1 C.1.2.1 dX0_sum_17 rfl (lv_at hl 3 rfl) ?_
      refine q_ial C w hA.1 hA.2 h.1 dX0_sum_18 ?_
      replace h := h.2
      refine lv_iadd C.1.1 C.1.2.1 dX0_sum_19 ?_
      refine lv_istore_n (lv' := [(2, .int (x2 + (M r x3.toNatClampNeg))), (0, .ref (ga g r)), (1, .int x1), (3, .int x3)]) C.1.1 C.1.2.1 dX0_sum_20 rfl hl (by decide) rfl (fun ls hl => ?_)
      refine lv_iinc (v := x3 + 1) (lv' := [(3, .int (x3 + 1)), (2, .int (x2 + (M r x3.toNatClampNeg))), (0, .ref (ga g r)), (1, .int x1)]) C.1.1 C.1.2.1 dX0_sum_21 hl (k := 3) rfl rfl (by decide) rfl (fun ls hl => ?_)
      refine lv_goto (tgt := 4) C.1.1 C.1.2.1 dX0_sum_24 (by decide) ?_
      exact hK4 _ _ _ _ _ h w (lv_sub hl [2, 3, 1, 0] rfl)
set_option maxHeartbeats 4000000 in
set_option maxRecDepth 100000 in
theorem l_X0_sum_4 {r : Nat} {nr : Nat} {x1 : Int32} {M : Mem} {Q : Int32 → Prop} (C : Cx p s m args c cX0_sum 4 RX0 g) (hr : meth.sig.returnType = (some .int)) (hk : meth.locks = false) (hA : r < 68 ∧ layX r = .inr (.inl (0, nr)))  : ∀ (n : Nat) (x2 : Int32) (x3 : Int32) (H : Heap) (locs : List Loc) (ls : Array Slot), fu2 (w_X0_sum_4 r nr x1 M Q) n x2 x3 → Wd g layX 68 s.heap M H locs → lv_has ls 4 [(0, .ref (ga g r)), (1, .int x1), (2, .int x2), (3, .int x3)] → W p l e (rmOf 0 0) s m args below meth c H locs 0 0 (MQ below (va_Qi (fun r M9 => M9 = M ∧ Q r) (PostW g layX 68) (gF g)) args s 0 0 (gF g)) (F0 m 4 ls []) := by
  intro n
  induction n with
  | zero => intro x2 x3 H locs ls h; exact h.elim
  | succ n ih => intro x2 x3 H locs ls h w hl; exact v_X0_sum_4 C hr hk hA  ih h w hl
set_option maxHeartbeats 4000000 in
set_option maxRecDepth 100000 in
theorem c_X0_sum {l : Launch} {g : Gt} {r : Nat} {nr : Nat} {x1 : Int32} {M : Mem} {Q : Int32 → Prop} (hA : r < 68 ∧ layX r = .inr (.inl (0, nr))) (h : w_X0_sum r nr x1 M Q) : MI l yX0_sum cX0_sum 4 (some .int) 0 0 g layX 68 [.ref (ga g r), .int x1] M (fun r M9 => M9 = M ∧ Q r) :=
  m_of (by decide +kernel) (Nat.le_of_ble_eq_true rfl) (fun p e s m args below meth c ls C hr hk w hl => by
    have C : Cx p s m args c cX0_sum 4 RX0 g := C
    have hl : lv_has ls 4 [(0, .ref (ga g r)), (1, .int x1)] := hl
    unfold w_X0_sum at h
    obtain ⟨H, eH⟩ : ∃ H : Heap, H = s.heap := ⟨_, rfl⟩
    obtain ⟨locs, el⟩ : ∃ locs : List Loc, locs = [] := ⟨_, rfl⟩
    have w : Wd g layX 68 s.heap M H locs := by rw [eH, el]; exact w
    suffices hw : W p l e (rmOf 0 0) s m args below meth c H locs 0 0 (MQ below (va_Qi (fun r M9 => M9 = M ∧ Q r) (PostW g layX 68) (gF g)) args s 0 0 (gF g)) (F0 m 0 ls []) by rw [eH, el] at hw; exact hw
    clear eH el
    refine lv_iconst (v := 0) C.1.1 C.1.2.1 dX0_sum_0 (by decide) ?_
    refine lv_istore_n (lv' := [(2, .int 0), (0, .ref (ga g r)), (1, .int x1)]) C.1.1 C.1.2.1 dX0_sum_1 rfl hl (by decide) rfl (fun ls hl => ?_)
    refine lv_iconst (v := 0) C.1.1 C.1.2.1 dX0_sum_2 (by decide) ?_
    refine lv_istore_n (lv' := [(3, .int 0), (2, .int 0), (0, .ref (ga g r)), (1, .int x1)]) C.1.1 C.1.2.1 dX0_sum_3 rfl hl (by decide) rfl (fun ls hl => ?_)
    obtain ⟨n, h⟩ := h
    exact l_X0_sum_4 C hr hk hA  n _ _ _ _ _ h w (lv_sub hl [2, 3, 1, 0] rfl))
-- lightOfAll
set_option maxHeartbeats 4000000 in
set_option maxRecDepth 100000 in
theorem c_X0_lightOfAll {l : Launch} {g : Gt} {o : Nat} {M : Mem} {Q : Int32 → Prop} (hE : isE o) (h : w_X0_lightOfAll o M Q) : MI l yX0_lightOfAll cX0_lightOfAll 1 (some .int) 1 23 g layX 68 [.ref (ga g o)] M (fun r M9 => M9 = M ∧ Q r) :=
  m_of (by decide +kernel) (Nat.le_of_ble_eq_true rfl) (fun p e s m args below meth c ls C hr hk w hl => by
    have C : Cx p s m args c cX0_lightOfAll 1 RX0 g := C
    have hl : lv_has ls 1 [(0, .ref (ga g o))] := hl
    unfold w_X0_lightOfAll at h
    obtain ⟨H, eH⟩ : ∃ H : Heap, H = s.heap := ⟨_, rfl⟩
    obtain ⟨locs, el⟩ : ∃ locs : List Loc, locs = [] := ⟨_, rfl⟩
    have w : Wd g layX 68 s.heap M H locs := by rw [eH, el]; exact w
    suffices hw : W p l e (rmOf 1 23) s m args below meth c H locs 0 0 (MQ below (va_Qi (fun r M9 => M9 = M ∧ Q r) (PostW g layX 68) (gF g)) args s 0 0 (gF g)) (F0 m 0 ls []) by rw [eH, el] at hw; exact hw
    clear eH el
    refine lv_aload_n C.1.1 C.1.2.1 dX0_lightOfAll_0 rfl (lv_at hl 0 rfl) ?_
    refine gr_RX0_9 C w (eO hE) (eL hE) rfl dX0_lightOfAll_1 ?_
    refine lv_bipush (v := 6) C.1.1 C.1.2.1 dX0_lightOfAll_4 (by decide) ?_
    refine q_pSi C w [.ref (ga g (o + 1)), .int 6] (c_X0_sum ⟨(eA0 hE).1, (eA0 hE).2⟩ h) ks_X0_sum k_10  rfl hl.1 (Nat.le_of_ble_eq_true rfl) ⟨Nat.le_of_ble_eq_true rfl, Nat.le_of_ble_eq_true rfl⟩ dX0_lightOfAll_6 (fun r1 H locs h w => ?_)
    exact q_iret C hr hk w rfl ⟨rfl, h⟩ dX0_lightOfAll_9)
-- growthOfAll
set_option maxHeartbeats 4000000 in
set_option maxRecDepth 100000 in
theorem c_X0_growthOfAll {l : Launch} {g : Gt} {o : Nat} {M : Mem} {Q : Int32 → Prop} (hE : isE o) (h : w_X0_growthOfAll o M Q) : MI l yX0_growthOfAll cX0_growthOfAll 1 (some .int) 1 23 g layX 68 [.ref (ga g o)] M (fun r M9 => M9 = M ∧ Q r) :=
  m_of (by decide +kernel) (Nat.le_of_ble_eq_true rfl) (fun p e s m args below meth c ls C hr hk w hl => by
    have C : Cx p s m args c cX0_growthOfAll 1 RX0 g := C
    have hl : lv_has ls 1 [(0, .ref (ga g o))] := hl
    unfold w_X0_growthOfAll at h
    obtain ⟨H, eH⟩ : ∃ H : Heap, H = s.heap := ⟨_, rfl⟩
    obtain ⟨locs, el⟩ : ∃ locs : List Loc, locs = [] := ⟨_, rfl⟩
    have w : Wd g layX 68 s.heap M H locs := by rw [eH, el]; exact w
    suffices hw : W p l e (rmOf 1 23) s m args below meth c H locs 0 0 (MQ below (va_Qi (fun r M9 => M9 = M ∧ Q r) (PostW g layX 68) (gF g)) args s 0 0 (gF g)) (F0 m 0 ls []) by rw [eH, el] at hw; exact hw
    clear eH el
    refine lv_aload_n C.1.1 C.1.2.1 dX0_growthOfAll_0 rfl (lv_at hl 0 rfl) ?_
    refine gr_RX0_13 C w (eO hE) (eL hE) rfl dX0_growthOfAll_1 ?_
    refine lv_bipush (v := 6) C.1.1 C.1.2.1 dX0_growthOfAll_4 (by decide) ?_
    refine q_pSi C w [.ref (ga g (o + 2)), .int 6] (c_X0_sum ⟨(eA1 hE).1, (eA1 hE).2⟩ h) ks_X0_sum k_10  rfl hl.1 (Nat.le_of_ble_eq_true rfl) ⟨Nat.le_of_ble_eq_true rfl, Nat.le_of_ble_eq_true rfl⟩ dX0_growthOfAll_6 (fun r1 H locs h w => ?_)
    exact q_iret C hr hk w rfl ⟨rfl, h⟩ dX0_growthOfAll_9)
-- bagsOfAll
set_option maxHeartbeats 4000000 in
set_option maxRecDepth 100000 in
theorem c_X0_bagsOfAll {l : Launch} {g : Gt} {o : Nat} {M : Mem} {Q : Int32 → Prop} (hE : isE o) (h : w_X0_bagsOfAll o M Q) : MI l yX0_bagsOfAll cX0_bagsOfAll 1 (some .int) 1 23 g layX 68 [.ref (ga g o)] M (fun r M9 => M9 = M ∧ Q r) :=
  m_of (by decide +kernel) (Nat.le_of_ble_eq_true rfl) (fun p e s m args below meth c ls C hr hk w hl => by
    have C : Cx p s m args c cX0_bagsOfAll 1 RX0 g := C
    have hl : lv_has ls 1 [(0, .ref (ga g o))] := hl
    unfold w_X0_bagsOfAll at h
    obtain ⟨H, eH⟩ : ∃ H : Heap, H = s.heap := ⟨_, rfl⟩
    obtain ⟨locs, el⟩ : ∃ locs : List Loc, locs = [] := ⟨_, rfl⟩
    have w : Wd g layX 68 s.heap M H locs := by rw [eH, el]; exact w
    suffices hw : W p l e (rmOf 1 23) s m args below meth c H locs 0 0 (MQ below (va_Qi (fun r M9 => M9 = M ∧ Q r) (PostW g layX 68) (gF g)) args s 0 0 (gF g)) (F0 m 0 ls []) by rw [eH, el] at hw; exact hw
    clear eH el
    refine lv_aload_n C.1.1 C.1.2.1 dX0_bagsOfAll_0 rfl (lv_at hl 0 rfl) ?_
    refine gr_RX0_22 C w (eO hE) (eL hE) rfl dX0_bagsOfAll_1 ?_
    refine lv_aload_n C.1.1 C.1.2.1 dX0_bagsOfAll_4 rfl (lv_at hl 0 rfl) ?_
    refine gi_RX0_40 C w (eO hE) (eL hE) rfl dX0_bagsOfAll_5 ?_
    refine q_pSi C w [.ref (ga g (o + 5)), .int (M o 9)] (c_X0_sum ⟨(eA4 hE).1, (eA4 hE).2⟩ h) ks_X0_sum k_10  rfl hl.1 (Nat.le_of_ble_eq_true rfl) ⟨Nat.le_of_ble_eq_true rfl, Nat.le_of_ble_eq_true rfl⟩ dX0_bagsOfAll_8 (fun r1 H locs h w => ?_)
    exact q_iret C hr hk w rfl ⟨rfl, h⟩ dX0_bagsOfAll_11)
-- earsOfAll
set_option maxHeartbeats 4000000 in
set_option maxRecDepth 100000 in
theorem c_X0_earsOfAll {l : Launch} {g : Gt} {o : Nat} {M : Mem} {Q : Int32 → Prop} (hE : isE o) (h : w_X0_earsOfAll o M Q) : MI l yX0_earsOfAll cX0_earsOfAll 1 (some .int) 1 23 g layX 68 [.ref (ga g o)] M (fun r M9 => M9 = M ∧ Q r) :=
  m_of (by decide +kernel) (Nat.le_of_ble_eq_true rfl) (fun p e s m args below meth c ls C hr hk w hl => by
    have C : Cx p s m args c cX0_earsOfAll 1 RX0 g := C
    have hl : lv_has ls 1 [(0, .ref (ga g o))] := hl
    unfold w_X0_earsOfAll at h
    obtain ⟨H, eH⟩ : ∃ H : Heap, H = s.heap := ⟨_, rfl⟩
    obtain ⟨locs, el⟩ : ∃ locs : List Loc, locs = [] := ⟨_, rfl⟩
    have w : Wd g layX 68 s.heap M H locs := by rw [eH, el]; exact w
    suffices hw : W p l e (rmOf 1 23) s m args below meth c H locs 0 0 (MQ below (va_Qi (fun r M9 => M9 = M ∧ Q r) (PostW g layX 68) (gF g)) args s 0 0 (gF g)) (F0 m 0 ls []) by rw [eH, el] at hw; exact hw
    clear eH el
    refine lv_aload_n C.1.1 C.1.2.1 dX0_earsOfAll_0 rfl (lv_at hl 0 rfl) ?_
    refine gr_RX0_34 C w (eO hE) (eL hE) rfl dX0_earsOfAll_1 ?_
    refine lv_aload_n C.1.1 C.1.2.1 dX0_earsOfAll_4 rfl (lv_at hl 0 rfl) ?_
    refine gi_RX0_44 C w (eO hE) (eL hE) rfl dX0_earsOfAll_5 ?_
    refine q_pSi C w [.ref (ga g (o + 9)), .int (M o 10)] (c_X0_sum ⟨(eA8 hE).1, (eA8 hE).2⟩ h) ks_X0_sum k_10  rfl hl.1 (Nat.le_of_ble_eq_true rfl) ⟨Nat.le_of_ble_eq_true rfl, Nat.le_of_ble_eq_true rfl⟩ dX0_earsOfAll_8 (fun r1 H locs h w => ?_)
    exact q_iret C hr hk w rfl ⟨rfl, h⟩ dX0_earsOfAll_11)
-- heldBits
set_option maxHeartbeats 4000000 in
set_option maxRecDepth 100000 in
theorem v_X0_heldBits_4 {o : Nat} {x1 : Int32} {x2 : Int32} {M : Mem} {K4 : Int32 → Int32 → Prop} {Q : Int32 → Prop} {H : Heap} {locs : List Loc} {ls : Array Slot} (C : Cx p s m args c cX0_heldBits 3 RX0 g) (hr : meth.sig.returnType = (some .int)) (hk : meth.locks = false) (hE : isE o) (hK4 : ∀ (x1 : Int32) (x2 : Int32) (H : Heap) (locs : List Loc) (ls : Array Slot), K4 x1 x2 → Wd g layX 68 s.heap M H locs → lv_has ls 3 [(0, .ref (ga g o)), (1, .int x1), (2, .int x2)] → W p l e (rmOf 0 0) s m args below meth c H locs 0 0 (MQ below (va_Qi (fun r M9 => M9 = M ∧ Q r) (PostW g layX 68) (gF g)) args s 0 0 (gF g)) (F0 m 4 ls [])) (h : w_X0_heldBits_4 o M Q K4 x1 x2) (w : Wd g layX 68 s.heap M H locs) (hl : lv_has ls 3 [(0, .ref (ga g o)), (1, .int x1), (2, .int x2)]) : W p l e (rmOf 0 0) s m args below meth c H locs 0 0 (MQ below (va_Qi (fun r M9 => M9 = M ∧ Q r) (PostW g layX 68) (gF g)) args s 0 0 (gF g)) (F0 m 4 ls []) := by
  unfold w_X0_heldBits_4 at h
  refine lv_iload_n C.1.1 C.1.2.1 dX0_heldBits_4 rfl (lv_at hl 2 rfl) ?_
  refine lv_aload_n C.1.1 C.1.2.1 dX0_heldBits_5 rfl (lv_at hl 0 rfl) ?_
  refine gi_RX0_40 C w (eO hE) (eL hE) rfl dX0_heldBits_6 ?_
  refine lv_icmp_ge (tgt := 37) C.1.1 C.1.2.1 dX0_heldBits_9 (by decide) (fun hc1 => ?_) (fun hc1 => ?_)
  · replace h := h.1 hc1
    refine lv_iload_n C.1.1 C.1.2.1 dX0_heldBits_37 rfl (lv_at hl 1 rfl) ?_
    exact q_iret C hr hk w rfl ⟨rfl, h⟩ dX0_heldBits_38
  · replace h := h.2 hc1
    refine lv_iload_n C.1.1 C.1.2.1 dX0_heldBits_12 rfl (lv_at hl 1 rfl) ?_
    refine lv_aload_n C.1.1 C.1.2.1 dX0_heldBits_13 rfl (lv_at hl 0 rfl) ?_
    refine gr_RX0_25 C w (eO hE) (eL hE) rfl dX0_heldBits_14 ?_
    refine lv_iload_n C.1.1 C.1.2.1 dX0_heldBits_17 rfl (lv_at hl 2 rfl) ?_
    refine q_ial C w (eA5 hE).1 (eA5 hE).2 h.1 dX0_heldBits_18 ?_
    replace h := h.2
    have J : ∀ ls : Array Slot, lv_has ls 3 [(0, .ref (ga g o)), (2, .int x2)] → W p l e (rmOf 0 0) s m args below meth c H locs 0 0 (MQ below (va_Qi (fun r M9 => M9 = M ∧ Q r) (PostW g layX 68) (gF g)) args s 0 0 (gF g)) (F0 m 29 ls [.int (if (M (o + 6) x2.toNatClampNeg) ≤ 0 then (0 : Int32) else (sl 1 x2)), .int x1]) := by
      intro ls hl
      refine lv_ior C.1.1 C.1.2.1 dX0_heldBits_29 ?_
      refine lv_topi (fun v3 ev3 => ?_)
      replace h := h v3 ev3
      refine lv_istore_n (lv' := [(1, .int v3), (0, .ref (ga g o)), (2, .int x2)]) C.1.1 C.1.2.1 dX0_heldBits_30 rfl hl (by decide) rfl (fun ls hl => ?_)
      refine lv_iinc (v := x2 + 1) (lv' := [(2, .int (x2 + 1)), (1, .int v3), (0, .ref (ga g o))]) C.1.1 C.1.2.1 dX0_heldBits_31 hl (k := 2) rfl rfl (by decide) rfl (fun ls hl => ?_)
      refine lv_goto (tgt := 4) C.1.1 C.1.2.1 dX0_heldBits_34 (by decide) ?_
      exact hK4 _ _ _ _ _ h w (lv_sub hl [2, 1, 0] rfl)
    refine lv_if_le (tgt := 28) C.1.1 C.1.2.1 dX0_heldBits_19 (by decide) (fun hc2 => ?_) (fun hc2 => ?_)
    · refine lv_iconst (v := 0) C.1.1 C.1.2.1 dX0_heldBits_28 (by decide) ?_
      simp only [if_pos hc2] at J hl
      exact J ls (lv_sub hl [0, 2] rfl)
    · refine lv_iconst (v := 1) C.1.1 C.1.2.1 dX0_heldBits_22 (by decide) ?_
      refine lv_iload_n C.1.1 C.1.2.1 dX0_heldBits_23 rfl (lv_at hl 2 rfl) ?_
      refine q_ishl C dX0_heldBits_24 ?_
      refine lv_goto (tgt := 29) C.1.1 C.1.2.1 dX0_heldBits_25 (by decide) ?_
      simp only [if_neg hc2] at J hl
      exact J ls (lv_sub hl [0, 2] rfl)
set_option maxHeartbeats 4000000 in
set_option maxRecDepth 100000 in
theorem l_X0_heldBits_4 {o : Nat} {M : Mem} {Q : Int32 → Prop} (C : Cx p s m args c cX0_heldBits 3 RX0 g) (hr : meth.sig.returnType = (some .int)) (hk : meth.locks = false) (hE : isE o)  : ∀ (n : Nat) (x1 : Int32) (x2 : Int32) (H : Heap) (locs : List Loc) (ls : Array Slot), fu2 (w_X0_heldBits_4 o M Q) n x1 x2 → Wd g layX 68 s.heap M H locs → lv_has ls 3 [(0, .ref (ga g o)), (1, .int x1), (2, .int x2)] → W p l e (rmOf 0 0) s m args below meth c H locs 0 0 (MQ below (va_Qi (fun r M9 => M9 = M ∧ Q r) (PostW g layX 68) (gF g)) args s 0 0 (gF g)) (F0 m 4 ls []) := by
  intro n
  induction n with
  | zero => intro x1 x2 H locs ls h; exact h.elim
  | succ n ih => intro x1 x2 H locs ls h w hl; exact v_X0_heldBits_4 C hr hk hE  ih h w hl
set_option maxHeartbeats 4000000 in
set_option maxRecDepth 100000 in
theorem c_X0_heldBits {l : Launch} {g : Gt} {o : Nat} {M : Mem} {Q : Int32 → Prop} (hE : isE o) (h : w_X0_heldBits o M Q) : MI l yX0_heldBits cX0_heldBits 3 (some .int) 0 0 g layX 68 [.ref (ga g o)] M (fun r M9 => M9 = M ∧ Q r) :=
  m_of (by decide +kernel) (Nat.le_of_ble_eq_true rfl) (fun p e s m args below meth c ls C hr hk w hl => by
    have C : Cx p s m args c cX0_heldBits 3 RX0 g := C
    have hl : lv_has ls 3 [(0, .ref (ga g o))] := hl
    unfold w_X0_heldBits at h
    obtain ⟨H, eH⟩ : ∃ H : Heap, H = s.heap := ⟨_, rfl⟩
    obtain ⟨locs, el⟩ : ∃ locs : List Loc, locs = [] := ⟨_, rfl⟩
    have w : Wd g layX 68 s.heap M H locs := by rw [eH, el]; exact w
    suffices hw : W p l e (rmOf 0 0) s m args below meth c H locs 0 0 (MQ below (va_Qi (fun r M9 => M9 = M ∧ Q r) (PostW g layX 68) (gF g)) args s 0 0 (gF g)) (F0 m 0 ls []) by rw [eH, el] at hw; exact hw
    clear eH el
    refine lv_iconst (v := 0) C.1.1 C.1.2.1 dX0_heldBits_0 (by decide) ?_
    refine lv_istore_n (lv' := [(1, .int 0), (0, .ref (ga g o))]) C.1.1 C.1.2.1 dX0_heldBits_1 rfl hl (by decide) rfl (fun ls hl => ?_)
    refine lv_iconst (v := 0) C.1.1 C.1.2.1 dX0_heldBits_2 (by decide) ?_
    refine lv_istore_n (lv' := [(2, .int 0), (1, .int 0), (0, .ref (ga g o))]) C.1.1 C.1.2.1 dX0_heldBits_3 rfl hl (by decide) rfl (fun ls hl => ?_)
    obtain ⟨n, h⟩ := h
    exact l_X0_heldBits_4 C hr hk hE  n _ _ _ _ _ h w (lv_sub hl [2, 1, 0] rfl))
-- nextCaughtBits
set_option maxHeartbeats 4000000 in
set_option maxRecDepth 100000 in
theorem v_X0_nextCaughtBits_4 {o : Nat} {x1 : Int32} {x2 : Int32} {M : Mem} {K4 : Int32 → Int32 → Prop} {Q : Int32 → Prop} {H : Heap} {locs : List Loc} {ls : Array Slot} (C : Cx p s m args c cX0_nextCaughtBits 3 RX0 g) (hr : meth.sig.returnType = (some .int)) (hk : meth.locks = false) (hE : isE o) (hK4 : ∀ (x1 : Int32) (x2 : Int32) (H : Heap) (locs : List Loc) (ls : Array Slot), K4 x1 x2 → Wd g layX 68 s.heap M H locs → lv_has ls 3 [(0, .ref (ga g o)), (1, .int x1), (2, .int x2)] → W p l e (rmOf 2 43) s m args below meth c H locs 0 0 (MQ below (va_Qi (fun r M9 => M9 = M ∧ Q r) (PostW g layX 68) (gF g)) args s 0 0 (gF g)) (F0 m 4 ls [])) (h : w_X0_nextCaughtBits_4 o M Q K4 x1 x2) (w : Wd g layX 68 s.heap M H locs) (hl : lv_has ls 3 [(0, .ref (ga g o)), (1, .int x1), (2, .int x2)]) : W p l e (rmOf 2 43) s m args below meth c H locs 0 0 (MQ below (va_Qi (fun r M9 => M9 = M ∧ Q r) (PostW g layX 68) (gF g)) args s 0 0 (gF g)) (F0 m 4 ls []) := by
  unfold w_X0_nextCaughtBits_4 at h
  refine lv_iload_n C.1.1 C.1.2.1 dX0_nextCaughtBits_4 rfl (lv_at hl 2 rfl) ?_
  refine lv_aload_n C.1.1 C.1.2.1 dX0_nextCaughtBits_5 rfl (lv_at hl 0 rfl) ?_
  refine gi_RX0_40 C w (eO hE) (eL hE) rfl dX0_nextCaughtBits_6 ?_
  refine lv_icmp_ge (tgt := 36) C.1.1 C.1.2.1 dX0_nextCaughtBits_9 (by decide) (fun hc1 => ?_) (fun hc1 => ?_)
  · replace h := h.1 hc1
    refine lv_iload_n C.1.1 C.1.2.1 dX0_nextCaughtBits_36 rfl (lv_at hl 1 rfl) ?_
    exact q_iret C hr hk w rfl ⟨rfl, h⟩ dX0_nextCaughtBits_37
  · replace h := h.2 hc1
    refine lv_iload_n C.1.1 C.1.2.1 dX0_nextCaughtBits_12 rfl (lv_at hl 1 rfl) ?_
    refine lv_aload_n C.1.1 C.1.2.1 dX0_nextCaughtBits_13 rfl (lv_at hl 0 rfl) ?_
    refine lv_iload_n C.1.1 C.1.2.1 dX0_nextCaughtBits_14 rfl (lv_at hl 2 rfl) ?_
    refine q_pVi C w [.int x2] (c_X0_wouldBeCaught hE h) kv_X0_wouldBeCaught k_8 (rcv C w kc_X0 (eO hE) (eL hE)) rfl hl.1 (Nat.le_of_ble_eq_true rfl) ⟨Nat.le_of_ble_eq_true rfl, Nat.le_of_ble_eq_true rfl⟩ dX0_nextCaughtBits_15 (fun r2 H locs h w => ?_)
    have J : ∀ ls : Array Slot, lv_has ls 3 [(0, .ref (ga g o)), (2, .int x2)] → W p l e (rmOf 2 43) s m args below meth c H locs 0 0 (MQ below (va_Qi (fun r M9 => M9 = M ∧ Q r) (PostW g layX 68) (gF g)) args s 0 0 (gF g)) (F0 m 28 ls [.int (if r2 = 0 then (0 : Int32) else (sl 1 x2)), .int x1]) := by
      intro ls hl
      refine lv_ior C.1.1 C.1.2.1 dX0_nextCaughtBits_28 ?_
      refine lv_istore_n (lv' := [(1, .int (x1 ||| (if r2 = 0 then (0 : Int32) else (sl 1 x2)))), (0, .ref (ga g o)), (2, .int x2)]) C.1.1 C.1.2.1 dX0_nextCaughtBits_29 rfl hl (by decide) rfl (fun ls hl => ?_)
      refine lv_iinc (v := x2 + 1) (lv' := [(2, .int (x2 + 1)), (1, .int (x1 ||| (if r2 = 0 then (0 : Int32) else (sl 1 x2)))), (0, .ref (ga g o))]) C.1.1 C.1.2.1 dX0_nextCaughtBits_30 hl (k := 2) rfl rfl (by decide) rfl (fun ls hl => ?_)
      refine lv_goto (tgt := 4) C.1.1 C.1.2.1 dX0_nextCaughtBits_33 (by decide) ?_
      exact hK4 _ _ _ _ _ h w (lv_sub hl [2, 1, 0] rfl)
    refine lv_if_eq (tgt := 27) C.1.1 C.1.2.1 dX0_nextCaughtBits_18 (by decide) (fun hc3 => ?_) (fun hc3 => ?_)
    · refine lv_iconst (v := 0) C.1.1 C.1.2.1 dX0_nextCaughtBits_27 (by decide) ?_
      simp only [if_pos hc3] at J hl
      exact J ls (lv_sub hl [0, 2] rfl)
    · refine lv_iconst (v := 1) C.1.1 C.1.2.1 dX0_nextCaughtBits_21 (by decide) ?_
      refine lv_iload_n C.1.1 C.1.2.1 dX0_nextCaughtBits_22 rfl (lv_at hl 2 rfl) ?_
      refine q_ishl C dX0_nextCaughtBits_23 ?_
      refine lv_goto (tgt := 28) C.1.1 C.1.2.1 dX0_nextCaughtBits_24 (by decide) ?_
      simp only [if_neg hc3] at J hl
      exact J ls (lv_sub hl [0, 2] rfl)
set_option maxHeartbeats 4000000 in
set_option maxRecDepth 100000 in
theorem l_X0_nextCaughtBits_4 {o : Nat} {M : Mem} {Q : Int32 → Prop} (C : Cx p s m args c cX0_nextCaughtBits 3 RX0 g) (hr : meth.sig.returnType = (some .int)) (hk : meth.locks = false) (hE : isE o)  : ∀ (n : Nat) (x1 : Int32) (x2 : Int32) (H : Heap) (locs : List Loc) (ls : Array Slot), fu2 (w_X0_nextCaughtBits_4 o M Q) n x1 x2 → Wd g layX 68 s.heap M H locs → lv_has ls 3 [(0, .ref (ga g o)), (1, .int x1), (2, .int x2)] → W p l e (rmOf 2 43) s m args below meth c H locs 0 0 (MQ below (va_Qi (fun r M9 => M9 = M ∧ Q r) (PostW g layX 68) (gF g)) args s 0 0 (gF g)) (F0 m 4 ls []) := by
  intro n
  induction n with
  | zero => intro x1 x2 H locs ls h; exact h.elim
  | succ n ih => intro x1 x2 H locs ls h w hl; exact v_X0_nextCaughtBits_4 C hr hk hE  ih h w hl
set_option maxHeartbeats 4000000 in
set_option maxRecDepth 100000 in
theorem c_X0_nextCaughtBits {l : Launch} {g : Gt} {o : Nat} {M : Mem} {Q : Int32 → Prop} (hE : isE o) (h : w_X0_nextCaughtBits o M Q) : MI l yX0_nextCaughtBits cX0_nextCaughtBits 3 (some .int) 2 43 g layX 68 [.ref (ga g o)] M (fun r M9 => M9 = M ∧ Q r) :=
  m_of (by decide +kernel) (Nat.le_of_ble_eq_true rfl) (fun p e s m args below meth c ls C hr hk w hl => by
    have C : Cx p s m args c cX0_nextCaughtBits 3 RX0 g := C
    have hl : lv_has ls 3 [(0, .ref (ga g o))] := hl
    unfold w_X0_nextCaughtBits at h
    obtain ⟨H, eH⟩ : ∃ H : Heap, H = s.heap := ⟨_, rfl⟩
    obtain ⟨locs, el⟩ : ∃ locs : List Loc, locs = [] := ⟨_, rfl⟩
    have w : Wd g layX 68 s.heap M H locs := by rw [eH, el]; exact w
    suffices hw : W p l e (rmOf 2 43) s m args below meth c H locs 0 0 (MQ below (va_Qi (fun r M9 => M9 = M ∧ Q r) (PostW g layX 68) (gF g)) args s 0 0 (gF g)) (F0 m 0 ls []) by rw [eH, el] at hw; exact hw
    clear eH el
    refine lv_iconst (v := 0) C.1.1 C.1.2.1 dX0_nextCaughtBits_0 (by decide) ?_
    refine lv_istore_n (lv' := [(1, .int 0), (0, .ref (ga g o))]) C.1.1 C.1.2.1 dX0_nextCaughtBits_1 rfl hl (by decide) rfl (fun ls hl => ?_)
    refine lv_iconst (v := 0) C.1.1 C.1.2.1 dX0_nextCaughtBits_2 (by decide) ?_
    refine lv_istore_n (lv' := [(2, .int 0), (1, .int 0), (0, .ref (ga g o))]) C.1.1 C.1.2.1 dX0_nextCaughtBits_3 rfl hl (by decide) rfl (fun ls hl => ?_)
    obtain ⟨n, h⟩ := h
    exact l_X0_nextCaughtBits_4 C hr hk hE  n _ _ _ _ _ h w (lv_sub hl [2, 1, 0] rfl))
-- takerBitsAt
set_option maxHeartbeats 4000000 in
set_option maxRecDepth 100000 in
theorem v_X0_takerBitsAt_4 {o : Nat} {x1 : Int32} {x2 : Int32} {x3 : Int32} {M : Mem} {K4 : Int32 → Int32 → Prop} {Q : Int32 → Prop} {H : Heap} {locs : List Loc} {ls : Array Slot} (C : Cx p s m args c cX0_takerBitsAt 4 RX0 g) (hr : meth.sig.returnType = (some .int)) (hk : meth.locks = false) (hE : isE o) (hK4 : ∀ (x2 : Int32) (x3 : Int32) (H : Heap) (locs : List Loc) (ls : Array Slot), K4 x2 x3 → Wd g layX 68 s.heap M H locs → lv_has ls 4 [(0, .ref (ga g o)), (1, .int x1), (2, .int x2), (3, .int x3)] → W p l e (rmOf 0 0) s m args below meth c H locs 0 0 (MQ below (va_Qi (fun r M9 => M9 = M ∧ Q r) (PostW g layX 68) (gF g)) args s 0 0 (gF g)) (F0 m 4 ls [])) (h : w_X0_takerBitsAt_4 o x1 M Q K4 x2 x3) (w : Wd g layX 68 s.heap M H locs) (hl : lv_has ls 4 [(0, .ref (ga g o)), (1, .int x1), (2, .int x2), (3, .int x3)]) : W p l e (rmOf 0 0) s m args below meth c H locs 0 0 (MQ below (va_Qi (fun r M9 => M9 = M ∧ Q r) (PostW g layX 68) (gF g)) args s 0 0 (gF g)) (F0 m 4 ls []) := by
  unfold w_X0_takerBitsAt_4 at h
  refine lv_iload_n C.1.1 C.1.2.1 dX0_takerBitsAt_4 rfl (lv_at hl 3 rfl) ?_
  refine lv_aload_n C.1.1 C.1.2.1 dX0_takerBitsAt_5 rfl (lv_at hl 0 rfl) ?_
  refine gi_RX0_40 C w (eO hE) (eL hE) rfl dX0_takerBitsAt_6 ?_
  refine lv_icmp_ge (tgt := 38) C.1.1 C.1.2.1 dX0_takerBitsAt_9 (by decide) (fun hc1 => ?_) (fun hc1 => ?_)
  · replace h := h.1 hc1
    refine lv_iload_n C.1.1 C.1.2.1 dX0_takerBitsAt_38 rfl (lv_at hl 2 rfl) ?_
    exact q_iret C hr hk w rfl ⟨rfl, h⟩ dX0_takerBitsAt_39
  · replace h := h.2 hc1
    refine lv_iload_n C.1.1 C.1.2.1 dX0_takerBitsAt_12 rfl (lv_at hl 2 rfl) ?_
    refine lv_aload_n C.1.1 C.1.2.1 dX0_takerBitsAt_13 rfl (lv_at hl 0 rfl) ?_
    refine gr_RX0_19 C w (eO hE) (eL hE) rfl dX0_takerBitsAt_14 ?_
    refine lv_iload_n C.1.1 C.1.2.1 dX0_takerBitsAt_17 rfl (lv_at hl 3 rfl) ?_
    refine q_ial C w (eA3 hE).1 (eA3 hE).2 h.1 dX0_takerBitsAt_18 ?_
    replace h := h.2
    refine lv_iload_n C.1.1 C.1.2.1 dX0_takerBitsAt_19 rfl (lv_at hl 1 rfl) ?_
    have J : ∀ ls : Array Slot, lv_has ls 4 [(0, .ref (ga g o)), (1, .int x1), (3, .int x3)] → W p l e (rmOf 0 0) s m args below meth c H locs 0 0 (MQ below (va_Qi (fun r M9 => M9 = M ∧ Q r) (PostW g layX 68) (gF g)) args s 0 0 (gF g)) (F0 m 30 ls [.int (if (M (o + 4) x3.toNatClampNeg) = x1 then (sl 1 x3) else 0), .int x2]) := by
      intro ls hl
      refine lv_ior C.1.1 C.1.2.1 dX0_takerBitsAt_30 ?_
      refine lv_topi (fun v3 ev3 => ?_)
      replace h := h v3 ev3
      refine lv_istore_n (lv' := [(2, .int v3), (0, .ref (ga g o)), (1, .int x1), (3, .int x3)]) C.1.1 C.1.2.1 dX0_takerBitsAt_31 rfl hl (by decide) rfl (fun ls hl => ?_)
      refine lv_iinc (v := x3 + 1) (lv' := [(3, .int (x3 + 1)), (2, .int v3), (0, .ref (ga g o)), (1, .int x1)]) C.1.1 C.1.2.1 dX0_takerBitsAt_32 hl (k := 3) rfl rfl (by decide) rfl (fun ls hl => ?_)
      refine lv_goto (tgt := 4) C.1.1 C.1.2.1 dX0_takerBitsAt_35 (by decide) ?_
      exact hK4 _ _ _ _ _ h w (lv_sub hl [2, 3, 1, 0] rfl)
    refine lv_icmp_ne (tgt := 29) C.1.1 C.1.2.1 dX0_takerBitsAt_20 (by decide) (fun hc2 => ?_) (fun hc2 => ?_)
    · refine lv_iconst (v := 0) C.1.1 C.1.2.1 dX0_takerBitsAt_29 (by decide) ?_
      simp only [if_neg hc2] at J hl
      exact J ls (lv_sub hl [0, 1, 3] rfl)
    · refine lv_iconst (v := 1) C.1.1 C.1.2.1 dX0_takerBitsAt_23 (by decide) ?_
      refine lv_iload_n C.1.1 C.1.2.1 dX0_takerBitsAt_24 rfl (lv_at hl 3 rfl) ?_
      refine q_ishl C dX0_takerBitsAt_25 ?_
      refine lv_goto (tgt := 30) C.1.1 C.1.2.1 dX0_takerBitsAt_26 (by decide) ?_
      simp only [if_pos hc2] at J hl
      exact J ls (lv_sub hl [0, 1, 3] rfl)
set_option maxHeartbeats 4000000 in
set_option maxRecDepth 100000 in
theorem l_X0_takerBitsAt_4 {o : Nat} {x1 : Int32} {M : Mem} {Q : Int32 → Prop} (C : Cx p s m args c cX0_takerBitsAt 4 RX0 g) (hr : meth.sig.returnType = (some .int)) (hk : meth.locks = false) (hE : isE o)  : ∀ (n : Nat) (x2 : Int32) (x3 : Int32) (H : Heap) (locs : List Loc) (ls : Array Slot), fu2 (w_X0_takerBitsAt_4 o x1 M Q) n x2 x3 → Wd g layX 68 s.heap M H locs → lv_has ls 4 [(0, .ref (ga g o)), (1, .int x1), (2, .int x2), (3, .int x3)] → W p l e (rmOf 0 0) s m args below meth c H locs 0 0 (MQ below (va_Qi (fun r M9 => M9 = M ∧ Q r) (PostW g layX 68) (gF g)) args s 0 0 (gF g)) (F0 m 4 ls []) := by
  intro n
  induction n with
  | zero => intro x2 x3 H locs ls h; exact h.elim
  | succ n ih => intro x2 x3 H locs ls h w hl; exact v_X0_takerBitsAt_4 C hr hk hE  ih h w hl
set_option maxHeartbeats 4000000 in
set_option maxRecDepth 100000 in
theorem c_X0_takerBitsAt {l : Launch} {g : Gt} {o : Nat} {x1 : Int32} {M : Mem} {Q : Int32 → Prop} (hE : isE o) (h : w_X0_takerBitsAt o x1 M Q) : MI l yX0_takerBitsAt cX0_takerBitsAt 4 (some .int) 0 0 g layX 68 [.ref (ga g o), .int x1] M (fun r M9 => M9 = M ∧ Q r) :=
  m_of (by decide +kernel) (Nat.le_of_ble_eq_true rfl) (fun p e s m args below meth c ls C hr hk w hl => by
    have C : Cx p s m args c cX0_takerBitsAt 4 RX0 g := C
    have hl : lv_has ls 4 [(0, .ref (ga g o)), (1, .int x1)] := hl
    unfold w_X0_takerBitsAt at h
    obtain ⟨H, eH⟩ : ∃ H : Heap, H = s.heap := ⟨_, rfl⟩
    obtain ⟨locs, el⟩ : ∃ locs : List Loc, locs = [] := ⟨_, rfl⟩
    have w : Wd g layX 68 s.heap M H locs := by rw [eH, el]; exact w
    suffices hw : W p l e (rmOf 0 0) s m args below meth c H locs 0 0 (MQ below (va_Qi (fun r M9 => M9 = M ∧ Q r) (PostW g layX 68) (gF g)) args s 0 0 (gF g)) (F0 m 0 ls []) by rw [eH, el] at hw; exact hw
    clear eH el
    refine lv_iconst (v := 0) C.1.1 C.1.2.1 dX0_takerBitsAt_0 (by decide) ?_
    refine lv_istore_n (lv' := [(2, .int 0), (0, .ref (ga g o)), (1, .int x1)]) C.1.1 C.1.2.1 dX0_takerBitsAt_1 rfl hl (by decide) rfl (fun ls hl => ?_)
    refine lv_iconst (v := 0) C.1.1 C.1.2.1 dX0_takerBitsAt_2 (by decide) ?_
    refine lv_istore_n (lv' := [(3, .int 0), (2, .int 0), (0, .ref (ga g o)), (1, .int x1)]) C.1.1 C.1.2.1 dX0_takerBitsAt_3 rfl hl (by decide) rfl (fun ls hl => ?_)
    obtain ⟨n, h⟩ := h
    exact l_X0_takerBitsAt_4 C hr hk hE  n _ _ _ _ _ h w (lv_sub hl [2, 3, 1, 0] rfl))
-- keeperBitsAt
set_option maxHeartbeats 4000000 in
set_option maxRecDepth 100000 in
theorem v_X0_keeperBitsAt_4 {o : Nat} {x1 : Int32} {x2 : Int32} {x3 : Int32} {M : Mem} {K4 : Int32 → Int32 → Prop} {Q : Int32 → Prop} {H : Heap} {locs : List Loc} {ls : Array Slot} (C : Cx p s m args c cX0_keeperBitsAt 4 RX0 g) (hr : meth.sig.returnType = (some .int)) (hk : meth.locks = false) (hE : isE o) (hK4 : ∀ (x2 : Int32) (x3 : Int32) (H : Heap) (locs : List Loc) (ls : Array Slot), K4 x2 x3 → Wd g layX 68 s.heap M H locs → lv_has ls 4 [(0, .ref (ga g o)), (1, .int x1), (2, .int x2), (3, .int x3)] → W p l e (rmOf 1 21) s m args below meth c H locs 0 0 (MQ below (va_Qi (fun r M9 => M9 = M ∧ Q r) (PostW g layX 68) (gF g)) args s 0 0 (gF g)) (F0 m 4 ls [])) (h : w_X0_keeperBitsAt_4 o x1 M Q K4 x2 x3) (w : Wd g layX 68 s.heap M H locs) (hl : lv_has ls 4 [(0, .ref (ga g o)), (1, .int x1), (2, .int x2), (3, .int x3)]) : W p l e (rmOf 1 21) s m args below meth c H locs 0 0 (MQ below (va_Qi (fun r M9 => M9 = M ∧ Q r) (PostW g layX 68) (gF g)) args s 0 0 (gF g)) (F0 m 4 ls []) := by
  unfold w_X0_keeperBitsAt_4 at h
  refine lv_iload_n C.1.1 C.1.2.1 dX0_keeperBitsAt_4 rfl (lv_at hl 3 rfl) ?_
  refine lv_aload_n C.1.1 C.1.2.1 dX0_keeperBitsAt_5 rfl (lv_at hl 0 rfl) ?_
  refine gi_RX0_44 C w (eO hE) (eL hE) rfl dX0_keeperBitsAt_6 ?_
  refine lv_icmp_ge (tgt := 37) C.1.1 C.1.2.1 dX0_keeperBitsAt_9 (by decide) (fun hc1 => ?_) (fun hc1 => ?_)
  · replace h := h.1 hc1
    refine lv_iload_n C.1.1 C.1.2.1 dX0_keeperBitsAt_37 rfl (lv_at hl 2 rfl) ?_
    exact q_iret C hr hk w rfl ⟨rfl, h⟩ dX0_keeperBitsAt_38
  · replace h := h.2 hc1
    refine lv_iload_n C.1.1 C.1.2.1 dX0_keeperBitsAt_12 rfl (lv_at hl 2 rfl) ?_
    refine lv_aload_n C.1.1 C.1.2.1 dX0_keeperBitsAt_13 rfl (lv_at hl 0 rfl) ?_
    refine lv_iload_n C.1.1 C.1.2.1 dX0_keeperBitsAt_14 rfl (lv_at hl 3 rfl) ?_
    refine q_pVi C w [.int x3] (c_X0_placeOf hE h) kv_X0_placeOf k_3 (rcv C w kc_X0 (eO hE) (eL hE)) rfl hl.1 (Nat.le_of_ble_eq_true rfl) ⟨Nat.le_of_ble_eq_true rfl, Nat.le_of_ble_eq_true rfl⟩ dX0_keeperBitsAt_15 (fun r2 H locs h w => ?_)
    refine lv_iload_n C.1.1 C.1.2.1 dX0_keeperBitsAt_18 rfl (lv_at hl 1 rfl) ?_
    have J : ∀ ls : Array Slot, lv_has ls 4 [(0, .ref (ga g o)), (1, .int x1), (3, .int x3)] → W p l e (rmOf 1 21) s m args below meth c H locs 0 0 (MQ below (va_Qi (fun r M9 => M9 = M ∧ Q r) (PostW g layX 68) (gF g)) args s 0 0 (gF g)) (F0 m 29 ls [.int (if r2 = x1 then (sl 1 x3) else 0), .int x2]) := by
      intro ls hl
      refine lv_ior C.1.1 C.1.2.1 dX0_keeperBitsAt_29 ?_
      refine lv_istore_n (lv' := [(2, .int (x2 ||| (if r2 = x1 then (sl 1 x3) else 0))), (0, .ref (ga g o)), (1, .int x1), (3, .int x3)]) C.1.1 C.1.2.1 dX0_keeperBitsAt_30 rfl hl (by decide) rfl (fun ls hl => ?_)
      refine lv_iinc (v := x3 + 1) (lv' := [(3, .int (x3 + 1)), (2, .int (x2 ||| (if r2 = x1 then (sl 1 x3) else 0))), (0, .ref (ga g o)), (1, .int x1)]) C.1.1 C.1.2.1 dX0_keeperBitsAt_31 hl (k := 3) rfl rfl (by decide) rfl (fun ls hl => ?_)
      refine lv_goto (tgt := 4) C.1.1 C.1.2.1 dX0_keeperBitsAt_34 (by decide) ?_
      exact hK4 _ _ _ _ _ h w (lv_sub hl [2, 3, 1, 0] rfl)
    refine lv_icmp_ne (tgt := 28) C.1.1 C.1.2.1 dX0_keeperBitsAt_19 (by decide) (fun hc3 => ?_) (fun hc3 => ?_)
    · refine lv_iconst (v := 0) C.1.1 C.1.2.1 dX0_keeperBitsAt_28 (by decide) ?_
      simp only [if_neg hc3] at J hl
      exact J ls (lv_sub hl [0, 1, 3] rfl)
    · refine lv_iconst (v := 1) C.1.1 C.1.2.1 dX0_keeperBitsAt_22 (by decide) ?_
      refine lv_iload_n C.1.1 C.1.2.1 dX0_keeperBitsAt_23 rfl (lv_at hl 3 rfl) ?_
      refine q_ishl C dX0_keeperBitsAt_24 ?_
      refine lv_goto (tgt := 29) C.1.1 C.1.2.1 dX0_keeperBitsAt_25 (by decide) ?_
      simp only [if_pos hc3] at J hl
      exact J ls (lv_sub hl [0, 1, 3] rfl)
set_option maxHeartbeats 4000000 in
set_option maxRecDepth 100000 in
theorem l_X0_keeperBitsAt_4 {o : Nat} {x1 : Int32} {M : Mem} {Q : Int32 → Prop} (C : Cx p s m args c cX0_keeperBitsAt 4 RX0 g) (hr : meth.sig.returnType = (some .int)) (hk : meth.locks = false) (hE : isE o)  : ∀ (n : Nat) (x2 : Int32) (x3 : Int32) (H : Heap) (locs : List Loc) (ls : Array Slot), fu2 (w_X0_keeperBitsAt_4 o x1 M Q) n x2 x3 → Wd g layX 68 s.heap M H locs → lv_has ls 4 [(0, .ref (ga g o)), (1, .int x1), (2, .int x2), (3, .int x3)] → W p l e (rmOf 1 21) s m args below meth c H locs 0 0 (MQ below (va_Qi (fun r M9 => M9 = M ∧ Q r) (PostW g layX 68) (gF g)) args s 0 0 (gF g)) (F0 m 4 ls []) := by
  intro n
  induction n with
  | zero => intro x2 x3 H locs ls h; exact h.elim
  | succ n ih => intro x2 x3 H locs ls h w hl; exact v_X0_keeperBitsAt_4 C hr hk hE  ih h w hl
set_option maxHeartbeats 4000000 in
set_option maxRecDepth 100000 in
theorem c_X0_keeperBitsAt {l : Launch} {g : Gt} {o : Nat} {x1 : Int32} {M : Mem} {Q : Int32 → Prop} (hE : isE o) (h : w_X0_keeperBitsAt o x1 M Q) : MI l yX0_keeperBitsAt cX0_keeperBitsAt 4 (some .int) 1 21 g layX 68 [.ref (ga g o), .int x1] M (fun r M9 => M9 = M ∧ Q r) :=
  m_of (by decide +kernel) (Nat.le_of_ble_eq_true rfl) (fun p e s m args below meth c ls C hr hk w hl => by
    have C : Cx p s m args c cX0_keeperBitsAt 4 RX0 g := C
    have hl : lv_has ls 4 [(0, .ref (ga g o)), (1, .int x1)] := hl
    unfold w_X0_keeperBitsAt at h
    obtain ⟨H, eH⟩ : ∃ H : Heap, H = s.heap := ⟨_, rfl⟩
    obtain ⟨locs, el⟩ : ∃ locs : List Loc, locs = [] := ⟨_, rfl⟩
    have w : Wd g layX 68 s.heap M H locs := by rw [eH, el]; exact w
    suffices hw : W p l e (rmOf 1 21) s m args below meth c H locs 0 0 (MQ below (va_Qi (fun r M9 => M9 = M ∧ Q r) (PostW g layX 68) (gF g)) args s 0 0 (gF g)) (F0 m 0 ls []) by rw [eH, el] at hw; exact hw
    clear eH el
    refine lv_iconst (v := 0) C.1.1 C.1.2.1 dX0_keeperBitsAt_0 (by decide) ?_
    refine lv_istore_n (lv' := [(2, .int 0), (0, .ref (ga g o)), (1, .int x1)]) C.1.1 C.1.2.1 dX0_keeperBitsAt_1 rfl hl (by decide) rfl (fun ls hl => ?_)
    refine lv_iconst (v := 0) C.1.1 C.1.2.1 dX0_keeperBitsAt_2 (by decide) ?_
    refine lv_istore_n (lv' := [(3, .int 0), (2, .int 0), (0, .ref (ga g o)), (1, .int x1)]) C.1.1 C.1.2.1 dX0_keeperBitsAt_3 rfl hl (by decide) rfl (fun ls hl => ?_)
    obtain ⟨n, h⟩ := h
    exact l_X0_keeperBitsAt_4 C hr hk hE  n _ _ _ _ _ h w (lv_sub hl [2, 3, 1, 0] rfl))
end
