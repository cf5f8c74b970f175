-- clear
def w_X1_clear (M : Mem) (Q : Mem → Prop) : Prop :=
  ∀ M1, M1 = mu M 29 1 0 → Q M1
-- bitCount
def w_J6_bitCount_0f7a4 (x0 : Int32) (M : Mem) (Q : Int32 → Prop) : Prop :=
  ∀ v1 : Int32, v1 = (((x0 - ((su x0 1) &&& 1431655765)) &&& 858993459) + ((su (x0 - ((su x0 1) &&& 1431655765)) 2) &&& 858993459)) → ∀ v2 : Int32, v2 = (((v1 + (su v1 4)) &&& 252645135) + (su ((v1 + (su v1 4)) &&& 252645135) 8)) → Q ((v2 + (su v2 16)) &&& 63)
-- passOne
def w_X6_passOne (x1 : Int32) (M : Mem) (Q : Mem → Prop) : Prop :=
  w_X0_passNight 12 x1 M (fun r1 M2 => ∀ M3, M3 = mu M2 11 2 ((M 11 2) + r1) → ∀ M4, M4 = mu M3 11 1 ((M3 11 1) + 1) → w_J6_bitCount_0f7a4 (M4 12 13) M4 (fun r5 => ∀ M6, M6 = mu M4 11 3 ((M4 11 3) + r5) → ∀ M7, M7 = mu M6 11 4 ((M6 11 4) ||| (M4 12 13)) → ((M4 12 13) = 0 → Q M7) ∧ (¬ (M4 12 13) = 0 → ((M7 11 5) = 0 → ∀ M10, M10 = mu M7 11 5 (M7 11 1) → Q M10) ∧ (¬ (M7 11 5) = 0 → Q M7))))
-- add
def w_X1_add_55 (M : Mem) (Q : Mem → Prop) : Prop :=
  ∀ M3, M3 = mu M 29 1 ((M 29 1) + 1) → Q M3
def w_X1_add_12 (Q : Mem → Prop) (K12 : Int32 → Mem → Prop) (x2 : Int32) (M : Mem) : Prop :=
  (20 < x2 → w_X1_add_55 M Q) ∧ (¬ 20 < x2 → vp_in (M 29 1) 6 ∧ cpOk 0 (x2 * 6) 6 6 126 ∧ ∀ M5, M5 = mc M 13 0 (rowI (M 29 1).toNatClampNeg) (x2 * 6) 6 → w_X6_passOne 0 M5 (fun M7 => K12 (x2 + 1) M7))
def w_X1_add (M : Mem) (Q : Mem → Prop) : Prop :=
  ((M 29 1) < 6 → ∃ n, fu2 (w_X1_add_12 Q) n 0 M) ∧ (¬ (M 29 1) < 6 → Q M)
-- leftAtWorst
def w_X1_leftAtWorst_74 (x3 : Int32) (x4 : Int32) (x5 : Int32) (x6 : Int32) (M : Mem) (K13 : Int32 → Int32 → Prop) (Q : Int32 → Prop) : Prop :=
  K13 (if x4 < x6 then x6 else x4) (x5 + 1)
def w_X1_leftAtWorst_28 (x3 : Int32) (x4 : Int32) (x5 : Int32) (M : Mem) (K13 : Int32 → Int32 → Prop) (Q : Int32 → Prop) (K28 : Int32 → Int32 → Prop) (x6 : Int32) (x7 : Int32) : Prop :=
  ((M 29 1) ≤ x7 → w_X1_leftAtWorst_74 x3 x4 x5 x6 M K13 Q) ∧ (¬ (M 29 1) ≤ x7 → vp_in x5 6 ∧ vp_in x3 126 ∧ vp_in x7 6 ∧ vp_in x3 126 ∧ ∀ v6 : Int32, v6 = (x6 + (if (M (rowI x5.toNatClampNeg) x3.toNatClampNeg) = (M (rowI x7.toNatClampNeg) x3.toNatClampNeg) then (1 : Int32) else 0)) → K28 v6 (x7 + 1))
def w_X1_leftAtWorst_13 (x3 : Int32) (M : Mem) (Q : Int32 → Prop) (K13 : Int32 → Int32 → Prop) (x4 : Int32) (x5 : Int32) : Prop :=
  ((M 29 1) ≤ x5 → Q x4) ∧ (¬ (M 29 1) ≤ x5 → ∃ n, fu2 (w_X1_leftAtWorst_28 x3 x4 x5 M K13 Q) n 0 0)
def w_X1_leftAtWorst (x1 : Int32) (x2 : Int32) (M : Mem) (Q : Int32 → Prop) : Prop :=
  ∃ n, fu2 (w_X1_leftAtWorst_13 ((x1 * 6) + x2) M Q) n 0 0
-- isNothing
def w_X2_isNothing (o : Nat) (M : Mem) (Q : Int32 → Prop) : Prop :=
  narrow .boolean (.int (if (M o 2) = (-1) then (1 : Int32) else 0)) = .int (if (M o 2) = (-1) then (1 : Int32) else 0) ∧ Q (if (M o 2) = (-1) then (1 : Int32) else 0)
-- renew
def w_X2_renew_12 (o : Nat) (Q : Mem → Prop) (K12 : Int32 → Mem → Prop) (x3 : Int32) (M : Mem) : Prop :=
  (40 ≤ x3 → Q M) ∧ (¬ 40 ≤ x3 → vp_in x3 40 ∧ ∀ M4, M4 = mu M (o + 1) x3.toNatClampNeg 0 → K12 (x3 + 1) M4)
def w_X2_renew (o : Nat) (x1 : Int32) (x2 : Int32) (M : Mem) (Q : Mem → Prop) : Prop :=
  ∀ M1, M1 = mu M o 2 x1 → ∀ M2, M2 = mu M1 o 1 x2 → ∃ n, fu2 (w_X2_renew_12 o Q) n 0 M2
-- lacks
def w_X2_lacks (o : Nat) (x1 : Int32) (M : Mem) (Q : Int32 → Prop) : Prop :=
  narrow .boolean (.int (if x1 < 0 then (1 : Int32) else (if x1 < (M o 1) then (0 : Int32) else 1))) = .int (if x1 < 0 then (1 : Int32) else (if x1 < (M o 1) then (0 : Int32) else 1)) ∧ Q (if x1 < 0 then (1 : Int32) else (if x1 < (M o 1) then (0 : Int32) else 1))
-- put
def w_X2_put (o : Nat) (x1 : Int32) (x2 : Int32) (M : Mem) (Q : Int32 → Mem → Prop) : Prop :=
  w_X2_lacks o x1 M (fun r1 => (r1 = 0 → vp_in x1 40 ∧ ∀ M5, M5 = mu M (o + 1) x1.toNatClampNeg (if (M o 2) = 0 then (x2.toInt8.toInt32) else (if (M o 2) = 1 then (x2.toInt16.toInt32) else x2)) → Q 1 M5) ∧ (¬ r1 = 0 → Q 0 M))
-- faultAs
def w_X2_faultAs (o : Nat) (x1 : Int32) (M : Mem) (Q : Int32 → Prop) : Prop :=
  w_X2_isNothing o M (fun r1 => (r1 = 0 → Q (if (M o 2) = x1 then (0 : Int32) else 3)) ∧ (¬ r1 = 0 → Q 1))
-- add
def w_X3_add (x1 : Int32) (x2 : Int32) (x3 : Int32) (M : Mem) (Q : Int32 → Mem → Prop) : Prop :=
  ((M 25 3) < 6 → vp_in (M 25 3) 6 ∧ ∀ M2, M2 = mu M 26 (M 25 3).toNatClampNeg x1 → vp_in (M2 25 3) 6 ∧ ∀ M3, M3 = mu M2 27 (M2 25 3).toNatClampNeg x2 → vp_in (M3 25 3) 6 ∧ ∀ M4, M4 = mu M3 28 (M3 25 3).toNatClampNeg x3 → ∀ M5, M5 = mu M4 25 3 ((M4 25 3) + 1) → Q 1 M5) ∧ (¬ (M 25 3) < 6 → Q 0 M)
-- latestNight
def w_X3_latestNight_4 (M : Mem) (Q : Int32 → Prop) (K4 : Int32 → Int32 → Prop) (x1 : Int32) (x2 : Int32) : Prop :=
  ((M 25 3) ≤ x2 → Q x1) ∧ (¬ (M 25 3) ≤ x2 → vp_in x2 6 ∧ ∀ v2 : Int32, v2 = (if x1 < (M 26 x2.toNatClampNeg) then M 26 x2.toNatClampNeg else x1) → K4 v2 (x2 + 1))
def w_X3_latestNight (M : Mem) (Q : Int32 → Prop) : Prop :=
  ∃ n, fu2 (w_X3_latestNight_4 M Q) n (-1) 0
-- fitBehind
def w_X3_fitBehind_42 (x1 : Int32) (x3 : Int32) (M : Mem) (K2 : Int32 → Prop) (Q : Int32 → Prop) : Prop :=
  K2 (x3 + 1)
def w_X3_fitBehind_2 (x1 : Int32) (M : Mem) (Q : Int32 → Prop) (K2 : Int32 → Prop) (x3 : Int32) : Prop :=
  ((M 25 3) ≤ x3 → Q 1) ∧ (¬ (M 25 3) ≤ x3 → vp_in x3 6 ∧ ((M 26 x3.toNatClampNeg) = x1 → vp_in x3 6 ∧ vp_in (M 27 x3.toNatClampNeg) 6 ∧ vp_in x3 6 ∧ ((M 13 (M 27 x3.toNatClampNeg).toNatClampNeg) = (M 28 x3.toNatClampNeg) → w_X3_fitBehind_42 x1 x3 M K2 Q) ∧ (¬ (M 13 (M 27 x3.toNatClampNeg).toNatClampNeg) = (M 28 x3.toNatClampNeg) → Q 0)) ∧ (¬ (M 26 x3.toNatClampNeg) = x1 → w_X3_fitBehind_42 x1 x3 M K2 Q))
def w_X3_fitBehind (x1 : Int32) (M : Mem) (Q : Int32 → Prop) : Prop :=
  ∃ n, fu1 (w_X3_fitBehind_2 x1 M Q) n 0
-- fit
def w_X3_fit_7 (x2 : Int32) (Q : Int32 → Mem → Prop) (K7 : Int32 → Mem → Prop) (x3 : Int32) (M : Mem) : Prop :=
  (x2 < x3 → Q 1 M) ∧ (¬ x2 < x3 → w_X3_fitBehind x3 M (fun r3 => (r3 = 0 → Q 0 M) ∧ (¬ r3 = 0 → w_X6_passOne 0 M (fun M6 => K7 (x3 + 1) M6))))
def w_X3_fit (M : Mem) (Q : Int32 → Mem → Prop) : Prop :=
  w_X3_latestNight M (fun r1 => ∃ n, fu2 (w_X3_fit_7 r1 Q) n 0 M)
-- append
def w_X4_append (x1 : Int32) (M : Mem) (Q : Int32 → Mem → Prop) : Prop :=
  ((M 22 1) < 160 → vp_in (M 22 1) 160 ∧ ∀ M2, M2 = mu M 23 (M 22 1).toNatClampNeg (vp_nar .byte (x1.toInt8.toInt32)) → ∀ M3, M3 = mu M2 22 1 ((M2 22 1) + 1) → Q 1 M3) ∧ (¬ (M 22 1) < 160 → Q 0 M)
-- isBetween
def w_X4_isBetween (x1 : Int32) (x2 : Int32) (x3 : Int32) (M : Mem) (Q : Int32 → Prop) : Prop :=
  (x1 < 0 → Q 0) ∧ (¬ x1 < 0 → ((M 22 1) ≤ x1 → Q 0) ∧ (¬ (M 22 1) ≤ x1 → vp_in x1 160 ∧ ((M 23 x1.toNatClampNeg) < x2 → Q 0) ∧ (¬ (M 23 x1.toNatClampNeg) < x2 → vp_in x1 160 ∧ (x3 < (M 23 x1.toNatClampNeg) → Q 0) ∧ (¬ x3 < (M 23 x1.toNatClampNeg) → Q 1))))
-- begin
def w_X6_begin (M : Mem) (Q : Mem → Prop) : Prop :=
  w_X0_copyFrom 12 1 M (fun M2 => ∀ M3, M3 = mu M2 11 1 0 → ∀ M4, M4 = mu M3 11 2 0 → ∀ M5, M5 = mu M4 11 3 0 → ∀ M6, M6 = mu M5 11 4 0 → ∀ M7, M7 = mu M6 11 5 0 → Q M7)
-- pass
def w_X6_pass_2 (x1 : Int32) (Q : Mem → Prop) (K2 : Int32 → Mem → Prop) (x2 : Int32) (M : Mem) : Prop :=
  (x1 ≤ x2 → Q M) ∧ (¬ x1 ≤ x2 → w_X6_passOne 0 M (fun M3 => K2 (x2 + 1) M3))
def w_X6_pass (x1 : Int32) (M : Mem) (Q : Mem → Prop) : Prop :=
  ∃ n, fu2 (w_X6_pass_2 x1 Q) n 0 M
-- wasCaught
def w_X6_wasCaught (x1 : Int32) (M : Mem) (Q : Int32 → Prop) : Prop :=
  narrow .boolean (.int (if ((sr (M 11 4) x1) &&& 1) = 1 then (1 : Int32) else 0)) = .int (if ((sr (M 11 4) x1) &&& 1) = 1 then (1 : Int32) else 0) ∧ Q (if ((sr (M 11 4) x1) &&& 1) = 1 then (1 : Int32) else 0)
section
variable {p : Program} {l : Launch} {e : Env} {s : State} {m : MethodId} {args : Array Value} {below : List Frame} {meth : Method} {c : Code} {g : Gt}
-- clear
set_option maxHeartbeats 4000000 in
set_option maxRecDepth 100000 in
theorem c_X1_clear {l : Launch} {g : Gt} {M : Mem} {Q : Mem → Prop} (h : w_X1_clear M Q) : MV l yX1_clear cX1_clear 1 none 0 0 g layX 68 [.ref (ga g 29)] M Q :=
  m_of (by decide +kernel) (Nat.le_of_ble_eq_true rfl) (fun p e s m args below meth c ls C hr hk w hl => by
    have C : Cx p s m args c cX1_clear 1 RX1 g := C
    have hl : lv_has ls 1 [(0, .ref (ga g 29))] := hl
    unfold w_X1_clear at h
    obtain ⟨H, eH⟩ : ∃ H : Heap, H = s.heap := ⟨_, rfl⟩
    obtain ⟨locs, el⟩ : ∃ locs : List Loc, locs = [] := ⟨_, rfl⟩
    have w : Wd g layX 68 s.heap M H locs := by rw [eH, el]; exact w
    suffices hw : W p l e (rmOf 0 0) s m args below meth c H locs 0 0 (MQ below (va_Qv Q (PostW g layX 68) (gF g)) args s 0 0 (gF g)) (F0 m 0 ls []) by rw [eH, el] at hw; exact hw
    clear eH el
    refine lv_aload_n C.1.1 C.1.2.1 dX1_clear_0 rfl (lv_at hl 0 rfl) ?_
    refine lv_iconst (v := 0) C.1.1 C.1.2.1 dX1_clear_1 (by decide) ?_
    refine pi_RX1_18 C w hx_29 lx_29 rfl dX1_clear_2 (fun M1 H locs eM1 w => ?_)
    replace h := h M1 eM1
    exact q_vret C hr hk w h dX1_clear_5)
-- bitCount
set_option maxHeartbeats 4000000 in
set_option maxRecDepth 100000 in
theorem c_J6_bitCount_0f7a4 {l : Launch} {g : Gt} {x0 : Int32} {M : Mem} {Q : Int32 → Prop} (h : w_J6_bitCount_0f7a4 x0 M Q) : MI l yJ6_bitCount_0f7a4 cJ6_bitCount_0f7a4 1 (some .int) 0 0 g layX 68 [.int x0] M (fun r M9 => M9 = M ∧ Q r) :=
  m_of (by decide +kernel) (Nat.le_of_ble_eq_true rfl) (fun p e s m args below meth c ls C hr hk w hl => by
    have C : Cx p s m args c cJ6_bitCount_0f7a4 1 RJ6 g := C
    have hl : lv_has ls 1 [(0, .int x0)] := hl
    unfold w_J6_bitCount_0f7a4 at h
    obtain ⟨H, eH⟩ : ∃ H : Heap, H = s.heap := ⟨_, rfl⟩
    obtain ⟨locs, el⟩ : ∃ locs : List Loc, locs = [] := ⟨_, rfl⟩
    have w : Wd g layX 68 s.heap M H locs := by rw [eH, el]; exact w
    suffices hw : W p l e (rmOf 0 0) s m args below meth c H locs 0 0 (MQ below (va_Qi (fun r M9 => M9 = M ∧ Q r) (PostW g layX 68) (gF g)) args s 0 0 (gF g)) (F0 m 0 ls []) by rw [eH, el] at hw; exact hw
    clear eH el
    refine lv_iload_n C.1.1 C.1.2.1 dJ6_bitCount_0f7a4_0 rfl (lv_at hl 0 rfl) ?_
    refine lv_iload_n C.1.1 C.1.2.1 dJ6_bitCount_0f7a4_1 rfl (lv_at hl 0 rfl) ?_
    refine lv_iconst (v := 1) C.1.1 C.1.2.1 dJ6_bitCount_0f7a4_2 (by decide) ?_
    refine q_iushr C dJ6_bitCount_0f7a4_3 ?_
    refine q_ldcw C k_11 dJ6_bitCount_0f7a4_4 ?_
    refine lv_iand C.1.1 C.1.2.1 dJ6_bitCount_0f7a4_7 ?_
    refine lv_isub C.1.1 C.1.2.1 dJ6_bitCount_0f7a4_8 ?_
    refine lv_istore_n (lv' := [(0, .int (x0 - ((su x0 1) &&& 1431655765)))]) C.1.1 C.1.2.1 dJ6_bitCount_0f7a4_9 rfl hl (by decide) rfl (fun ls hl => ?_)
    refine lv_iload_n C.1.1 C.1.2.1 dJ6_bitCount_0f7a4_10 rfl (lv_at hl 0 rfl) ?_
    refine q_ldcw C k_12 dJ6_bitCount_0f7a4_11 ?_
    refine lv_iand C.1.1 C.1.2.1 dJ6_bitCount_0f7a4_14 ?_
    refine lv_iload_n C.1.1 C.1.2.1 dJ6_bitCount_0f7a4_15 rfl (lv_at hl 0 rfl) ?_
    refine lv_iconst (v := 2) C.1.1 C.1.2.1 dJ6_bitCount_0f7a4_16 (by decide) ?_
    refine q_iushr C dJ6_bitCount_0f7a4_17 ?_
    refine q_ldcw C k_12 dJ6_bitCount_0f7a4_18 ?_
    refine lv_iand C.1.1 C.1.2.1 dJ6_bitCount_0f7a4_21 ?_
    refine lv_iadd C.1.1 C.1.2.1 dJ6_bitCount_0f7a4_22 ?_
    refine lv_topi (fun v1 ev1 => ?_)
    replace h := h v1 ev1
    refine lv_istore_n (lv' := [(0, .int v1)]) C.1.1 C.1.2.1 dJ6_bitCount_0f7a4_23 rfl hl (by decide) rfl (fun ls hl => ?_)
    refine lv_iload_n C.1.1 C.1.2.1 dJ6_bitCount_0f7a4_24 rfl (lv_at hl 0 rfl) ?_
    refine lv_iload_n C.1.1 C.1.2.1 dJ6_bitCount_0f7a4_25 rfl (lv_at hl 0 rfl) ?_
    refine lv_iconst (v := 4) C.1.1 C.1.2.1 dJ6_bitCount_0f7a4_26 (by decide) ?_
    refine q_iushr C dJ6_bitCount_0f7a4_27 ?_
    refine lv_iadd C.1.1 C.1.2.1 dJ6_bitCount_0f7a4_28 ?_
    refine q_ldcw C k_13 dJ6_bitCount_0f7a4_29 ?_
    refine lv_iand C.1.1 C.1.2.1 dJ6_bitCount_0f7a4_32 ?_
    refine lv_istore_n (lv' := [(0, .int ((v1 + (su v1 4)) &&& 252645135))]) C.1.1 C.1.2.1 dJ6_bitCount_0f7a4_33 rfl hl (by decide) rfl (fun ls hl => ?_)
    refine lv_iload_n C.1.1 C.1.2.1 dJ6_bitCount_0f7a4_34 rfl (lv_at hl 0 rfl) ?_
    refine lv_iload_n C.1.1 C.1.2.1 dJ6_bitCount_0f7a4_35 rfl (lv_at hl 0 rfl) ?_
    refine lv_bipush (v := 8) C.1.1 C.1.2.1 dJ6_bitCount_0f7a4_36 (by decide) ?_
    refine q_iushr C dJ6_bitCount_0f7a4_38 ?_
    refine lv_iadd C.1.1 C.1.2.1 dJ6_bitCount_0f7a4_39 ?_
    refine lv_topi (fun v2 ev2 => ?_)
    replace h := h v2 ev2
    refine lv_istore_n (lv' := [(0, .int v2)]) C.1.1 C.1.2.1 dJ6_bitCount_0f7a4_40 rfl hl (by decide) rfl (fun ls hl => ?_)
    refine lv_iload_n C.1.1 C.1.2.1 dJ6_bitCount_0f7a4_41 rfl (lv_at hl 0 rfl) ?_
    refine lv_iload_n C.1.1 C.1.2.1 dJ6_bitCount_0f7a4_42 rfl (lv_at hl 0 rfl) ?_
    refine lv_bipush (v := 16) C.1.1 C.1.2.1 dJ6_bitCount_0f7a4_43 (by decide) ?_
    refine q_iushr C dJ6_bitCount_0f7a4_45 ?_
    refine lv_iadd C.1.1 C.1.2.1 dJ6_bitCount_0f7a4_46 ?_
    refine lv_istore_n (lv' := [(0, .int (v2 + (su v2 16)))]) C.1.1 C.1.2.1 dJ6_bitCount_0f7a4_47 rfl hl (by decide) rfl (fun ls hl => ?_)
    refine lv_iload_n C.1.1 C.1.2.1 dJ6_bitCount_0f7a4_48 rfl (lv_at hl 0 rfl) ?_
    refine lv_bipush (v := 63) C.1.1 C.1.2.1 dJ6_bitCount_0f7a4_49 (by decide) ?_
    refine lv_iand C.1.1 C.1.2.1 dJ6_bitCount_0f7a4_51 ?_
    exact q_iret C hr hk w rfl ⟨rfl, h⟩ dJ6_bitCount_0f7a4_52)
-- passOne
set_option maxHeartbeats 4000000 in
set_option maxRecDepth 100000 in
theorem c_X6_passOne {l : Launch} {g : Gt} {x1 : Int32} {M : Mem} {Q : Mem → Prop} (h : w_X6_passOne x1 M Q) : MV l yX6_passOne cX6_passOne 3 none 3 67 g layX 68 [.ref (ga g 11), .int x1] M Q :=
  m_of (by decide +kernel) (Nat.le_of_ble_eq_true rfl) (fun p e s m args below meth c ls C hr hk w hl => by
    have C : Cx p s m args c cX6_passOne 3 RX6 g := C
    have hl : lv_has ls 3 [(0, .ref (ga g 11)), (1, .int x1)] := hl
    unfold w_X6_passOne at h
    obtain ⟨H, eH⟩ : ∃ H : Heap, H = s.heap := ⟨_, rfl⟩
    obtain ⟨locs, el⟩ : ∃ locs : List Loc, locs = [] := ⟨_, rfl⟩
    have w : Wd g layX 68 s.heap M H locs := by rw [eH, el]; exact w
    suffices hw : W p l e (rmOf 3 67) s m args below meth c H locs 0 0 (MQ below (va_Qv Q (PostW g layX 68) (gF g)) args s 0 0 (gF g)) (F0 m 0 ls []) by rw [eH, el] at hw; exact hw
    clear eH el
    refine lv_aload_n C.1.1 C.1.2.1 dX6_passOne_0 rfl (lv_at hl 0 rfl) ?_
    refine lv_dup C.1.1 C.1.2.1 dX6_passOne_1 rfl ?_
    refine gi_RX6_24 C w hx_11 lx_11 rfl dX6_passOne_2 ?_
    refine lv_aload_n C.1.1 C.1.2.1 dX6_passOne_5 rfl (lv_at hl 0 rfl) ?_
    refine gr_RX6_10 C w hx_11 lx_11 rfl dX6_passOne_6 ?_
    refine lv_iload_n C.1.1 C.1.2.1 dX6_passOne_9 rfl (lv_at hl 1 rfl) ?_
    refine q_cVi C w [.int x1] (c_X0_passNight isE_12 h) kv_X0_passNight k_14 (rcv C w kc_X0 hx_12 lx_12) rfl hl.1 (Nat.le_of_ble_eq_true rfl) ⟨Nat.le_of_ble_eq_true rfl, Nat.le_of_ble_eq_true rfl⟩ dX6_passOne_10 (fun r1 M2 H locs h w => ?_)
    refine lv_iadd C.1.1 C.1.2.1 dX6_passOne_13 ?_
    refine pi_RX6_24 C w hx_11 lx_11 rfl dX6_passOne_14 (fun M3 H locs eM3 w => ?_)
    replace h := h M3 eM3
    refine lv_aload_n C.1.1 C.1.2.1 dX6_passOne_17 rfl (lv_at hl 0 rfl) ?_
    refine lv_dup C.1.1 C.1.2.1 dX6_passOne_18 rfl ?_
    refine gi_RX6_20 C w hx_11 lx_11 rfl dX6_passOne_19 ?_
    refine lv_iconst (v := 1) C.1.1 C.1.2.1 dX6_passOne_22 (by decide) ?_
    refine lv_iadd C.1.1 C.1.2.1 dX6_passOne_23 ?_
    refine pi_RX6_20 C w hx_11 lx_11 rfl dX6_passOne_24 (fun M4 H locs eM4 w => ?_)
    replace h := h M4 eM4
    refine lv_aload_n C.1.1 C.1.2.1 dX6_passOne_27 rfl (lv_at hl 0 rfl) ?_
    refine gr_RX6_10 C w hx_11 lx_11 rfl dX6_passOne_28 ?_
    refine gi_RX6_44 C w hx_12 lx_12 rfl dX6_passOne_31 ?_
    refine lv_istore_n (lv' := [(2, .int (M4 12 13)), (0, .ref (ga g 11)), (1, .int x1)]) C.1.1 C.1.2.1 dX6_passOne_34 rfl hl (by decide) rfl (fun ls hl => ?_)
    refine lv_aload_n C.1.1 C.1.2.1 dX6_passOne_35 rfl (lv_at hl 1 rfl) ?_
    refine lv_dup C.1.1 C.1.2.1 dX6_passOne_36 rfl ?_
    refine gi_RX6_27 C w hx_11 lx_11 rfl dX6_passOne_37 ?_
    refine lv_iload_n C.1.1 C.1.2.1 dX6_passOne_40 rfl (lv_at hl 0 rfl) ?_
    refine q_pSi C w [.int (M4 12 13)] (c_J6_bitCount_0f7a4  h) ks_J6_bitCount_0f7a4 k_15  rfl hl.1 (Nat.le_of_ble_eq_true rfl) ⟨Nat.le_of_ble_eq_true rfl, Nat.le_of_ble_eq_true rfl⟩ dX6_passOne_41 (fun r5 H locs h w => ?_)
    refine lv_iadd C.1.1 C.1.2.1 dX6_passOne_44 ?_
    refine pi_RX6_27 C w hx_11 lx_11 rfl dX6_passOne_45 (fun M6 H locs eM6 w => ?_)
    replace h := h M6 eM6
    refine lv_aload_n C.1.1 C.1.2.1 dX6_passOne_48 rfl (lv_at hl 1 rfl) ?_
    refine lv_dup C.1.1 C.1.2.1 dX6_passOne_49 rfl ?_
    refine gi_RX6_30 C w hx_11 lx_11 rfl dX6_passOne_50 ?_
    refine lv_iload_n C.1.1 C.1.2.1 dX6_passOne_53 rfl (lv_at hl 0 rfl) ?_
    refine lv_ior C.1.1 C.1.2.1 dX6_passOne_54 ?_
    refine pi_RX6_30 C w hx_11 lx_11 rfl dX6_passOne_55 (fun M7 H locs eM7 w => ?_)
    replace h := h M7 eM7
    refine lv_iload_n C.1.1 C.1.2.1 dX6_passOne_58 rfl (lv_at hl 0 rfl) ?_
    refine lv_if_eq (tgt := 77) C.1.1 C.1.2.1 dX6_passOne_59 (by decide) (fun hc8 => ?_) (fun hc8 => ?_)
    · replace h := h.1 hc8
      exact q_vret C hr hk w h dX6_passOne_77
    · replace h := h.2 hc8
      refine lv_aload_n C.1.1 C.1.2.1 dX6_passOne_62 rfl (lv_at hl 1 rfl) ?_
      refine gi_RX6_33 C w hx_11 lx_11 rfl dX6_passOne_63 ?_
      refine lv_if_ne (tgt := 77) C.1.1 C.1.2.1 dX6_passOne_66 (by decide) (fun hc9 => ?_) (fun hc9 => ?_)
      · replace h := h.2 hc9
        exact q_vret C hr hk w h dX6_passOne_77
      · replace h := h.1 hc9
        refine lv_aload_n C.1.1 C.1.2.1 dX6_passOne_69 rfl (lv_at hl 1 rfl) ?_
        refine lv_aload_n C.1.1 C.1.2.1 dX6_passOne_70 rfl (lv_at hl 1 rfl) ?_
        refine gi_RX6_20 C w hx_11 lx_11 rfl dX6_passOne_71 ?_
        refine pi_RX6_33 C w hx_11 lx_11 rfl dX6_passOne_74 (fun M10 H locs eM10 w => ?_)
        replace h := h M10 eM10
        exact q_vret C hr hk w h dX6_passOne_77)
-- add
set_option maxHeartbeats 4000000 in
set_option maxRecDepth 100000 in
theorem v_X1_add_55 {M : Mem} {Q : Mem → Prop} {H : Heap} {locs : List Loc} {ls : Array Slot} (C : Cx p s m args c cX1_add 3 RX1 g) (hr : meth.sig.returnType = none) (hk : meth.locks = false)  (h : w_X1_add_55 M Q) (w : Wd g layX 68 s.heap M H locs) (hl : lv_has ls 3 [(0, .ref (ga g 29))]) : W p l e (rmOf 4 89) s m args below meth c H locs 0 0 (MQ below (va_Qv Q (PostW g layX 68) (gF g)) args s 0 0 (gF g)) (F0 m 55 ls []) := by
  unfold w_X1_add_55 at h
  refine lv_aload_n C.1.1 C.1.2.1 dX1_add_55 rfl (lv_at hl 0 rfl) ?_
  refine lv_dup C.1.1 C.1.2.1 dX1_add_56 rfl ?_
  refine gi_RX1_18 C w hx_29 lx_29 rfl dX1_add_57 ?_
  refine lv_iconst (v := 1) C.1.1 C.1.2.1 dX1_add_60 (by decide) ?_
  refine lv_iadd C.1.1 C.1.2.1 dX1_add_61 ?_
  refine pi_RX1_18 C w hx_29 lx_29 rfl dX1_add_62 (fun M3 H locs eM3 w => ?_)
  replace h := h M3 eM3
  exact q_vret C hr hk w h dX1_add_65
set_option maxHeartbeats 4000000 in
set_option maxRecDepth 100000 in
theorem v_X1_add_12 {x2 : Int32} {M : Mem} {K12 : Int32 → Mem → Prop} {Q : Mem → Prop} {H : Heap} {locs : List Loc} {ls : Array Slot} (C : Cx p s m args c cX1_add 3 RX1 g) (hr : meth.sig.returnType = none) (hk : meth.locks = false) (hK12 : ∀ (x2 : Int32) (M : Mem) (H : Heap) (locs : List Loc) (ls : Array Slot), K12 x2 M → Wd g layX 68 s.heap M H locs → lv_has ls 3 [(0, .ref (ga g 29)), (1, .ref (ga g 11)), (2, .int x2)] → W p l e (rmOf 4 89) s m args below meth c H locs 0 0 (MQ below (va_Qv Q (PostW g layX 68) (gF g)) args s 0 0 (gF g)) (F0 m 12 ls [])) (h : w_X1_add_12 Q K12 x2 M) (w : Wd g layX 68 s.heap M H locs) (hl : lv_has ls 3 [(0, .ref (ga g 29)), (1, .ref (ga g 11)), (2, .int x2)]) : W p l e (rmOf 4 89) s m args below meth c H locs 0 0 (MQ below (va_Qv Q (PostW g layX 68) (gF g)) args s 0 0 (gF g)) (F0 m 12 ls []) := by
  unfold w_X1_add_12 at h
  refine lv_iload_n C.1.1 C.1.2.1 dX1_add_12 rfl (lv_at hl 2 rfl) ?_
  refine lv_bipush (v := 20) C.1.1 C.1.2.1 dX1_add_13 (by decide) ?_
  refine lv_icmp_gt (tgt := 55) C.1.1 C.1.2.1 dX1_add_15 (by decide) (fun hc2 => ?_) (fun hc2 => ?_)
  · replace h := h.1 hc2
    exact v_X1_add_55 C hr hk   h w (lv_sub hl [0] rfl)
  · replace h := h.2 hc2
    refine lv_aload_n C.1.1 C.1.2.1 dX1_add_18 rfl (lv_at hl 1 rfl) ?_
    refine gr_RX1_22 C w hx_11 lx_11 rfl dX1_add_19 ?_
    refine gr_RX1_28 C w hx_12 lx_12 rfl dX1_add_22 ?_
    refine lv_iconst (v := 0) C.1.1 C.1.2.1 dX1_add_25 (by decide) ?_
    refine lv_aload_n C.1.1 C.1.2.1 dX1_add_26 rfl (lv_at hl 0 rfl) ?_
    refine gr_RX1_15 C w hx_29 lx_29 rfl dX1_add_27 ?_
    refine lv_aload_n C.1.1 C.1.2.1 dX1_add_30 rfl (lv_at hl 0 rfl) ?_
    refine gi_RX1_18 C w hx_29 lx_29 rfl dX1_add_31 ?_
    have hi4 := h.1
    replace h := h.2
    refine q_aal C w hx_30 lx_30 (by decide) hi4 dX1_add_34 ?_
    refine lv_iload_n C.1.1 C.1.2.1 dX1_add_35 rfl (lv_at hl 2 rfl) ?_
    refine lv_bipush (v := 6) C.1.1 C.1.2.1 dX1_add_36 (by decide) ?_
    refine lv_imul C.1.1 C.1.2.1 dX1_add_38 ?_
    refine lv_bipush (v := 6) C.1.1 C.1.2.1 dX1_add_39 (by decide) ?_
    refine q_copy C w kCopy_ok k_16 hl.1 hx_13 lx_13 (rA hi4).1 (rA hi4).2 h.1 ⟨Nat.le_of_ble_eq_true rfl, Nat.le_of_ble_eq_true rfl⟩ dX1_add_41 (fun M5 H locs eM5 w => ?_)
    replace h := h.2 M5 eM5
    refine lv_aload_n C.1.1 C.1.2.1 dX1_add_44 rfl (lv_at hl 1 rfl) ?_
    refine lv_iconst (v := 0) C.1.1 C.1.2.1 dX1_add_45 (by decide) ?_
    refine q_cVv C w [.int 0] (c_X6_passOne  h) kv_X6_passOne k_17 (rcv C w kc_X6 hx_11 lx_11) rfl hl.1 (Nat.le_of_ble_eq_true rfl) ⟨Nat.le_of_ble_eq_true rfl, Nat.le_of_ble_eq_true rfl⟩ dX1_add_46 (fun M7 H locs h w => ?_)
    refine lv_iinc (v := x2 + 1) (lv' := [(2, .int (x2 + 1)), (0, .ref (ga g 29)), (1, .ref (ga g 11))]) C.1.1 C.1.2.1 dX1_add_49 hl (k := 2) rfl rfl (by decide) rfl (fun ls hl => ?_)
    refine lv_goto (tgt := 12) C.1.1 C.1.2.1 dX1_add_52 (by decide) ?_
    exact hK12 _ _ _ _ _ h w (lv_sub hl [1, 2, 0] rfl)
set_option maxHeartbeats 4000000 in
set_option maxRecDepth 100000 in
theorem l_X1_add_12 {Q : Mem → Prop} (C : Cx p s m args c cX1_add 3 RX1 g) (hr : meth.sig.returnType = none) (hk : meth.locks = false)  : ∀ (n : Nat) (x2 : Int32) (M : Mem) (H : Heap) (locs : List Loc) (ls : Array Slot), fu2 (w_X1_add_12 Q) n x2 M → Wd g layX 68 s.heap M H locs → lv_has ls 3 [(0, .ref (ga g 29)), (1, .ref (ga g 11)), (2, .int x2)] → W p l e (rmOf 4 89) s m args below meth c H locs 0 0 (MQ below (va_Qv Q (PostW g layX 68) (gF g)) args s 0 0 (gF g)) (F0 m 12 ls []) := by
  intro n
  induction n with
  | zero => intro x2 M H locs ls h; exact h.elim
  | succ n ih => intro x2 M H locs ls h w hl; exact v_X1_add_12 C hr hk   ih h w hl
set_option maxHeartbeats 4000000 in
set_option maxRecDepth 100000 in
theorem c_X1_add {l : Launch} {g : Gt} {M : Mem} {Q : Mem → Prop} (h : w_X1_add M Q) : MV l yX1_add cX1_add 3 none 4 89 g layX 68 [.ref (ga g 29), .ref (ga g 11)] M Q :=
  m_of (by decide +kernel) (Nat.le_of_ble_eq_true rfl) (fun p e s m args below meth c ls C hr hk w hl => by
    have C : Cx p s m args c cX1_add 3 RX1 g := C
    have hl : lv_has ls 3 [(0, .ref (ga g 29)), (1, .ref (ga g 11))] := hl
    unfold w_X1_add at h
    obtain ⟨H, eH⟩ : ∃ H : Heap, H = s.heap := ⟨_, rfl⟩
    obtain ⟨locs, el⟩ : ∃ locs : List Loc, locs = [] := ⟨_, rfl⟩
    have w : Wd g layX 68 s.heap M H locs := by rw [eH, el]; exact w
    suffices hw : W p l e (rmOf 4 89) s m args below meth c H locs 0 0 (MQ below (va_Qv Q (PostW g layX 68) (gF g)) args s 0 0 (gF g)) (F0 m 0 ls []) by rw [eH, el] at hw; exact hw
    clear eH el
    refine lv_aload_n C.1.1 C.1.2.1 dX1_add_0 rfl (lv_at hl 0 rfl) ?_
    refine gi_RX1_18 C w hx_29 lx_29 rfl dX1_add_1 ?_
    refine lv_bipush (v := 6) C.1.1 C.1.2.1 dX1_add_4 (by decide) ?_
    refine lv_icmp_lt (tgt := 10) C.1.1 C.1.2.1 dX1_add_6 (by decide) (fun hc1 => ?_) (fun hc1 => ?_)
    · replace h := h.1 hc1
      refine lv_iconst (v := 0) C.1.1 C.1.2.1 dX1_add_10 (by decide) ?_
      refine lv_istore_n (lv' := [(2, .int 0), (0, .ref (ga g 29)), (1, .ref (ga g 11))]) C.1.1 C.1.2.1 dX1_add_11 rfl hl (by decide) rfl (fun ls hl => ?_)
      obtain ⟨n, h⟩ := h
      exact l_X1_add_12 C hr hk   n _ _ _ _ _ h w (lv_sub hl [1, 2, 0] rfl)
    · replace h := h.2 hc1
      exact q_vret C hr hk w h dX1_add_9)
-- leftAtWorst
set_option maxHeartbeats 4000000 in
set_option maxRecDepth 100000 in
theorem v_X1_leftAtWorst_74 {x3 : Int32} {x4 : Int32} {x5 : Int32} {x6 : Int32} {M : Mem} {K13 : Int32 → Int32 → Prop} {Q : Int32 → Prop} {H : Heap} {locs : List Loc} {ls : Array Slot} (C : Cx p s m args c cX1_leftAtWorst 8 RX1 g) (hr : meth.sig.returnType = (some .int)) (hk : meth.locks = false) (hK13 : ∀ (x4 : Int32) (x5 : Int32) (H : Heap) (locs : List Loc) (ls : Array Slot), K13 x4 x5 → Wd g layX 68 s.heap M H locs → lv_has ls 8 [(0, .ref (ga g 29)), (3, .int x3), (4, .int x4), (5, .int x5)] → W p l e (rmOf 1 21) s m args below meth c H locs 0 0 (MQ below (va_Qi (fun r M9 => M9 = M ∧ Q r) (PostW g layX 68) (gF g)) args s 0 0 (gF g)) (F0 m 13 ls [])) (h : w_X1_leftAtWorst_74 x3 x4 x5 x6 M K13 Q) (w : Wd g layX 68 s.heap M H locs) (hl : lv_has ls 8 [(0, .ref (ga g 29)), (3, .int x3), (4, .int x4), (5, .int x5), (6, .int x6)]) : W p l e (rmOf 1 21) s m args below meth c H locs 0 0 (MQ below (va_Qi (fun r M9 => M9 = M ∧ Q r) (PostW g layX 68) (gF g)) args s 0 0 (gF g)) (F0 m 74 ls []) := by
  unfold w_X1_leftAtWorst_74 at h
  refine lv_iload C.1.1 C.1.2.1 dX1_leftAtWorst_74 (lv_at hl 2 rfl) ?_
  refine lv_iload C.1.1 C.1.2.1 dX1_leftAtWorst_76 (lv_at hl 4 rfl) ?_
  refine q_max C kMax_ok k_18 hl.1 ⟨Nat.le_of_ble_eq_true rfl, Nat.le_of_ble_eq_true rfl⟩ dX1_leftAtWorst_78 ?_
  refine lv_istore (lv' := [(4, .int (if x4 < x6 then x6 else x4)), (0, .ref (ga g 29)), (3, .int x3), (5, .int x5), (6, .int x6)]) C.1.1 C.1.2.1 dX1_leftAtWorst_81 hl (by decide) rfl (fun ls hl => ?_)
  refine lv_iinc (v := x5 + 1) (lv' := [(5, .int (x5 + 1)), (4, .int (if x4 < x6 then x6 else x4)), (0, .ref (ga g 29)), (3, .int x3), (6, .int x6)]) C.1.1 C.1.2.1 dX1_leftAtWorst_83 hl (k := 3) rfl rfl (by decide) rfl (fun ls hl => ?_)
  refine lv_goto (tgt := 13) C.1.1 C.1.2.1 dX1_leftAtWorst_86 (by decide) ?_
  exact hK13 _ _ _ _ _ h w (lv_sub hl [2, 3, 1, 0] rfl)
set_option maxHeartbeats 4000000 in
set_option maxRecDepth 100000 in
theorem v_X1_leftAtWorst_28 {x3 : Int32} {x4 : Int32} {x5 : Int32} {x6 : Int32} {x7 : Int32} {M : Mem} {K13 : Int32 → Int32 → Prop} {K28 : Int32 → Int32 → Prop} {Q : Int32 → Prop} {H : Heap} {locs : List Loc} {ls : Array Slot} (C : Cx p s m args c cX1_leftAtWorst 8 RX1 g) (hr : meth.sig.returnType = (some .int)) (hk : meth.locks = false) (hK13 : ∀ (x4 : Int32) (x5 : Int32) (H : Heap) (locs : List Loc) (ls : Array Slot), K13 x4 x5 → Wd g layX 68 s.heap M H locs → lv_has ls 8 [(0, .ref (ga g 29)), (3, .int x3), (4, .int x4), (5, .int x5)] → W p l e (rmOf 1 21) s m args below meth c H locs 0 0 (MQ below (va_Qi (fun r M9 => M9 = M ∧ Q r) (PostW g layX 68) (gF g)) args s 0 0 (gF g)) (F0 m 13 ls [])) (hK28 : ∀ (x6 : Int32) (x7 : Int32) (H : Heap) (locs : List Loc) (ls : Array Slot), K28 x6 x7 → Wd g layX 68 s.heap M H locs → lv_has ls 8 [(0, .ref (ga g 29)), (3, .int x3), (4, .int x4), (5, .int x5), (6, .int x6), (7, .int x7)] → W p l e (rmOf 1 21) s m args below meth c H locs 0 0 (MQ below (va_Qi (fun r M9 => M9 = M ∧ Q r) (PostW g layX 68) (gF g)) args s 0 0 (gF g)) (F0 m 28 ls [])) (h : w_X1_leftAtWorst_28 x3 x4 x5 M K13 Q K28 x6 x7) (w : Wd g layX 68 s.heap M H locs) (hl : lv_has ls 8 [(0, .ref (ga g 29)), (3, .int x3), (4, .int x4), (5, .int x5), (6, .int x6), (7, .int x7)]) : W p l e (rmOf 1 21) s m args below meth c H locs 0 0 (MQ below (va_Qi (fun r M9 => M9 = M ∧ Q r) (PostW g layX 68) (gF g)) args s 0 0 (gF g)) (F0 m 28 ls []) := by
  unfold w_X1_leftAtWorst_28 at h
  refine lv_iload C.1.1 C.1.2.1 dX1_leftAtWorst_28 (lv_at hl 5 rfl) ?_
  refine lv_aload_n C.1.1 C.1.2.1 dX1_leftAtWorst_30 rfl (lv_at hl 0 rfl) ?_
  refine gi_RX1_18 C w hx_29 lx_29 rfl dX1_leftAtWorst_31 ?_
  refine lv_icmp_ge (tgt := 74) C.1.1 C.1.2.1 dX1_leftAtWorst_34 (by decide) (fun hc2 => ?_) (fun hc2 => ?_)
  · replace h := h.1 hc2
    exact v_X1_leftAtWorst_74 C hr hk  hK13 h w (lv_sub hl [0, 1, 2, 3, 4] rfl)
  · replace h := h.2 hc2
    refine lv_iload C.1.1 C.1.2.1 dX1_leftAtWorst_37 (lv_at hl 4 rfl) ?_
    refine lv_aload_n C.1.1 C.1.2.1 dX1_leftAtWorst_39 rfl (lv_at hl 0 rfl) ?_
    refine gr_RX1_15 C w hx_29 lx_29 rfl dX1_leftAtWorst_40 ?_
    refine lv_iload C.1.1 C.1.2.1 dX1_leftAtWorst_43 (lv_at hl 3 rfl) ?_
    have hi3 := h.1
    replace h := h.2
    refine q_aal C w hx_30 lx_30 (by decide) hi3 dX1_leftAtWorst_45 ?_
    refine lv_iload_n C.1.1 C.1.2.1 dX1_leftAtWorst_46 rfl (lv_at hl 1 rfl) ?_
    refine q_ial C w (rA hi3).1 (rA hi3).2 h.1 dX1_leftAtWorst_47 ?_
    replace h := h.2
    refine lv_aload_n C.1.1 C.1.2.1 dX1_leftAtWorst_48 rfl (lv_at hl 0 rfl) ?_
    refine gr_RX1_15 C w hx_29 lx_29 rfl dX1_leftAtWorst_49 ?_
    refine lv_iload C.1.1 C.1.2.1 dX1_leftAtWorst_52 (lv_at hl 5 rfl) ?_
    have hi4 := h.1
    replace h := h.2
    refine q_aal C w hx_30 lx_30 (by decide) hi4 dX1_leftAtWorst_54 ?_
    refine lv_iload_n C.1.1 C.1.2.1 dX1_leftAtWorst_55 rfl (lv_at hl 1 rfl) ?_
    refine q_ial C w (rA hi4).1 (rA hi4).2 h.1 dX1_leftAtWorst_56 ?_
    replace h := h.2
    have J : ∀ ls : Array Slot, lv_has ls 8 [(0, .ref (ga g 29)), (3, .int x3), (4, .int x4), (5, .int x5), (7, .int x7)] → W p l e (rmOf 1 21) s m args below meth c H locs 0 0 (MQ below (va_Qi (fun r M9 => M9 = M ∧ Q r) (PostW g layX 68) (gF g)) args s 0 0 (gF g)) (F0 m 65 ls [.int (if (M (rowI x5.toNatClampNeg) x3.toNatClampNeg) = (M (rowI x7.toNatClampNeg) x3.toNatClampNeg) then (1 : Int32) else 0), .int x6]) := by
      intro ls hl
      refine lv_iadd C.1.1 C.1.2.1 dX1_leftAtWorst_65 ?_
      refine lv_topi (fun v6 ev6 => ?_)
      replace h := h v6 ev6
      refine lv_istore (lv' := [(6, .int v6), (0, .ref (ga g 29)), (3, .int x3), (4, .int x4), (5, .int x5), (7, .int x7)]) C.1.1 C.1.2.1 dX1_leftAtWorst_66 hl (by decide) rfl (fun ls hl => ?_)
      refine lv_iinc (v := x7 + 1) (lv' := [(7, .int (x7 + 1)), (6, .int v6), (0, .ref (ga g 29)), (3, .int x3), (4, .int x4), (5, .int x5)]) C.1.1 C.1.2.1 dX1_leftAtWorst_68 hl (k := 5) rfl rfl (by decide) rfl (fun ls hl => ?_)
      refine lv_goto (tgt := 28) C.1.1 C.1.2.1 dX1_leftAtWorst_71 (by decide) ?_
      exact hK28 _ _ _ _ _ h w (lv_sub hl [2, 3, 4, 5, 1, 0] rfl)
    refine lv_icmp_ne (tgt := 64) C.1.1 C.1.2.1 dX1_leftAtWorst_57 (by decide) (fun hc5 => ?_) (fun hc5 => ?_)
    · refine lv_iconst (v := 0) C.1.1 C.1.2.1 dX1_leftAtWorst_64 (by decide) ?_
      simp only [if_neg hc5] at J hl
      exact J ls (lv_sub hl [0, 1, 2, 3, 5] rfl)
    · refine lv_iconst (v := 1) C.1.1 C.1.2.1 dX1_leftAtWorst_60 (by decide) ?_
      refine lv_goto (tgt := 65) C.1.1 C.1.2.1 dX1_leftAtWorst_61 (by decide) ?_
      simp only [if_pos hc5] at J hl
      exact J ls (lv_sub hl [0, 1, 2, 3, 5] rfl)
set_option maxHeartbeats 4000000 in
set_option maxRecDepth 100000 in
theorem l_X1_leftAtWorst_28 {x3 : Int32} {x4 : Int32} {x5 : Int32} {M : Mem} {K13 : Int32 → Int32 → Prop} {Q : Int32 → Prop} (C : Cx p s m args c cX1_leftAtWorst 8 RX1 g) (hr : meth.sig.returnType = (some .int)) (hk : meth.locks = false) (hK13 : ∀ (x4 : Int32) (x5 : Int32) (H : Heap) (locs : List Loc) (ls : Array Slot), K13 x4 x5 → Wd g layX 68 s.heap M H locs → lv_has ls 8 [(0, .ref (ga g 29)), (3, .int x3), (4, .int x4), (5, .int x5)] → W p l e (rmOf 1 21) s m args below meth c H locs 0 0 (MQ below (va_Qi (fun r M9 => M9 = M ∧ Q r) (PostW g layX 68) (gF g)) args s 0 0 (gF g)) (F0 m 13 ls [])) : ∀ (n : Nat) (x6 : Int32) (x7 : Int32) (H : Heap) (locs : List Loc) (ls : Array Slot), fu2 (w_X1_leftAtWorst_28 x3 x4 x5 M K13 Q) n x6 x7 → Wd g layX 68 s.heap M H locs → lv_has ls 8 [(0, .ref (ga g 29)), (3, .int x3), (4, .int x4), (5, .int x5), (6, .int x6), (7, .int x7)] → W p l e (rmOf 1 21) s m args below meth c H locs 0 0 (MQ below (va_Qi (fun r M9 => M9 = M ∧ Q r) (PostW g layX 68) (gF g)) args s 0 0 (gF g)) (F0 m 28 ls []) := by
  intro n
  induction n with
  | zero => intro x6 x7 H locs ls h; exact h.elim
  | succ n ih => intro x6 x7 H locs ls h w hl; exact v_X1_leftAtWorst_28 C hr hk  hK13 ih h w hl
set_option maxHeartbeats 4000000 in
set_option maxRecDepth 100000 in
theorem v_X1_leftAtWorst_13 {x3 : Int32} {x4 : Int32} {x5 : Int32} {M : Mem} {K13 : Int32 → Int32 → Prop} {Q : Int32 → Prop} {H : Heap} {locs : List Loc} {ls : Array Slot} (C : Cx p s m args c cX1_leftAtWorst 8 RX1 g) (hr : meth.sig.returnType = (some .int)) (hk : meth.locks = false) (hK13 : ∀ (x4 : Int32) (x5 : Int32) (H : Heap) (locs : List Loc) (ls : Array Slot), K13 x4 x5 → Wd g layX 68 s.heap M H locs → lv_has ls 8 [(0, .ref (ga g 29)), (3, .int x3), (4, .int x4), (5, .int x5)] → W p l e (rmOf 1 21) s m args below meth c H locs 0 0 (MQ below (va_Qi (fun r M9 => M9 = M ∧ Q r) (PostW g layX 68) (gF g)) args s 0 0 (gF g)) (F0 m 13 ls [])) (h : w_X1_leftAtWorst_13 x3 M Q K13 x4 x5) (w : Wd g layX 68 s.heap M H locs) (hl : lv_has ls 8 [(0, .ref (ga g 29)), (3, .int x3), (4, .int x4), (5, .int x5)]) : W p l e (rmOf 1 21) s m args below meth c H locs 0 0 (MQ below (va_Qi (fun r M9 => M9 = M ∧ Q r) (PostW g layX 68) (gF g)) args s 0 0 (gF g)) (F0 m 13 ls []) := by
  unfold w_X1_leftAtWorst_13 at h
  refine lv_iload C.1.1 C.1.2.1 dX1_leftAtWorst_13 (lv_at hl 3 rfl) ?_
  refine lv_aload_n C.1.1 C.1.2.1 dX1_leftAtWorst_15 rfl (lv_at hl 0 rfl) ?_
  refine gi_RX1_18 C w hx_29 lx_29 rfl dX1_leftAtWorst_16 ?_
  refine lv_icmp_ge (tgt := 89) C.1.1 C.1.2.1 dX1_leftAtWorst_19 (by decide) (fun hc1 => ?_) (fun hc1 => ?_)
  · replace h := h.1 hc1
    refine lv_iload C.1.1 C.1.2.1 dX1_leftAtWorst_89 (lv_at hl 2 rfl) ?_
    exact q_iret C hr hk w rfl ⟨rfl, h⟩ dX1_leftAtWorst_91
  · replace h := h.2 hc1
    refine lv_iconst (v := 0) C.1.1 C.1.2.1 dX1_leftAtWorst_22 (by decide) ?_
    refine lv_istore (lv' := [(6, .int 0), (0, .ref (ga g 29)), (3, .int x3), (4, .int x4), (5, .int x5)]) C.1.1 C.1.2.1 dX1_leftAtWorst_23 hl (by decide) rfl (fun ls hl => ?_)
    refine lv_iconst (v := 0) C.1.1 C.1.2.1 dX1_leftAtWorst_25 (by decide) ?_
    refine lv_istore (lv' := [(7, .int 0), (6, .int 0), (0, .ref (ga g 29)), (3, .int x3), (4, .int x4), (5, .int x5)]) C.1.1 C.1.2.1 dX1_leftAtWorst_26 hl (by decide) rfl (fun ls hl => ?_)
    obtain ⟨n, h⟩ := h
    exact l_X1_leftAtWorst_28 C hr hk  hK13 n _ _ _ _ _ h w (lv_sub hl [2, 3, 4, 5, 1, 0] rfl)
set_option maxHeartbeats 4000000 in
set_option maxRecDepth 100000 in
theorem l_X1_leftAtWorst_13 {x3 : Int32} {M : Mem} {Q : Int32 → Prop} (C : Cx p s m args c cX1_leftAtWorst 8 RX1 g) (hr : meth.sig.returnType = (some .int)) (hk : meth.locks = false)  : ∀ (n : Nat) (x4 : Int32) (x5 : Int32) (H : Heap) (locs : List Loc) (ls : Array Slot), fu2 (w_X1_leftAtWorst_13 x3 M Q) n x4 x5 → Wd g layX 68 s.heap M H locs → lv_has ls 8 [(0, .ref (ga g 29)), (3, .int x3), (4, .int x4), (5, .int x5)] → W p l e (rmOf 1 21) s m args below meth c H locs 0 0 (MQ below (va_Qi (fun r M9 => M9 = M ∧ Q r) (PostW g layX 68) (gF g)) args s 0 0 (gF g)) (F0 m 13 ls []) := by
  intro n
  induction n with
  | zero => intro x4 x5 H locs ls h; exact h.elim
  | succ n ih => intro x4 x5 H locs ls h w hl; exact v_X1_leftAtWorst_13 C hr hk   ih h w hl
set_option maxHeartbeats 4000000 in
set_option maxRecDepth 100000 in
theorem c_X1_leftAtWorst {l : Launch} {g : Gt} {x1 : Int32} {x2 : Int32} {M : Mem} {Q : Int32 → Prop} (h : w_X1_leftAtWorst x1 x2 M Q) : MI l yX1_leftAtWorst cX1_leftAtWorst 8 (some .int) 1 21 g layX 68 [.ref (ga g 29), .int x1, .int x2] M (fun r M9 => M9 = M ∧ Q r) :=
  m_of (by decide +kernel) (Nat.le_of_ble_eq_true rfl) (fun p e s m args below meth c ls C hr hk w hl => by
    have C : Cx p s m args c cX1_leftAtWorst 8 RX1 g := C
    have hl : lv_has ls 8 [(0, .ref (ga g 29)), (1, .int x1), (2, .int x2)] := hl
    unfold w_X1_leftAtWorst at h
    obtain ⟨H, eH⟩ : ∃ H : Heap, H = s.heap := ⟨_, rfl⟩
    obtain ⟨locs, el⟩ : ∃ locs : List Loc, locs = [] := ⟨_, rfl⟩
    have w : Wd g layX 68 s.heap M H locs := by rw [eH, el]; exact w
    suffices hw : W p l e (rmOf 1 21) s m args below meth c H locs 0 0 (MQ below (va_Qi (fun r M9 => M9 = M ∧ Q r) (PostW g layX 68) (gF g)) args s 0 0 (gF g)) (F0 m 0 ls []) by rw [eH, el] at hw; exact hw
    clear eH el
    refine lv_iload_n C.1.1 C.1.2.1 dX1_leftAtWorst_0 rfl (lv_at hl 1 rfl) ?_
    refine lv_bipush (v := 6) C.1.1 C.1.2.1 dX1_leftAtWorst_1 (by decide) ?_
    refine lv_imul C.1.1 C.1.2.1 dX1_leftAtWorst_3 ?_
    refine lv_iload_n C.1.1 C.1.2.1 dX1_leftAtWorst_4 rfl (lv_at hl 2 rfl) ?_
    refine lv_iadd C.1.1 C.1.2.1 dX1_leftAtWorst_5 ?_
    refine lv_istore_n (lv' := [(3, .int ((x1 * 6) + x2)), (0, .ref (ga g 29)), (1, .int x1), (2, .int x2)]) C.1.1 C.1.2.1 dX1_leftAtWorst_6 rfl hl (by decide) rfl (fun ls hl => ?_)
    refine lv_iconst (v := 0) C.1.1 C.1.2.1 dX1_leftAtWorst_7 (by decide) ?_
    refine lv_istore (lv' := [(4, .int 0), (3, .int ((x1 * 6) + x2)), (0, .ref (ga g 29)), (1, .int x1), (2, .int x2)]) C.1.1 C.1.2.1 dX1_leftAtWorst_8 hl (by decide) rfl (fun ls hl => ?_)
    refine lv_iconst (v := 0) C.1.1 C.1.2.1 dX1_leftAtWorst_10 (by decide) ?_
    refine lv_istore (lv' := [(5, .int 0), (4, .int 0), (3, .int ((x1 * 6) + x2)), (0, .ref (ga g 29)), (1, .int x1), (2, .int x2)]) C.1.1 C.1.2.1 dX1_leftAtWorst_11 hl (by decide) rfl (fun ls hl => ?_)
    obtain ⟨n, h⟩ := h
    exact l_X1_leftAtWorst_13 C hr hk   n _ _ _ _ _ h w (lv_sub hl [3, 2, 1, 0] rfl))
-- isNothing
set_option maxHeartbeats 4000000 in
set_option maxRecDepth 100000 in
theorem c_X2_isNothing {l : Launch} {g : Gt} {o : Nat} {M : Mem} {Q : Int32 → Prop} (hS : isS o) (h : w_X2_isNothing o M Q) : MI l yX2_isNothing cX2_isNothing 1 (some .boolean) 0 0 g layX 68 [.ref (ga g o)] M (fun r M9 => M9 = M ∧ Q r) :=
  m_of (by decide +kernel) (Nat.le_of_ble_eq_true rfl) (fun p e s m args below meth c ls C hr hk w hl => by
    have C : Cx p s m args c cX2_isNothing 1 RX2 g := C
    have hl : lv_has ls 1 [(0, .ref (ga g o))] := hl
    unfold w_X2_isNothing at h
    obtain ⟨H, eH⟩ : ∃ H : Heap, H = s.heap := ⟨_, rfl⟩
    obtain ⟨locs, el⟩ : ∃ locs : List Loc, locs = [] := ⟨_, rfl⟩
    have w : Wd g layX 68 s.heap M H locs := by rw [eH, el]; exact w
    suffices hw : W p l e (rmOf 0 0) s m args below meth c H locs 0 0 (MQ below (va_Qi (fun r M9 => M9 = M ∧ Q r) (PostW g layX 68) (gF g)) args s 0 0 (gF g)) (F0 m 0 ls []) by rw [eH, el] at hw; exact hw
    clear eH el
    refine lv_aload_n C.1.1 C.1.2.1 dX2_isNothing_0 rfl (lv_at hl 0 rfl) ?_
    refine gi_RX2_13 C w (sO hS) (sL hS) rfl dX2_isNothing_1 ?_
    refine lv_iconst (v := (-1)) C.1.1 C.1.2.1 dX2_isNothing_4 (by decide) ?_
    have J : ∀ ls : Array Slot, lv_has ls 1 [] → W p l e (rmOf 0 0) s m args below meth c H locs 0 0 (MQ below (va_Qi (fun r M9 => M9 = M ∧ Q r) (PostW g layX 68) (gF g)) args s 0 0 (gF g)) (F0 m 13 ls [.int (if (M o 2) = (-1) then (1 : Int32) else 0)]) := by
      intro ls hl
      exact q_iret C hr hk w h.1 ⟨rfl, h.2⟩ dX2_isNothing_13
    refine lv_icmp_ne (tgt := 12) C.1.1 C.1.2.1 dX2_isNothing_5 (by decide) (fun hc1 => ?_) (fun hc1 => ?_)
    · refine lv_iconst (v := 0) C.1.1 C.1.2.1 dX2_isNothing_12 (by decide) ?_
      simp only [if_neg hc1] at J hl
      exact J ls (lv_sub hl [] rfl)
    · refine lv_iconst (v := 1) C.1.1 C.1.2.1 dX2_isNothing_8 (by decide) ?_
      refine lv_goto (tgt := 13) C.1.1 C.1.2.1 dX2_isNothing_9 (by decide) ?_
      simp only [if_pos hc1] at J hl
      exact J ls (lv_sub hl [] rfl))
-- renew
set_option maxHeartbeats 4000000 in
set_option maxRecDepth 100000 in
theorem v_X2_renew_12 {o : Nat} {x3 : Int32} {M : Mem} {K12 : Int32 → Mem → Prop} {Q : Mem → Prop} {H : Heap} {locs : List Loc} {ls : Array Slot} (C : Cx p s m args c cX2_renew 4 RX2 g) (hr : meth.sig.returnType = none) (hk : meth.locks = false) (hS : isS o) (hK12 : ∀ (x3 : Int32) (M : Mem) (H : Heap) (locs : List Loc) (ls : Array Slot), K12 x3 M → Wd g layX 68 s.heap M H locs → lv_has ls 4 [(0, .ref (ga g o)), (3, .int x3)] → W p l e (rmOf 0 0) s m args below meth c H locs 0 0 (MQ below (va_Qv Q (PostW g layX 68) (gF g)) args s 0 0 (gF g)) (F0 m 12 ls [])) (h : w_X2_renew_12 o Q K12 x3 M) (w : Wd g layX 68 s.heap M H locs) (hl : lv_has ls 4 [(0, .ref (ga g o)), (3, .int x3)]) : W p l e (rmOf 0 0) s m args below meth c H locs 0 0 (MQ below (va_Qv Q (PostW g layX 68) (gF g)) args s 0 0 (gF g)) (F0 m 12 ls []) := by
  unfold w_X2_renew_12 at h
  refine lv_iload_n C.1.1 C.1.2.1 dX2_renew_12 rfl (lv_at hl 1 rfl) ?_
  refine lv_bipush (v := 40) C.1.1 C.1.2.1 dX2_renew_13 (by decide) ?_
  refine lv_icmp_ge (tgt := 31) C.1.1 C.1.2.1 dX2_renew_15 (by decide) (fun hc3 => ?_) (fun hc3 => ?_)
  · replace h := h.1 hc3
    exact q_vret C hr hk w h dX2_renew_31
  · replace h := h.2 hc3
    refine lv_aload_n C.1.1 C.1.2.1 dX2_renew_18 rfl (lv_at hl 0 rfl) ?_
    refine gr_RX2_9 C w (sO hS) (sL hS) rfl dX2_renew_19 ?_
    refine lv_iload_n C.1.1 C.1.2.1 dX2_renew_22 rfl (lv_at hl 1 rfl) ?_
    refine lv_iconst (v := 0) C.1.1 C.1.2.1 dX2_renew_23 (by decide) ?_
    refine q_ias C w (sA hS).1 (sA hS).2 h.1 dX2_renew_24 (fun M4 H locs eM4 w => ?_)
    replace h := h.2 M4 eM4
    refine lv_iinc (v := x3 + 1) (lv' := [(3, .int (x3 + 1)), (0, .ref (ga g o))]) C.1.1 C.1.2.1 dX2_renew_25 hl (k := 1) rfl rfl (by decide) rfl (fun ls hl => ?_)
    refine lv_goto (tgt := 12) C.1.1 C.1.2.1 dX2_renew_28 (by decide) ?_
    exact hK12 _ _ _ _ _ h w (lv_sub hl [1, 0] rfl)
set_option maxHeartbeats 4000000 in
set_option maxRecDepth 100000 in
theorem l_X2_renew_12 {o : Nat} {Q : Mem → Prop} (C : Cx p s m args c cX2_renew 4 RX2 g) (hr : meth.sig.returnType = none) (hk : meth.locks = false) (hS : isS o)  : ∀ (n : Nat) (x3 : Int32) (M : Mem) (H : Heap) (locs : List Loc) (ls : Array Slot), fu2 (w_X2_renew_12 o Q) n x3 M → Wd g layX 68 s.heap M H locs → lv_has ls 4 [(0, .ref (ga g o)), (3, .int x3)] → W p l e (rmOf 0 0) s m args below meth c H locs 0 0 (MQ below (va_Qv Q (PostW g layX 68) (gF g)) args s 0 0 (gF g)) (F0 m 12 ls []) := by
  intro n
  induction n with
  | zero => intro x3 M H locs ls h; exact h.elim
  | succ n ih => intro x3 M H locs ls h w hl; exact v_X2_renew_12 C hr hk hS  ih h w hl
set_option maxHeartbeats 4000000 in
set_option maxRecDepth 100000 in
theorem c_X2_renew {l : Launch} {g : Gt} {o : Nat} {x1 : Int32} {x2 : Int32} {M : Mem} {Q : Mem → Prop} (hS : isS o) (h : w_X2_renew o x1 x2 M Q) : MV l yX2_renew cX2_renew 4 none 0 0 g layX 68 [.ref (ga g o), .int x1, .int x2] M Q :=
  m_of (by decide +kernel) (Nat.le_of_ble_eq_true rfl) (fun p e s m args below meth c ls C hr hk w hl => by
    have C : Cx p s m args c cX2_renew 4 RX2 g := C
    have hl : lv_has ls 4 [(0, .ref (ga g o)), (1, .int x1), (2, .int x2)] := hl
    unfold w_X2_renew at h
    obtain ⟨H, eH⟩ : ∃ H : Heap, H = s.heap := ⟨_, rfl⟩
    obtain ⟨locs, el⟩ : ∃ locs : List Loc, locs = [] := ⟨_, rfl⟩
    have w : Wd g layX 68 s.heap M H locs := by rw [eH, el]; exact w
    suffices hw : W p l e (rmOf 0 0) s m args below meth c H locs 0 0 (MQ below (va_Qv Q (PostW g layX 68) (gF g)) args s 0 0 (gF g)) (F0 m 0 ls []) by rw [eH, el] at hw; exact hw
    clear eH el
    refine lv_aload_n C.1.1 C.1.2.1 dX2_renew_0 rfl (lv_at hl 0 rfl) ?_
    refine lv_iload_n C.1.1 C.1.2.1 dX2_renew_1 rfl (lv_at hl 1 rfl) ?_
    refine pi_RX2_13 C w (sO hS) (sL hS) rfl dX2_renew_2 (fun M1 H locs eM1 w => ?_)
    replace h := h M1 eM1
    refine lv_aload_n C.1.1 C.1.2.1 dX2_renew_5 rfl (lv_at hl 0 rfl) ?_
    refine lv_iload_n C.1.1 C.1.2.1 dX2_renew_6 rfl (lv_at hl 2 rfl) ?_
    refine pi_RX2_17 C w (sO hS) (sL hS) rfl dX2_renew_7 (fun M2 H locs eM2 w => ?_)
    replace h := h M2 eM2
    refine lv_iconst (v := 0) C.1.1 C.1.2.1 dX2_renew_10 (by decide) ?_
    refine lv_istore_n (lv' := [(3, .int 0), (0, .ref (ga g o)), (1, .int x1), (2, .int x2)]) C.1.1 C.1.2.1 dX2_renew_11 rfl hl (by decide) rfl (fun ls hl => ?_)
    obtain ⟨n, h⟩ := h
    exact l_X2_renew_12 C hr hk hS  n _ _ _ _ _ h w (lv_sub hl [1, 0] rfl))
-- lacks
set_option maxHeartbeats 4000000 in
set_option maxRecDepth 100000 in
theorem c_X2_lacks {l : Launch} {g : Gt} {o : Nat} {x1 : Int32} {M : Mem} {Q : Int32 → Prop} (hS : isS o) (h : w_X2_lacks o x1 M Q) : MI l yX2_lacks cX2_lacks 2 (some .boolean) 0 0 g layX 68 [.ref (ga g o), .int x1] M (fun r M9 => M9 = M ∧ Q r) :=
  m_of (by decide +kernel) (Nat.le_of_ble_eq_true rfl) (fun p e s m args below meth c ls C hr hk w hl => by
    have C : Cx p s m args c cX2_lacks 2 RX2 g := C
    have hl : lv_has ls 2 [(0, .ref (ga g o)), (1, .int x1)] := hl
    unfold w_X2_lacks at h
    obtain ⟨H, eH⟩ : ∃ H : Heap, H = s.heap := ⟨_, rfl⟩
    obtain ⟨locs, el⟩ : ∃ locs : List Loc, locs = [] := ⟨_, rfl⟩
    have w : Wd g layX 68 s.heap M H locs := by rw [eH, el]; exact w
    suffices hw : W p l e (rmOf 0 0) s m args below meth c H locs 0 0 (MQ below (va_Qi (fun r M9 => M9 = M ∧ Q r) (PostW g layX 68) (gF g)) args s 0 0 (gF g)) (F0 m 0 ls []) by rw [eH, el] at hw; exact hw
    clear eH el
    refine lv_iload_n C.1.1 C.1.2.1 dX2_lacks_0 rfl (lv_at hl 1 rfl) ?_
    have J : ∀ ls : Array Slot, lv_has ls 2 [] → W p l e (rmOf 0 0) s m args below meth c H locs 0 0 (MQ below (va_Qi (fun r M9 => M9 = M ∧ Q r) (PostW g layX 68) (gF g)) args s 0 0 (gF g)) (F0 m 17 ls [.int (if x1 < 0 then (1 : Int32) else (if x1 < (M o 1) then (0 : Int32) else 1))]) := by
      intro ls hl
      exact q_iret C hr hk w h.1 ⟨rfl, h.2⟩ dX2_lacks_17
    refine lv_if_lt (tgt := 12) C.1.1 C.1.2.1 dX2_lacks_1 (by decide) (fun hc1 => ?_) (fun hc1 => ?_)
    · refine lv_iconst (v := 1) C.1.1 C.1.2.1 dX2_lacks_12 (by decide) ?_
      refine lv_goto (tgt := 17) C.1.1 C.1.2.1 dX2_lacks_13 (by decide) ?_
      simp only [if_pos hc1] at J hl
      exact J ls (lv_sub hl [] rfl)
    · refine lv_iload_n C.1.1 C.1.2.1 dX2_lacks_4 rfl (lv_at hl 1 rfl) ?_
      refine lv_aload_n C.1.1 C.1.2.1 dX2_lacks_5 rfl (lv_at hl 0 rfl) ?_
      refine gi_RX2_17 C w (sO hS) (sL hS) rfl dX2_lacks_6 ?_
      refine lv_icmp_lt (tgt := 16) C.1.1 C.1.2.1 dX2_lacks_9 (by decide) (fun hc2 => ?_) (fun hc2 => ?_)
      · refine lv_iconst (v := 0) C.1.1 C.1.2.1 dX2_lacks_16 (by decide) ?_
        simp only [if_neg hc1, if_pos hc2] at J hl
        exact J ls (lv_sub hl [] rfl)
      · refine lv_iconst (v := 1) C.1.1 C.1.2.1 dX2_lacks_12 (by decide) ?_
        refine lv_goto (tgt := 17) C.1.1 C.1.2.1 dX2_lacks_13 (by decide) ?_
        simp only [if_neg hc1, if_neg hc2] at J hl
        exact J ls (lv_sub hl [] rfl))
-- put
set_option maxHeartbeats 4000000 in
set_option maxRecDepth 100000 in
theorem c_X2_put {l : Launch} {g : Gt} {o : Nat} {x1 : Int32} {x2 : Int32} {M : Mem} {Q : Int32 → Mem → Prop} (hS : isS o) (h : w_X2_put o x1 x2 M Q) : MI l yX2_put cX2_put 3 (some .boolean) 1 21 g layX 68 [.ref (ga g o), .int x1, .int x2] M Q :=
  m_of (by decide +kernel) (Nat.le_of_ble_eq_true rfl) (fun p e s m args below meth c ls C hr hk w hl => by
    have C : Cx p s m args c cX2_put 3 RX2 g := C
    have hl : lv_has ls 3 [(0, .ref (ga g o)), (1, .int x1), (2, .int x2)] := hl
    unfold w_X2_put at h
    obtain ⟨H, eH⟩ : ∃ H : Heap, H = s.heap := ⟨_, rfl⟩
    obtain ⟨locs, el⟩ : ∃ locs : List Loc, locs = [] := ⟨_, rfl⟩
    have w : Wd g layX 68 s.heap M H locs := by rw [eH, el]; exact w
    suffices hw : W p l e (rmOf 1 21) s m args below meth c H locs 0 0 (MQ below (va_Qi Q (PostW g layX 68) (gF g)) args s 0 0 (gF g)) (F0 m 0 ls []) by rw [eH, el] at hw; exact hw
    clear eH el
    refine lv_aload_n C.1.1 C.1.2.1 dX2_put_0 rfl (lv_at hl 0 rfl) ?_
    refine lv_iload_n C.1.1 C.1.2.1 dX2_put_1 rfl (lv_at hl 1 rfl) ?_
    refine q_pVi C w [.int x1] (c_X2_lacks hS h) kv_X2_lacks k_19 (rcv C w kc_X2 (sO hS) (sL hS)) rfl hl.1 (Nat.le_of_ble_eq_true rfl) ⟨Nat.le_of_ble_eq_true rfl, Nat.le_of_ble_eq_true rfl⟩ dX2_put_2 (fun r1 H locs h w => ?_)
    refine lv_if_eq (tgt := 10) C.1.1 C.1.2.1 dX2_put_5 (by decide) (fun hc2 => ?_) (fun hc2 => ?_)
    · replace h := h.1 hc2
      refine lv_aload_n C.1.1 C.1.2.1 dX2_put_10 rfl (lv_at hl 0 rfl) ?_
      refine gr_RX2_9 C w (sO hS) (sL hS) rfl dX2_put_11 ?_
      refine lv_iload_n C.1.1 C.1.2.1 dX2_put_14 rfl (lv_at hl 1 rfl) ?_
      refine lv_aload_n C.1.1 C.1.2.1 dX2_put_15 rfl (lv_at hl 0 rfl) ?_
      refine gi_RX2_13 C w (sO hS) (sL hS) rfl dX2_put_16 ?_
      have J : ∀ ls : Array Slot, lv_has ls 3 [] → W p l e (rmOf 1 21) s m args below meth c H locs 0 0 (MQ below (va_Qi Q (PostW g layX 68) (gF g)) args s 0 0 (gF g)) (F0 m 41 ls [.int (if (M o 2) = 0 then (x2.toInt8.toInt32) else (if (M o 2) = 1 then (x2.toInt16.toInt32) else x2)), .int x1, .ref (ga g (o + 1))]) := by
        intro ls hl
        refine q_ias C w (sA hS).1 (sA hS).2 h.1 dX2_put_41 (fun M5 H locs eM5 w => ?_)
        replace h := h.2 M5 eM5
        refine lv_iconst (v := 1) C.1.1 C.1.2.1 dX2_put_42 (by decide) ?_
        exact q_iret C hr hk w rfl h dX2_put_43
      refine lv_if_ne (tgt := 27) C.1.1 C.1.2.1 dX2_put_19 (by decide) (fun hc3 => ?_) (fun hc3 => ?_)
      · refine lv_aload_n C.1.1 C.1.2.1 dX2_put_27 rfl (lv_at hl 0 rfl) ?_
        refine gi_RX2_13 C w (sO hS) (sL hS) rfl dX2_put_28 ?_
        refine lv_iconst (v := 1) C.1.1 C.1.2.1 dX2_put_31 (by decide) ?_
        refine lv_icmp_ne (tgt := 40) C.1.1 C.1.2.1 dX2_put_32 (by decide) (fun hc4 => ?_) (fun hc4 => ?_)
        · refine lv_iload_n C.1.1 C.1.2.1 dX2_put_40 rfl (lv_at hl 2 rfl) ?_
          simp only [if_neg hc3, if_neg hc4] at J hl
          exact J ls (lv_sub hl [] rfl)
        · refine lv_iload_n C.1.1 C.1.2.1 dX2_put_35 rfl (lv_at hl 2 rfl) ?_
          refine lv_i2s C.1.1 C.1.2.1 dX2_put_36 rfl ?_
          refine lv_goto (tgt := 41) C.1.1 C.1.2.1 dX2_put_37 (by decide) ?_
          simp only [if_neg hc3, if_pos hc4] at J hl
          exact J ls (lv_sub hl [] rfl)
      · refine lv_iload_n C.1.1 C.1.2.1 dX2_put_22 rfl (lv_at hl 2 rfl) ?_
        refine lv_i2b C.1.1 C.1.2.1 dX2_put_23 rfl ?_
        refine lv_goto (tgt := 41) C.1.1 C.1.2.1 dX2_put_24 (by decide) ?_
        simp only [if_pos hc3] at J hl
        exact J ls (lv_sub hl [] rfl)
    · replace h := h.2 hc2
      refine lv_iconst (v := 0) C.1.1 C.1.2.1 dX2_put_8 (by decide) ?_
      exact q_iret C hr hk w rfl h dX2_put_9)
-- faultAs
set_option maxHeartbeats 4000000 in
set_option maxRecDepth 100000 in
theorem c_X2_faultAs {l : Launch} {g : Gt} {o : Nat} {x1 : Int32} {M : Mem} {Q : Int32 → Prop} (hS : isS o) (h : w_X2_faultAs o x1 M Q) : MI l yX2_faultAs cX2_faultAs 2 (some .int) 1 20 g layX 68 [.ref (ga g o), .int x1] M (fun r M9 => M9 = M ∧ Q r) :=
  m_of (by decide +kernel) (Nat.le_of_ble_eq_true rfl) (fun p e s m args below meth c ls C hr hk w hl => by
    have C : Cx p s m args c cX2_faultAs 2 RX2 g := C
    have hl : lv_has ls 2 [(0, .ref (ga g o)), (1, .int x1)] := hl
    unfold w_X2_faultAs at h
    obtain ⟨H, eH⟩ : ∃ H : Heap, H = s.heap := ⟨_, rfl⟩
    obtain ⟨locs, el⟩ : ∃ locs : List Loc, locs = [] := ⟨_, rfl⟩
    have w : Wd g layX 68 s.heap M H locs := by rw [eH, el]; exact w
    suffices hw : W p l e (rmOf 1 20) s m args below meth c H locs 0 0 (MQ below (va_Qi (fun r M9 => M9 = M ∧ Q r) (PostW g layX 68) (gF g)) args s 0 0 (gF g)) (F0 m 0 ls []) by rw [eH, el] at hw; exact hw
    clear eH el
    refine lv_aload_n C.1.1 C.1.2.1 dX2_faultAs_0 rfl (lv_at hl 0 rfl) ?_
    refine q_pVi C w [] (c_X2_isNothing hS h) kv_X2_isNothing k_20 (rcv C w kc_X2 (sO hS) (sL hS)) rfl hl.1 (Nat.le_of_ble_eq_true rfl) ⟨Nat.le_of_ble_eq_true rfl, Nat.le_of_ble_eq_true rfl⟩ dX2_faultAs_1 (fun r1 H locs h w => ?_)
    refine lv_if_eq (tgt := 9) C.1.1 C.1.2.1 dX2_faultAs_4 (by decide) (fun hc2 => ?_) (fun hc2 => ?_)
    · replace h := h.1 hc2
      refine lv_aload_n C.1.1 C.1.2.1 dX2_faultAs_9 rfl (lv_at hl 0 rfl) ?_
      refine gi_RX2_13 C w (sO hS) (sL hS) rfl dX2_faultAs_10 ?_
      refine lv_iload_n C.1.1 C.1.2.1 dX2_faultAs_13 rfl (lv_at hl 1 rfl) ?_
      have J : ∀ ls : Array Slot, lv_has ls 2 [] → W p l e (rmOf 1 20) s m args below meth c H locs 0 0 (MQ below (va_Qi (fun r M9 => M9 = M ∧ Q r) (PostW g layX 68) (gF g)) args s 0 0 (gF g)) (F0 m 22 ls [.int (if (M o 2) = x1 then (0 : Int32) else 3)]) := by
        intro ls hl
        exact q_iret C hr hk w rfl ⟨rfl, h⟩ dX2_faultAs_22
      refine lv_icmp_ne (tgt := 21) C.1.1 C.1.2.1 dX2_faultAs_14 (by decide) (fun hc3 => ?_) (fun hc3 => ?_)
      · refine lv_iconst (v := 3) C.1.1 C.1.2.1 dX2_faultAs_21 (by decide) ?_
        simp only [if_neg hc3] at J hl
        exact J ls (lv_sub hl [] rfl)
      · refine lv_iconst (v := 0) C.1.1 C.1.2.1 dX2_faultAs_17 (by decide) ?_
        refine lv_goto (tgt := 22) C.1.1 C.1.2.1 dX2_faultAs_18 (by decide) ?_
        simp only [if_pos hc3] at J hl
        exact J ls (lv_sub hl [] rfl)
    · replace h := h.2 hc2
      refine lv_iconst (v := 1) C.1.1 C.1.2.1 dX2_faultAs_7 (by decide) ?_
      exact q_iret C hr hk w rfl ⟨rfl, h⟩ dX2_faultAs_8)
-- add
set_option maxHeartbeats 4000000 in
set_option maxRecDepth 100000 in
theorem c_X3_add {l : Launch} {g : Gt} {x1 : Int32} {x2 : Int32} {x3 : Int32} {M : Mem} {Q : Int32 → Mem → Prop} (h : w_X3_add x1 x2 x3 M Q) : MI l yX3_add cX3_add 4 (some .boolean) 0 0 g layX 68 [.ref (ga g 25), .int x1, .int x2, .int x3] M Q :=
  m_of (by decide +kernel) (Nat.le_of_ble_eq_true rfl) (fun p e s m args below meth c ls C hr hk w hl => by
    have C : Cx p s m args c cX3_add 4 RX3 g := C
    have hl : lv_has ls 4 [(0, .ref (ga g 25)), (1, .int x1), (2, .int x2), (3, .int x3)] := hl
    unfold w_X3_add at h
    obtain ⟨H, eH⟩ : ∃ H : Heap, H = s.heap := ⟨_, rfl⟩
    obtain ⟨locs, el⟩ : ∃ locs : List Loc, locs = [] := ⟨_, rfl⟩
    have w : Wd g layX 68 s.heap M H locs := by rw [eH, el]; exact w
    suffices hw : W p l e (rmOf 0 0) s m args below meth c H locs 0 0 (MQ below (va_Qi Q (PostW g layX 68) (gF g)) args s 0 0 (gF g)) (F0 m 0 ls []) by rw [eH, el] at hw; exact hw
    clear eH el
    refine lv_aload_n C.1.1 C.1.2.1 dX3_add_0 rfl (lv_at hl 0 rfl) ?_
    refine gi_RX3_19 C w hx_25 lx_25 rfl dX3_add_1 ?_
    refine lv_bipush (v := 6) C.1.1 C.1.2.1 dX3_add_4 (by decide) ?_
    refine lv_icmp_lt (tgt := 11) C.1.1 C.1.2.1 dX3_add_6 (by decide) (fun hc1 => ?_) (fun hc1 => ?_)
    · replace h := h.1 hc1
      refine lv_aload_n C.1.1 C.1.2.1 dX3_add_11 rfl (lv_at hl 0 rfl) ?_
      refine gr_RX3_9 C w hx_25 lx_25 rfl dX3_add_12 ?_
      refine lv_aload_n C.1.1 C.1.2.1 dX3_add_15 rfl (lv_at hl 0 rfl) ?_
      refine gi_RX3_19 C w hx_25 lx_25 rfl dX3_add_16 ?_
      refine lv_iload_n C.1.1 C.1.2.1 dX3_add_19 rfl (lv_at hl 1 rfl) ?_
      refine q_ias C w hx_26 lx_26 h.1 dX3_add_20 (fun M2 H locs eM2 w => ?_)
      replace h := h.2 M2 eM2
      refine lv_aload_n C.1.1 C.1.2.1 dX3_add_21 rfl (lv_at hl 0 rfl) ?_
      refine gr_RX3_13 C w hx_25 lx_25 rfl dX3_add_22 ?_
      refine lv_aload_n C.1.1 C.1.2.1 dX3_add_25 rfl (lv_at hl 0 rfl) ?_
      refine gi_RX3_19 C w hx_25 lx_25 rfl dX3_add_26 ?_
      refine lv_iload_n C.1.1 C.1.2.1 dX3_add_29 rfl (lv_at hl 2 rfl) ?_
      refine q_ias C w hx_27 lx_27 h.1 dX3_add_30 (fun M3 H locs eM3 w => ?_)
      replace h := h.2 M3 eM3
      refine lv_aload_n C.1.1 C.1.2.1 dX3_add_31 rfl (lv_at hl 0 rfl) ?_
      refine gr_RX3_16 C w hx_25 lx_25 rfl dX3_add_32 ?_
      refine lv_aload_n C.1.1 C.1.2.1 dX3_add_35 rfl (lv_at hl 0 rfl) ?_
      refine gi_RX3_19 C w hx_25 lx_25 rfl dX3_add_36 ?_
      refine lv_iload_n C.1.1 C.1.2.1 dX3_add_39 rfl (lv_at hl 3 rfl) ?_
      refine q_ias C w hx_28 lx_28 h.1 dX3_add_40 (fun M4 H locs eM4 w => ?_)
      replace h := h.2 M4 eM4
      refine lv_aload_n C.1.1 C.1.2.1 dX3_add_41 rfl (lv_at hl 0 rfl) ?_
      refine lv_dup C.1.1 C.1.2.1 dX3_add_42 rfl ?_
      refine gi_RX3_19 C w hx_25 lx_25 rfl dX3_add_43 ?_
      refine lv_iconst (v := 1) C.1.1 C.1.2.1 dX3_add_46 (by decide) ?_
      refine lv_iadd C.1.1 C.1.2.1 dX3_add_47 ?_
      refine pi_RX3_19 C w hx_25 lx_25 rfl dX3_add_48 (fun M5 H locs eM5 w => ?_)
      replace h := h M5 eM5
      refine lv_iconst (v := 1) C.1.1 C.1.2.1 dX3_add_51 (by decide) ?_
      exact q_iret C hr hk w rfl h dX3_add_52
    · replace h := h.2 hc1
      refine lv_iconst (v := 0) C.1.1 C.1.2.1 dX3_add_9 (by decide) ?_
      exact q_iret C hr hk w rfl h dX3_add_10)
-- latestNight
set_option maxHeartbeats 4000000 in
set_option maxRecDepth 100000 in
theorem v_X3_latestNight_4 {x1 : Int32} {x2 : Int32} {M : Mem} {K4 : Int32 → Int32 → Prop} {Q : Int32 → Prop} {H : Heap} {locs : List Loc} {ls : Array Slot} (C : Cx p s m args c cX3_latestNight 3 RX3 g) (hr : meth.sig.returnType = (some .int)) (hk : meth.locks = false) (hK4 : ∀ (x1 : Int32) (x2 : Int32) (H : Heap) (locs : List Loc) (ls : Array Slot), K4 x1 x2 → Wd g layX 68 s.heap M H locs → lv_has ls 3 [(0, .ref (ga g 25)), (1, .int x1), (2, .int x2)] → W p l e (rmOf 1 21) s m args below meth c H locs 0 0 (MQ below (va_Qi (fun r M9 => M9 = M ∧ Q r) (PostW g layX 68) (gF g)) args s 0 0 (gF g)) (F0 m 4 ls [])) (h : w_X3_latestNight_4 M Q K4 x1 x2) (w : Wd g layX 68 s.heap M H locs) (hl : lv_has ls 3 [(0, .ref (ga g 25)), (1, .int x1), (2, .int x2)]) : W p l e (rmOf 1 21) s m args below meth c H locs 0 0 (MQ below (va_Qi (fun r M9 => M9 = M ∧ Q r) (PostW g layX 68) (gF g)) args s 0 0 (gF g)) (F0 m 4 ls []) := by
  unfold w_X3_latestNight_4 at h
  refine lv_iload_n C.1.1 C.1.2.1 dX3_latestNight_4 rfl (lv_at hl 2 rfl) ?_
  refine lv_aload_n C.1.1 C.1.2.1 dX3_latestNight_5 rfl (lv_at hl 0 rfl) ?_
  refine gi_RX3_19 C w hx_25 lx_25 rfl dX3_latestNight_6 ?_
  refine lv_icmp_ge (tgt := 29) C.1.1 C.1.2.1 dX3_latestNight_9 (by decide) (fun hc1 => ?_) (fun hc1 => ?_)
  · replace h := h.1 hc1
    refine lv_iload_n C.1.1 C.1.2.1 dX3_latestNight_29 rfl (lv_at hl 1 rfl) ?_
    exact q_iret C hr hk w rfl ⟨rfl, h⟩ dX3_latestNight_30
  · replace h := h.2 hc1
    refine lv_iload_n C.1.1 C.1.2.1 dX3_latestNight_12 rfl (lv_at hl 1 rfl) ?_
    refine lv_aload_n C.1.1 C.1.2.1 dX3_latestNight_13 rfl (lv_at hl 0 rfl) ?_
    refine gr_RX3_9 C w hx_25 lx_25 rfl dX3_latestNight_14 ?_
    refine lv_iload_n C.1.1 C.1.2.1 dX3_latestNight_17 rfl (lv_at hl 2 rfl) ?_
    refine q_ial C w hx_26 lx_26 h.1 dX3_latestNight_18 ?_
    replace h := h.2
    refine q_max C kMax_ok k_21 hl.1 ⟨Nat.le_of_ble_eq_true rfl, Nat.le_of_ble_eq_true rfl⟩ dX3_latestNight_19 ?_
    refine lv_topi (fun v2 ev2 => ?_)
    replace h := h v2 ev2
    refine lv_istore_n (lv' := [(1, .int v2), (0, .ref (ga g 25)), (2, .int x2)]) C.1.1 C.1.2.1 dX3_latestNight_22 rfl hl (by decide) rfl (fun ls hl => ?_)
    refine lv_iinc (v := x2 + 1) (lv' := [(2, .int (x2 + 1)), (1, .int v2), (0, .ref (ga g 25))]) C.1.1 C.1.2.1 dX3_latestNight_23 hl (k := 2) rfl rfl (by decide) rfl (fun ls hl => ?_)
    refine lv_goto (tgt := 4) C.1.1 C.1.2.1 dX3_latestNight_26 (by decide) ?_
    exact hK4 _ _ _ _ _ h w (lv_sub hl [2, 1, 0] rfl)
set_option maxHeartbeats 4000000 in
set_option maxRecDepth 100000 in
theorem l_X3_latestNight_4 {M : Mem} {Q : Int32 → Prop} (C : Cx p s m args c cX3_latestNight 3 RX3 g) (hr : meth.sig.returnType = (some .int)) (hk : meth.locks = false)  : ∀ (n : Nat) (x1 : Int32) (x2 : Int32) (H : Heap) (locs : List Loc) (ls : Array Slot), fu2 (w_X3_latestNight_4 M Q) n x1 x2 → Wd g layX 68 s.heap M H locs → lv_has ls 3 [(0, .ref (ga g 25)), (1, .int x1), (2, .int x2)] → W p l e (rmOf 1 21) s m args below meth c H locs 0 0 (MQ below (va_Qi (fun r M9 => M9 = M ∧ Q r) (PostW g layX 68) (gF g)) args s 0 0 (gF g)) (F0 m 4 ls []) := by
  intro n
  induction n with
  | zero => intro x1 x2 H locs ls h; exact h.elim
  | succ n ih => intro x1 x2 H locs ls h w hl; exact v_X3_latestNight_4 C hr hk   ih h w hl
set_option maxHeartbeats 4000000 in
set_option maxRecDepth 100000 in
theorem c_X3_latestNight {l : Launch} {g : Gt} {M : Mem} {Q : Int32 → Prop} (h : w_X3_latestNight M Q) : MI l yX3_latestNight cX3_latestNight 3 (some .int) 1 21 g layX 68 [.ref (ga g 25)] M (fun r M9 => M9 = M ∧ Q r) :=
  m_of (by decide +kernel) (Nat.le_of_ble_eq_true rfl) (fun p e s m args below meth c ls C hr hk w hl => by
    have C : Cx p s m args c cX3_latestNight 3 RX3 g := C
    have hl : lv_has ls 3 [(0, .ref (ga g 25))] := hl
    unfold w_X3_latestNight at h
    obtain ⟨H, eH⟩ : ∃ H : Heap, H = s.heap := ⟨_, rfl⟩
    obtain ⟨locs, el⟩ : ∃ locs : List Loc, locs = [] := ⟨_, rfl⟩
    have w : Wd g layX 68 s.heap M H locs := by rw [eH, el]; exact w
    suffices hw : W p l e (rmOf 1 21) s m args below meth c H locs 0 0 (MQ below (va_Qi (fun r M9 => M9 = M ∧ Q r) (PostW g layX 68) (gF g)) args s 0 0 (gF g)) (F0 m 0 ls []) by rw [eH, el] at hw; exact hw
    clear eH el
    refine lv_iconst (v := (-1)) C.1.1 C.1.2.1 dX3_latestNight_0 (by decide) ?_
    refine lv_istore_n (lv' := [(1, .int (-1)), (0, .ref (ga g 25))]) C.1.1 C.1.2.1 dX3_latestNight_1 rfl hl (by decide) rfl (fun ls hl => ?_)
    refine lv_iconst (v := 0) C.1.1 C.1.2.1 dX3_latestNight_2 (by decide) ?_
    refine lv_istore_n (lv' := [(2, .int 0), (1, .int (-1)), (0, .ref (ga g 25))]) C.1.1 C.1.2.1 dX3_latestNight_3 rfl hl (by decide) rfl (fun ls hl => ?_)
    obtain ⟨n, h⟩ := h
    exact l_X3_latestNight_4 C hr hk   n _ _ _ _ _ h w (lv_sub hl [2, 1, 0] rfl))
-- fitBehind
set_option maxHeartbeats 4000000 in
set_option maxRecDepth 100000 in
theorem v_X3_fitBehind_42 {x1 : Int32} {x3 : Int32} {M : Mem} {K2 : Int32 → Prop} {Q : Int32 → Prop} {H : Heap} {locs : List Loc} {ls : Array Slot} (C : Cx p s m args c cX3_fitBehind 4 RX3 g) (hr : meth.sig.returnType = (some .boolean)) (hk : meth.locks = false) (hK2 : ∀ (x3 : Int32) (H : Heap) (locs : List Loc) (ls : Array Slot), K2 x3 → Wd g layX 68 s.heap M H locs → lv_has ls 4 [(0, .ref (ga g 25)), (1, .int x1), (2, .ref (ga g 12)), (3, .int x3)] → W p l e (rmOf 0 0) s m args below meth c H locs 0 0 (MQ below (va_Qi (fun r M9 => M9 = M ∧ Q r) (PostW g layX 68) (gF g)) args s 0 0 (gF g)) (F0 m 2 ls [])) (h : w_X3_fitBehind_42 x1 x3 M K2 Q) (w : Wd g layX 68 s.heap M H locs) (hl : lv_has ls 4 [(0, .ref (ga g 25)), (1, .int x1), (2, .ref (ga g 12)), (3, .int x3)]) : W p l e (rmOf 0 0) s m args below meth c H locs 0 0 (MQ below (va_Qi (fun r M9 => M9 = M ∧ Q r) (PostW g layX 68) (gF g)) args s 0 0 (gF g)) (F0 m 42 ls []) := by
  unfold w_X3_fitBehind_42 at h
  refine lv_iinc (v := x3 + 1) (lv' := [(3, .int (x3 + 1)), (0, .ref (ga g 25)), (1, .int x1), (2, .ref (ga g 12))]) C.1.1 C.1.2.1 dX3_fitBehind_42 hl (k := 3) rfl rfl (by decide) rfl (fun ls hl => ?_)
  refine lv_goto (tgt := 2) C.1.1 C.1.2.1 dX3_fitBehind_45 (by decide) ?_
  exact hK2 _ _ _ _ h w (lv_sub hl [1, 2, 3, 0] rfl)
set_option maxHeartbeats 4000000 in
set_option maxRecDepth 100000 in
theorem v_X3_fitBehind_2 {x1 : Int32} {x3 : Int32} {M : Mem} {K2 : Int32 → Prop} {Q : Int32 → Prop} {H : Heap} {locs : List Loc} {ls : Array Slot} (C : Cx p s m args c cX3_fitBehind 4 RX3 g) (hr : meth.sig.returnType = (some .boolean)) (hk : meth.locks = false) (hK2 : ∀ (x3 : Int32) (H : Heap) (locs : List Loc) (ls : Array Slot), K2 x3 → Wd g layX 68 s.heap M H locs → lv_has ls 4 [(0, .ref (ga g 25)), (1, .int x1), (2, .ref (ga g 12)), (3, .int x3)] → W p l e (rmOf 0 0) s m args below meth c H locs 0 0 (MQ below (va_Qi (fun r M9 => M9 = M ∧ Q r) (PostW g layX 68) (gF g)) args s 0 0 (gF g)) (F0 m 2 ls [])) (h : w_X3_fitBehind_2 x1 M Q K2 x3) (w : Wd g layX 68 s.heap M H locs) (hl : lv_has ls 4 [(0, .ref (ga g 25)), (1, .int x1), (2, .ref (ga g 12)), (3, .int x3)]) : W p l e (rmOf 0 0) s m args below meth c H locs 0 0 (MQ below (va_Qi (fun r M9 => M9 = M ∧ Q r) (PostW g layX 68) (gF g)) args s 0 0 (gF g)) (F0 m 2 ls []) := by
  unfold w_X3_fitBehind_2 at h
  refine lv_iload_n C.1.1 C.1.2.1 dX3_fitBehind_2 rfl (lv_at hl 3 rfl) ?_
  refine lv_aload_n C.1.1 C.1.2.1 dX3_fitBehind_3 rfl (lv_at hl 0 rfl) ?_
  refine gi_RX3_19 C w hx_25 lx_25 rfl dX3_fitBehind_4 ?_
  refine lv_icmp_ge (tgt := 48) C.1.1 C.1.2.1 dX3_fitBehind_7 (by decide) (fun hc1 => ?_) (fun hc1 => ?_)
  · replace h := h.1 hc1
    refine lv_iconst (v := 1) C.1.1 C.1.2.1 dX3_fitBehind_48 (by decide) ?_
    exact q_iret C hr hk w rfl ⟨rfl, h⟩ dX3_fitBehind_49
  · replace h := h.2 hc1
    refine lv_aload_n C.1.1 C.1.2.1 dX3_fitBehind_10 rfl (lv_at hl 0 rfl) ?_
    refine gr_RX3_9 C w hx_25 lx_25 rfl dX3_fitBehind_11 ?_
    refine lv_iload_n C.1.1 C.1.2.1 dX3_fitBehind_14 rfl (lv_at hl 3 rfl) ?_
    refine q_ial C w hx_26 lx_26 h.1 dX3_fitBehind_15 ?_
    replace h := h.2
    refine lv_iload_n C.1.1 C.1.2.1 dX3_fitBehind_16 rfl (lv_at hl 1 rfl) ?_
    refine lv_icmp_ne (tgt := 42) C.1.1 C.1.2.1 dX3_fitBehind_17 (by decide) (fun hc2 => ?_) (fun hc2 => ?_)
    · replace h := h.2 hc2
      exact v_X3_fitBehind_42 C hr hk  hK2 h w (lv_sub hl [0, 1, 2, 3] rfl)
    · replace h := h.1 hc2
      refine lv_aload_n C.1.1 C.1.2.1 dX3_fitBehind_20 rfl (lv_at hl 2 rfl) ?_
      refine gr_RX3_47 C w hx_12 lx_12 rfl dX3_fitBehind_21 ?_
      refine lv_aload_n C.1.1 C.1.2.1 dX3_fitBehind_24 rfl (lv_at hl 0 rfl) ?_
      refine gr_RX3_13 C w hx_25 lx_25 rfl dX3_fitBehind_25 ?_
      refine lv_iload_n C.1.1 C.1.2.1 dX3_fitBehind_28 rfl (lv_at hl 3 rfl) ?_
      refine q_ial C w hx_27 lx_27 h.1 dX3_fitBehind_29 ?_
      replace h := h.2
      refine q_ial C w hx_13 lx_13 h.1 dX3_fitBehind_30 ?_
      replace h := h.2
      refine lv_aload_n C.1.1 C.1.2.1 dX3_fitBehind_31 rfl (lv_at hl 0 rfl) ?_
      refine gr_RX3_16 C w hx_25 lx_25 rfl dX3_fitBehind_32 ?_
      refine lv_iload_n C.1.1 C.1.2.1 dX3_fitBehind_35 rfl (lv_at hl 3 rfl) ?_
      refine q_ial C w hx_28 lx_28 h.1 dX3_fitBehind_36 ?_
      replace h := h.2
      refine lv_icmp_eq (tgt := 42) C.1.1 C.1.2.1 dX3_fitBehind_37 (by decide) (fun hc3 => ?_) (fun hc3 => ?_)
      · replace h := h.1 hc3
        exact v_X3_fitBehind_42 C hr hk  hK2 h w (lv_sub hl [0, 1, 2, 3] rfl)
      · replace h := h.2 hc3
        refine lv_iconst (v := 0) C.1.1 C.1.2.1 dX3_fitBehind_40 (by decide) ?_
        exact q_iret C hr hk w rfl ⟨rfl, h⟩ dX3_fitBehind_41
set_option maxHeartbeats 4000000 in
set_option maxRecDepth 100000 in
theorem l_X3_fitBehind_2 {x1 : Int32} {M : Mem} {Q : Int32 → Prop} (C : Cx p s m args c cX3_fitBehind 4 RX3 g) (hr : meth.sig.returnType = (some .boolean)) (hk : meth.locks = false)  : ∀ (n : Nat) (x3 : Int32) (H : Heap) (locs : List Loc) (ls : Array Slot), fu1 (w_X3_fitBehind_2 x1 M Q) n x3 → Wd g layX 68 s.heap M H locs → lv_has ls 4 [(0, .ref (ga g 25)), (1, .int x1), (2, .ref (ga g 12)), (3, .int x3)] → W p l e (rmOf 0 0) s m args below meth c H locs 0 0 (MQ below (va_Qi (fun r M9 => M9 = M ∧ Q r) (PostW g layX 68) (gF g)) args s 0 0 (gF g)) (F0 m 2 ls []) := by
  intro n
  induction n with
  | zero => intro x3 H locs ls h; exact h.elim
  | succ n ih => intro x3 H locs ls h w hl; exact v_X3_fitBehind_2 C hr hk   ih h w hl
set_option maxHeartbeats 4000000 in
set_option maxRecDepth 100000 in
theorem c_X3_fitBehind {l : Launch} {g : Gt} {x1 : Int32} {M : Mem} {Q : Int32 → Prop} (h : w_X3_fitBehind x1 M Q) : MI l yX3_fitBehind cX3_fitBehind 4 (some .boolean) 0 0 g layX 68 [.ref (ga g 25), .int x1, .ref (ga g 12)] M (fun r M9 => M9 = M ∧ Q r) :=
  m_of (by decide +kernel) (Nat.le_of_ble_eq_true rfl) (fun p e s m args below meth c ls C hr hk w hl => by
    have C : Cx p s m args c cX3_fitBehind 4 RX3 g := C
    have hl : lv_has ls 4 [(0, .ref (ga g 25)), (1, .int x1), (2, .ref (ga g 12))] := hl
    unfold w_X3_fitBehind at h
    obtain ⟨H, eH⟩ : ∃ H : Heap, H = s.heap := ⟨_, rfl⟩
    obtain ⟨locs, el⟩ : ∃ locs : List Loc, locs = [] := ⟨_, rfl⟩
    have w : Wd g layX 68 s.heap M H locs := by rw [eH, el]; exact w
    suffices hw : W p l e (rmOf 0 0) s m args below meth c H locs 0 0 (MQ below (va_Qi (fun r M9 => M9 = M ∧ Q r) (PostW g layX 68) (gF g)) args s 0 0 (gF g)) (F0 m 0 ls []) by rw [eH, el] at hw; exact hw
    clear eH el
    refine lv_iconst (v := 0) C.1.1 C.1.2.1 dX3_fitBehind_0 (by decide) ?_
    refine lv_istore_n (lv' := [(3, .int 0), (0, .ref (ga g 25)), (1, .int x1), (2, .ref (ga g 12))]) C.1.1 C.1.2.1 dX3_fitBehind_1 rfl hl (by decide) rfl (fun ls hl => ?_)
    obtain ⟨n, h⟩ := h
    exact l_X3_fitBehind_2 C hr hk   n _ _ _ _ h w (lv_sub hl [1, 2, 3, 0] rfl))
-- fit
set_option maxHeartbeats 4000000 in
set_option maxRecDepth 100000 in
theorem v_X3_fit_7 {x2 : Int32} {x3 : Int32} {M : Mem} {K7 : Int32 → Mem → Prop} {Q : Int32 → Mem → Prop} {H : Heap} {locs : List Loc} {ls : Array Slot} (C : Cx p s m args c cX3_fit 4 RX3 g) (hr : meth.sig.returnType = (some .boolean)) (hk : meth.locks = false) (hK7 : ∀ (x3 : Int32) (M : Mem) (H : Heap) (locs : List Loc) (ls : Array Slot), K7 x3 M → Wd g layX 68 s.heap M H locs → lv_has ls 4 [(0, .ref (ga g 25)), (1, .ref (ga g 11)), (2, .int x2), (3, .int x3)] → W p l e (rmOf 4 89) s m args below meth c H locs 0 0 (MQ below (va_Qi Q (PostW g layX 68) (gF g)) args s 0 0 (gF g)) (F0 m 7 ls [])) (h : w_X3_fit_7 x2 Q K7 x3 M) (w : Wd g layX 68 s.heap M H locs) (hl : lv_has ls 4 [(0, .ref (ga g 25)), (1, .ref (ga g 11)), (2, .int x2), (3, .int x3)]) : W p l e (rmOf 4 89) s m args below meth c H locs 0 0 (MQ below (va_Qi Q (PostW g layX 68) (gF g)) args s 0 0 (gF g)) (F0 m 7 ls []) := by
  unfold w_X3_fit_7 at h
  refine lv_iload_n C.1.1 C.1.2.1 dX3_fit_7 rfl (lv_at hl 3 rfl) ?_
  refine lv_iload_n C.1.1 C.1.2.1 dX3_fit_8 rfl (lv_at hl 2 rfl) ?_
  refine lv_icmp_gt (tgt := 37) C.1.1 C.1.2.1 dX3_fit_9 (by decide) (fun hc2 => ?_) (fun hc2 => ?_)
  · replace h := h.1 hc2
    refine lv_iconst (v := 1) C.1.1 C.1.2.1 dX3_fit_37 (by decide) ?_
    exact q_iret C hr hk w rfl h dX3_fit_38
  · replace h := h.2 hc2
    refine lv_aload_n C.1.1 C.1.2.1 dX3_fit_12 rfl (lv_at hl 0 rfl) ?_
    refine lv_iload_n C.1.1 C.1.2.1 dX3_fit_13 rfl (lv_at hl 3 rfl) ?_
    refine lv_aload_n C.1.1 C.1.2.1 dX3_fit_14 rfl (lv_at hl 1 rfl) ?_
    refine gr_RX3_27 C w hx_11 lx_11 rfl dX3_fit_15 ?_
    refine q_pVi C w [.int x3, .ref (ga g 12)] (c_X3_fitBehind  h) kv_X3_fitBehind k_23 (rcv C w kc_X3 hx_25 lx_25) rfl hl.1 (Nat.le_of_ble_eq_true rfl) ⟨Nat.le_of_ble_eq_true rfl, Nat.le_of_ble_eq_true rfl⟩ dX3_fit_18 (fun r3 H locs h w => ?_)
    refine lv_if_ne (tgt := 26) C.1.1 C.1.2.1 dX3_fit_21 (by decide) (fun hc4 => ?_) (fun hc4 => ?_)
    · replace h := h.2 hc4
      refine lv_aload_n C.1.1 C.1.2.1 dX3_fit_26 rfl (lv_at hl 1 rfl) ?_
      refine lv_iconst (v := 0) C.1.1 C.1.2.1 dX3_fit_27 (by decide) ?_
      refine q_cVv C w [.int 0] (c_X6_passOne  h) kv_X6_passOne k_24 (rcv C w kc_X6 hx_11 lx_11) rfl hl.1 (Nat.le_of_ble_eq_true rfl) ⟨Nat.le_of_ble_eq_true rfl, Nat.le_of_ble_eq_true rfl⟩ dX3_fit_28 (fun M6 H locs h w => ?_)
      refine lv_iinc (v := x3 + 1) (lv' := [(3, .int (x3 + 1)), (0, .ref (ga g 25)), (1, .ref (ga g 11)), (2, .int x2)]) C.1.1 C.1.2.1 dX3_fit_31 hl (k := 3) rfl rfl (by decide) rfl (fun ls hl => ?_)
      refine lv_goto (tgt := 7) C.1.1 C.1.2.1 dX3_fit_34 (by decide) ?_
      exact hK7 _ _ _ _ _ h w (lv_sub hl [1, 2, 3, 0] rfl)
    · replace h := h.1 hc4
      refine lv_iconst (v := 0) C.1.1 C.1.2.1 dX3_fit_24 (by decide) ?_
      exact q_iret C hr hk w rfl h dX3_fit_25
set_option maxHeartbeats 4000000 in
set_option maxRecDepth 100000 in
theorem l_X3_fit_7 {x2 : Int32} {Q : Int32 → Mem → Prop} (C : Cx p s m args c cX3_fit 4 RX3 g) (hr : meth.sig.returnType = (some .boolean)) (hk : meth.locks = false)  : ∀ (n : Nat) (x3 : Int32) (M : Mem) (H : Heap) (locs : List Loc) (ls : Array Slot), fu2 (w_X3_fit_7 x2 Q) n x3 M → Wd g layX 68 s.heap M H locs → lv_has ls 4 [(0, .ref (ga g 25)), (1, .ref (ga g 11)), (2, .int x2), (3, .int x3)] → W p l e (rmOf 4 89) s m args below meth c H locs 0 0 (MQ below (va_Qi Q (PostW g layX 68) (gF g)) args s 0 0 (gF g)) (F0 m 7 ls []) := by
  intro n
  induction n with
  | zero => intro x3 M H locs ls h; exact h.elim
  | succ n ih => intro x3 M H locs ls h w hl; exact v_X3_fit_7 C hr hk   ih h w hl
set_option maxHeartbeats 4000000 in
set_option maxRecDepth 100000 in
theorem c_X3_fit {l : Launch} {g : Gt} {M : Mem} {Q : Int32 → Mem → Prop} (h : w_X3_fit M Q) : MI l yX3_fit cX3_fit 4 (some .boolean) 4 89 g layX 68 [.ref (ga g 25), .ref (ga g 11)] M Q :=
  m_of (by decide +kernel) (Nat.le_of_ble_eq_true rfl) (fun p e s m args below meth c ls C hr hk w hl => by
    have C : Cx p s m args c cX3_fit 4 RX3 g := C
    have hl : lv_has ls 4 [(0, .ref (ga g 25)), (1, .ref (ga g 11))] := hl
    unfold w_X3_fit at h
    obtain ⟨H, eH⟩ : ∃ H : Heap, H = s.heap := ⟨_, rfl⟩
    obtain ⟨locs, el⟩ : ∃ locs : List Loc, locs = [] := ⟨_, rfl⟩
    have w : Wd g layX 68 s.heap M H locs := by rw [eH, el]; exact w
    suffices hw : W p l e (rmOf 4 89) s m args below meth c H locs 0 0 (MQ below (va_Qi Q (PostW g layX 68) (gF g)) args s 0 0 (gF g)) (F0 m 0 ls []) by rw [eH, el] at hw; exact hw
    clear eH el
    refine lv_aload_n C.1.1 C.1.2.1 dX3_fit_0 rfl (lv_at hl 0 rfl) ?_
    refine q_pVi C w [] (c_X3_latestNight  h) kv_X3_latestNight k_22 (rcv C w kc_X3 hx_25 lx_25) rfl hl.1 (Nat.le_of_ble_eq_true rfl) ⟨Nat.le_of_ble_eq_true rfl, Nat.le_of_ble_eq_true rfl⟩ dX3_fit_1 (fun r1 H locs h w => ?_)
    refine lv_istore_n (lv' := [(2, .int r1), (0, .ref (ga g 25)), (1, .ref (ga g 11))]) C.1.1 C.1.2.1 dX3_fit_4 rfl hl (by decide) rfl (fun ls hl => ?_)
    refine lv_iconst (v := 0) C.1.1 C.1.2.1 dX3_fit_5 (by decide) ?_
    refine lv_istore_n (lv' := [(3, .int 0), (2, .int r1), (0, .ref (ga g 25)), (1, .ref (ga g 11))]) C.1.1 C.1.2.1 dX3_fit_6 rfl hl (by decide) rfl (fun ls hl => ?_)
    obtain ⟨n, h⟩ := h
    exact l_X3_fit_7 C hr hk   n _ _ _ _ _ h w (lv_sub hl [2, 3, 1, 0] rfl))
-- append
set_option maxHeartbeats 4000000 in
set_option maxRecDepth 100000 in
theorem c_X4_append {l : Launch} {g : Gt} {x1 : Int32} {M : Mem} {Q : Int32 → Mem → Prop} (h : w_X4_append x1 M Q) : MI l yX4_append cX4_append 2 (some .boolean) 0 0 g layX 68 [.ref (ga g 22), .int x1] M Q :=
  m_of (by decide +kernel) (Nat.le_of_ble_eq_true rfl) (fun p e s m args below meth c ls C hr hk w hl => by
    have C : Cx p s m args c cX4_append 2 RX4 g := C
    have hl : lv_has ls 2 [(0, .ref (ga g 22)), (1, .int x1)] := hl
    unfold w_X4_append at h
    obtain ⟨H, eH⟩ : ∃ H : Heap, H = s.heap := ⟨_, rfl⟩
    obtain ⟨locs, el⟩ : ∃ locs : List Loc, locs = [] := ⟨_, rfl⟩
    have w : Wd g layX 68 s.heap M H locs := by rw [eH, el]; exact w
    suffices hw : W p l e (rmOf 0 0) s m args below meth c H locs 0 0 (MQ below (va_Qi Q (PostW g layX 68) (gF g)) args s 0 0 (gF g)) (F0 m 0 ls []) by rw [eH, el] at hw; exact hw
    clear eH el
    refine lv_aload_n C.1.1 C.1.2.1 dX4_append_0 rfl (lv_at hl 0 rfl) ?_
    refine gi_RX4_13 C w hx_22 lx_22 rfl dX4_append_1 ?_
    refine lv_sipush (v := 160) C.1.1 C.1.2.1 dX4_append_4 (by decide) ?_
    refine lv_icmp_lt (tgt := 12) C.1.1 C.1.2.1 dX4_append_7 (by decide) (fun hc1 => ?_) (fun hc1 => ?_)
    · replace h := h.1 hc1
      refine lv_aload_n C.1.1 C.1.2.1 dX4_append_12 rfl (lv_at hl 0 rfl) ?_
      refine gr_RX4_9 C w hx_22 lx_22 rfl dX4_append_13 ?_
      refine lv_aload_n C.1.1 C.1.2.1 dX4_append_16 rfl (lv_at hl 0 rfl) ?_
      refine gi_RX4_13 C w hx_22 lx_22 rfl dX4_append_17 ?_
      refine lv_iload_n C.1.1 C.1.2.1 dX4_append_20 rfl (lv_at hl 1 rfl) ?_
      refine lv_i2b C.1.1 C.1.2.1 dX4_append_21 rfl ?_
      refine q_bas C w hx_23 lx_23 h.1 dX4_append_22 (fun M2 H locs eM2 w => ?_)
      replace h := h.2 M2 eM2
      refine lv_aload_n C.1.1 C.1.2.1 dX4_append_23 rfl (lv_at hl 0 rfl) ?_
      refine lv_dup C.1.1 C.1.2.1 dX4_append_24 rfl ?_
      refine gi_RX4_13 C w hx_22 lx_22 rfl dX4_append_25 ?_
      refine lv_iconst (v := 1) C.1.1 C.1.2.1 dX4_append_28 (by decide) ?_
      refine lv_iadd C.1.1 C.1.2.1 dX4_append_29 ?_
      refine pi_RX4_13 C w hx_22 lx_22 rfl dX4_append_30 (fun M3 H locs eM3 w => ?_)
      replace h := h M3 eM3
      refine lv_iconst (v := 1) C.1.1 C.1.2.1 dX4_append_33 (by decide) ?_
      exact q_iret C hr hk w rfl h dX4_append_34
    · replace h := h.2 hc1
      refine lv_iconst (v := 0) C.1.1 C.1.2.1 dX4_append_10 (by decide) ?_
      exact q_iret C hr hk w rfl h dX4_append_11)
-- isBetween
set_option maxHeartbeats 4000000 in
set_option maxRecDepth 100000 in
theorem c_X4_isBetween {l : Launch} {g : Gt} {x1 : Int32} {x2 : Int32} {x3 : Int32} {M : Mem} {Q : Int32 → Prop} (h : w_X4_isBetween x1 x2 x3 M Q) : MI l yX4_isBetween cX4_isBetween 4 (some .boolean) 0 0 g layX 68 [.ref (ga g 22), .int x1, .int x2, .int x3] M (fun r M9 => M9 = M ∧ Q r) :=
  m_of (by decide +kernel) (Nat.le_of_ble_eq_true rfl) (fun p e s m args below meth c ls C hr hk w hl => by
    have C : Cx p s m args c cX4_isBetween 4 RX4 g := C
    have hl : lv_has ls 4 [(0, .ref (ga g 22)), (1, .int x1), (2, .int x2), (3, .int x3)] := hl
    unfold w_X4_isBetween at h
    obtain ⟨H, eH⟩ : ∃ H : Heap, H = s.heap := ⟨_, rfl⟩
    obtain ⟨locs, el⟩ : ∃ locs : List Loc, locs = [] := ⟨_, rfl⟩
    have w : Wd g layX 68 s.heap M H locs := by rw [eH, el]; exact w
    suffices hw : W p l e (rmOf 0 0) s m args below meth c H locs 0 0 (MQ below (va_Qi (fun r M9 => M9 = M ∧ Q r) (PostW g layX 68) (gF g)) args s 0 0 (gF g)) (F0 m 0 ls []) by rw [eH, el] at hw; exact hw
    clear eH el
    refine lv_iload_n C.1.1 C.1.2.1 dX4_isBetween_0 rfl (lv_at hl 1 rfl) ?_
    refine lv_if_lt (tgt := 36) C.1.1 C.1.2.1 dX4_isBetween_1 (by decide) (fun hc1 => ?_) (fun hc1 => ?_)
    · replace h := h.1 hc1
      refine lv_iconst (v := 0) C.1.1 C.1.2.1 dX4_isBetween_36 (by decide) ?_
      exact q_iret C hr hk w rfl ⟨rfl, h⟩ dX4_isBetween_37
    · replace h := h.2 hc1
      refine lv_iload_n C.1.1 C.1.2.1 dX4_isBetween_4 rfl (lv_at hl 1 rfl) ?_
      refine lv_aload_n C.1.1 C.1.2.1 dX4_isBetween_5 rfl (lv_at hl 0 rfl) ?_
      refine gi_RX4_13 C w hx_22 lx_22 rfl dX4_isBetween_6 ?_
      refine lv_icmp_ge (tgt := 36) C.1.1 C.1.2.1 dX4_isBetween_9 (by decide) (fun hc2 => ?_) (fun hc2 => ?_)
      · replace h := h.1 hc2
        refine lv_iconst (v := 0) C.1.1 C.1.2.1 dX4_isBetween_36 (by decide) ?_
        exact q_iret C hr hk w rfl ⟨rfl, h⟩ dX4_isBetween_37
      · replace h := h.2 hc2
        refine lv_aload_n C.1.1 C.1.2.1 dX4_isBetween_12 rfl (lv_at hl 0 rfl) ?_
        refine gr_RX4_9 C w hx_22 lx_22 rfl dX4_isBetween_13 ?_
        refine lv_iload_n C.1.1 C.1.2.1 dX4_isBetween_16 rfl (lv_at hl 1 rfl) ?_
        refine q_bal C w hx_23 lx_23 h.1 dX4_isBetween_17 ?_
        replace h := h.2
        refine lv_iload_n C.1.1 C.1.2.1 dX4_isBetween_18 rfl (lv_at hl 2 rfl) ?_
        refine lv_icmp_lt (tgt := 36) C.1.1 C.1.2.1 dX4_isBetween_19 (by decide) (fun hc3 => ?_) (fun hc3 => ?_)
        · replace h := h.1 hc3
          refine lv_iconst (v := 0) C.1.1 C.1.2.1 dX4_isBetween_36 (by decide) ?_
          exact q_iret C hr hk w rfl ⟨rfl, h⟩ dX4_isBetween_37
        · replace h := h.2 hc3
          refine lv_aload_n C.1.1 C.1.2.1 dX4_isBetween_22 rfl (lv_at hl 0 rfl) ?_
          refine gr_RX4_9 C w hx_22 lx_22 rfl dX4_isBetween_23 ?_
          refine lv_iload_n C.1.1 C.1.2.1 dX4_isBetween_26 rfl (lv_at hl 1 rfl) ?_
          refine q_bal C w hx_23 lx_23 h.1 dX4_isBetween_27 ?_
          replace h := h.2
          refine lv_iload_n C.1.1 C.1.2.1 dX4_isBetween_28 rfl (lv_at hl 3 rfl) ?_
          refine lv_icmp_gt (tgt := 36) C.1.1 C.1.2.1 dX4_isBetween_29 (by decide) (fun hc4 => ?_) (fun hc4 => ?_)
          · replace h := h.1 hc4
            refine lv_iconst (v := 0) C.1.1 C.1.2.1 dX4_isBetween_36 (by decide) ?_
            exact q_iret C hr hk w rfl ⟨rfl, h⟩ dX4_isBetween_37
          · replace h := h.2 hc4
            refine lv_iconst (v := 1) C.1.1 C.1.2.1 dX4_isBetween_32 (by decide) ?_
            refine lv_goto (tgt := 37) C.1.1 C.1.2.1 dX4_isBetween_33 (by decide) ?_
            exact q_iret C hr hk w rfl ⟨rfl, h⟩ dX4_isBetween_37)
-- begin
set_option maxHeartbeats 4000000 in
set_option maxRecDepth 100000 in
theorem c_X6_begin {l : Launch} {g : Gt} {M : Mem} {Q : Mem → Prop} (h : w_X6_begin M Q) : MV l yX6_begin cX6_begin 2 none 2 47 g layX 68 [.ref (ga g 11), .ref (ga g 1)] M Q :=
  m_of (by decide +kernel) (Nat.le_of_ble_eq_true rfl) (fun p e s m args below meth c ls C hr hk w hl => by
    have C : Cx p s m args c cX6_begin 2 RX6 g := C
    have hl : lv_has ls 2 [(0, .ref (ga g 11)), (1, .ref (ga g 1))] := hl
    unfold w_X6_begin at h
    obtain ⟨H, eH⟩ : ∃ H : Heap, H = s.heap := ⟨_, rfl⟩
    obtain ⟨locs, el⟩ : ∃ locs : List Loc, locs = [] := ⟨_, rfl⟩
    have w : Wd g layX 68 s.heap M H locs := by rw [eH, el]; exact w
    suffices hw : W p l e (rmOf 2 47) s m args below meth c H locs 0 0 (MQ below (va_Qv Q (PostW g layX 68) (gF g)) args s 0 0 (gF g)) (F0 m 0 ls []) by rw [eH, el] at hw; exact hw
    clear eH el
    refine lv_aload_n C.1.1 C.1.2.1 dX6_begin_0 rfl (lv_at hl 0 rfl) ?_
    refine gr_RX6_10 C w hx_11 lx_11 rfl dX6_begin_1 ?_
    refine lv_aload_n C.1.1 C.1.2.1 dX6_begin_4 rfl (lv_at hl 1 rfl) ?_
    refine q_cVv C w [.ref (ga g 1)] (c_X0_copyFrom isE_12 isE_1 h) kv_X0_copyFrom k_25 (rcv C w kc_X0 hx_12 lx_12) rfl hl.1 (Nat.le_of_ble_eq_true rfl) ⟨Nat.le_of_ble_eq_true rfl, Nat.le_of_ble_eq_true rfl⟩ dX6_begin_5 (fun M2 H locs h w => ?_)
    refine lv_aload_n C.1.1 C.1.2.1 dX6_begin_8 rfl (lv_at hl 0 rfl) ?_
    refine lv_iconst (v := 0) C.1.1 C.1.2.1 dX6_begin_9 (by decide) ?_
    refine pi_RX6_20 C w hx_11 lx_11 rfl dX6_begin_10 (fun M3 H locs eM3 w => ?_)
    replace h := h M3 eM3
    refine lv_aload_n C.1.1 C.1.2.1 dX6_begin_13 rfl (lv_at hl 0 rfl) ?_
    refine lv_iconst (v := 0) C.1.1 C.1.2.1 dX6_begin_14 (by decide) ?_
    refine pi_RX6_24 C w hx_11 lx_11 rfl dX6_begin_15 (fun M4 H locs eM4 w => ?_)
    replace h := h M4 eM4
    refine lv_aload_n C.1.1 C.1.2.1 dX6_begin_18 rfl (lv_at hl 0 rfl) ?_
    refine lv_iconst (v := 0) C.1.1 C.1.2.1 dX6_begin_19 (by decide) ?_
    refine pi_RX6_27 C w hx_11 lx_11 rfl dX6_begin_20 (fun M5 H locs eM5 w => ?_)
    replace h := h M5 eM5
    refine lv_aload_n C.1.1 C.1.2.1 dX6_begin_23 rfl (lv_at hl 0 rfl) ?_
    refine lv_iconst (v := 0) C.1.1 C.1.2.1 dX6_begin_24 (by decide) ?_
    refine pi_RX6_30 C w hx_11 lx_11 rfl dX6_begin_25 (fun M6 H locs eM6 w => ?_)
    replace h := h M6 eM6
    refine lv_aload_n C.1.1 C.1.2.1 dX6_begin_28 rfl (lv_at hl 0 rfl) ?_
    refine lv_iconst (v := 0) C.1.1 C.1.2.1 dX6_begin_29 (by decide) ?_
    refine pi_RX6_33 C w hx_11 lx_11 rfl dX6_begin_30 (fun M7 H locs eM7 w => ?_)
    replace h := h M7 eM7
    exact q_vret C hr hk w h dX6_begin_33)
-- pass
set_option maxHeartbeats 4000000 in
set_option maxRecDepth 100000 in
theorem v_X6_pass_2 {x1 : Int32} {x2 : Int32} {M : Mem} {K2 : Int32 → Mem → Prop} {Q : Mem → Prop} {H : Heap} {locs : List Loc} {ls : Array Slot} (C : Cx p s m args c cX6_pass 3 RX6 g) (hr : meth.sig.returnType = none) (hk : meth.locks = false) (hK2 : ∀ (x2 : Int32) (M : Mem) (H : Heap) (locs : List Loc) (ls : Array Slot), K2 x2 M → Wd g layX 68 s.heap M H locs → lv_has ls 3 [(0, .ref (ga g 11)), (1, .int x1), (2, .int x2)] → W p l e (rmOf 4 89) s m args below meth c H locs 0 0 (MQ below (va_Qv Q (PostW g layX 68) (gF g)) args s 0 0 (gF g)) (F0 m 2 ls [])) (h : w_X6_pass_2 x1 Q K2 x2 M) (w : Wd g layX 68 s.heap M H locs) (hl : lv_has ls 3 [(0, .ref (ga g 11)), (1, .int x1), (2, .int x2)]) : W p l e (rmOf 4 89) s m args below meth c H locs 0 0 (MQ below (va_Qv Q (PostW g layX 68) (gF g)) args s 0 0 (gF g)) (F0 m 2 ls []) := by
  unfold w_X6_pass_2 at h
  refine lv_iload_n C.1.1 C.1.2.1 dX6_pass_2 rfl (lv_at hl 2 rfl) ?_
  refine lv_iload_n C.1.1 C.1.2.1 dX6_pass_3 rfl (lv_at hl 1 rfl) ?_
  refine lv_icmp_ge (tgt := 18) C.1.1 C.1.2.1 dX6_pass_4 (by decide) (fun hc1 => ?_) (fun hc1 => ?_)
  · replace h := h.1 hc1
    exact q_vret C hr hk w h dX6_pass_18
  · replace h := h.2 hc1
    refine lv_aload_n C.1.1 C.1.2.1 dX6_pass_7 rfl (lv_at hl 0 rfl) ?_
    refine lv_iconst (v := 0) C.1.1 C.1.2.1 dX6_pass_8 (by decide) ?_
    refine q_cVv C w [.int 0] (c_X6_passOne  h) kv_X6_passOne k_26 (rcv C w kc_X6 hx_11 lx_11) rfl hl.1 (Nat.le_of_ble_eq_true rfl) ⟨Nat.le_of_ble_eq_true rfl, Nat.le_of_ble_eq_true rfl⟩ dX6_pass_9 (fun M3 H locs h w => ?_)
    refine lv_iinc (v := x2 + 1) (lv' := [(2, .int (x2 + 1)), (0, .ref (ga g 11)), (1, .int x1)]) C.1.1 C.1.2.1 dX6_pass_12 hl (k := 2) rfl rfl (by decide) rfl (fun ls hl => ?_)
    refine lv_goto (tgt := 2) C.1.1 C.1.2.1 dX6_pass_15 (by decide) ?_
    exact hK2 _ _ _ _ _ h w (lv_sub hl [1, 2, 0] rfl)
set_option maxHeartbeats 4000000 in
set_option maxRecDepth 100000 in
theorem l_X6_pass_2 {x1 : Int32} {Q : Mem → Prop} (C : Cx p s m args c cX6_pass 3 RX6 g) (hr : meth.sig.returnType = none) (hk : meth.locks = false)  : ∀ (n : Nat) (x2 : Int32) (M : Mem) (H : Heap) (locs : List Loc) (ls : Array Slot), fu2 (w_X6_pass_2 x1 Q) n x2 M → Wd g layX 68 s.heap M H locs → lv_has ls 3 [(0, .ref (ga g 11)), (1, .int x1), (2, .int x2)] → W p l e (rmOf 4 89) s m args below meth c H locs 0 0 (MQ below (va_Qv Q (PostW g layX 68) (gF g)) args s 0 0 (gF g)) (F0 m 2 ls []) := by
  intro n
  induction n with
  | zero => intro x2 M H locs ls h; exact h.elim
  | succ n ih => intro x2 M H locs ls h w hl; exact v_X6_pass_2 C hr hk   ih h w hl
set_option maxHeartbeats 4000000 in
set_option maxRecDepth 100000 in
theorem c_X6_pass {l : Launch} {g : Gt} {x1 : Int32} {M : Mem} {Q : Mem → Prop} (h : w_X6_pass x1 M Q) : MV l yX6_pass cX6_pass 3 none 4 89 g layX 68 [.ref (ga g 11), .int x1] M Q :=
  m_of (by decide +kernel) (Nat.le_of_ble_eq_true rfl) (fun p e s m args below meth c ls C hr hk w hl => by
    have C : Cx p s m args c cX6_pass 3 RX6 g := C
    have hl : lv_has ls 3 [(0, .ref (ga g 11)), (1, .int x1)] := hl
    unfold w_X6_pass at h
    obtain ⟨H, eH⟩ : ∃ H : Heap, H = s.heap := ⟨_, rfl⟩
    obtain ⟨locs, el⟩ : ∃ locs : List Loc, locs = [] := ⟨_, rfl⟩
    have w : Wd g layX 68 s.heap M H locs := by rw [eH, el]; exact w
    suffices hw : W p l e (rmOf 4 89) s m args below meth c H locs 0 0 (MQ below (va_Qv Q (PostW g layX 68) (gF g)) args s 0 0 (gF g)) (F0 m 0 ls []) by rw [eH, el] at hw; exact hw
    clear eH el
    refine lv_iconst (v := 0) C.1.1 C.1.2.1 dX6_pass_0 (by decide) ?_
    refine lv_istore_n (lv' := [(2, .int 0), (0, .ref (ga g 11)), (1, .int x1)]) C.1.1 C.1.2.1 dX6_pass_1 rfl hl (by decide) rfl (fun ls hl => ?_)
    obtain ⟨n, h⟩ := h
    exact l_X6_pass_2 C hr hk   n _ _ _ _ _ h w (lv_sub hl [1, 2, 0] rfl))
-- wasCaught
set_option maxHeartbeats 4000000 in
set_option maxRecDepth 100000 in
theorem c_X6_wasCaught {l : Launch} {g : Gt} {x1 : Int32} {M : Mem} {Q : Int32 → Prop} (h : w_X6_wasCaught x1 M Q) : MI l yX6_wasCaught cX6_wasCaught 2 (some .boolean) 0 0 g layX 68 [.ref (ga g 11), .int x1] M (fun r M9 => M9 = M ∧ Q r) :=
  m_of (by decide +kernel) (Nat.le_of_ble_eq_true rfl) (fun p e s m args below meth c ls C hr hk w hl => by
    have C : Cx p s m args c cX6_wasCaught 2 RX6 g := C
    have hl : lv_has ls 2 [(0, .ref (ga g 11)), (1, .int x1)] := hl
    unfold w_X6_wasCaught at h
    obtain ⟨H, eH⟩ : ∃ H : Heap, H = s.heap := ⟨_, rfl⟩
    obtain ⟨locs, el⟩ : ∃ locs : List Loc, locs = [] := ⟨_, rfl⟩
    have w : Wd g layX 68 s.heap M H locs := by rw [eH, el]; exact w
    suffices hw : W p l e (rmOf 0 0) s m args below meth c H locs 0 0 (MQ below (va_Qi (fun r M9 => M9 = M ∧ Q r) (PostW g layX 68) (gF g)) args s 0 0 (gF g)) (F0 m 0 ls []) by rw [eH, el] at hw; exact hw
    clear eH el
    refine lv_aload_n C.1.1 C.1.2.1 dX6_wasCaught_0 rfl (lv_at hl 0 rfl) ?_
    refine gi_RX6_30 C w hx_11 lx_11 rfl dX6_wasCaught_1 ?_
    refine lv_iload_n C.1.1 C.1.2.1 dX6_wasCaught_4 rfl (lv_at hl 1 rfl) ?_
    refine q_ishr C dX6_wasCaught_5 ?_
    refine lv_iconst (v := 1) C.1.1 C.1.2.1 dX6_wasCaught_6 (by decide) ?_
    refine lv_iand C.1.1 C.1.2.1 dX6_wasCaught_7 ?_
    refine lv_iconst (v := 1) C.1.1 C.1.2.1 dX6_wasCaught_8 (by decide) ?_
    have J : ∀ ls : Array Slot, lv_has ls 2 [] → W p l e (rmOf 0 0) s m args below meth c H locs 0 0 (MQ below (va_Qi (fun r M9 => M9 = M ∧ Q r) (PostW g layX 68) (gF g)) args s 0 0 (gF g)) (F0 m 17 ls [.int (if ((sr (M 11 4) x1) &&& 1) = 1 then (1 : Int32) else 0)]) := by
      intro ls hl
      exact q_iret C hr hk w h.1 ⟨rfl, h.2⟩ dX6_wasCaught_17
    refine lv_icmp_ne (tgt := 16) C.1.1 C.1.2.1 dX6_wasCaught_9 (by decide) (fun hc1 => ?_) (fun hc1 => ?_)
    · refine lv_iconst (v := 0) C.1.1 C.1.2.1 dX6_wasCaught_16 (by decide) ?_
      simp only [if_neg hc1] at J hl
      exact J ls (lv_sub hl [] rfl)
    · refine lv_iconst (v := 1) C.1.1 C.1.2.1 dX6_wasCaught_12 (by decide) ?_
      refine lv_goto (tgt := 17) C.1.1 C.1.2.1 dX6_wasCaught_13 (by decide) ?_
      simp only [if_pos hc1] at J hl
      exact J ls (lv_sub hl [] rfl))
end
