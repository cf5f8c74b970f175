-- see
def w_X7_see (x1 : Int32) (x2 : Int32) (x3 : Int32) (M : Mem) (Q : Int32 → Mem → Prop) : Prop :=
  w_X7_isOutside x1 0 20 M (fun r1 => (r1 = 0 → w_X7_isNoGate x2 M (fun r3 => (r3 = 0 → w_X7_isOutside x3 0 60 M (fun r5 => (r5 = 0 → w_X3_add x1 x2 x3 M (fun r7 M8 => Q (if r7 = 0 then (-3 : Int32) else (M8 25 3)) M8)) ∧ (¬ r5 = 0 → Q (-1) M))) ∧ (¬ r3 = 0 → Q (-1) M))) ∧ (¬ r1 = 0 → Q (-1) M))
-- forget
def w_X7_forget (x1 : Int32) (M : Mem) (Q : Int32 → Mem → Prop) : Prop :=
  w_X7_isOutside x1 0 (M 25 3) M (fun r1 => (r1 = 0 → ∀ M3, M3 = mu M 25 3 x1 → Q (M 25 3) M3) ∧ (¬ r1 = 0 → Q (-1) M))
-- fittingBits
def w_X7_fittingBits_6 (r : Nat) (nr : Nat) (x1 : Int32) (x3 : Int32) (Q : Int32 → Mem → Prop) (K6 : Int32 → Int32 → Mem → Prop) (x4 : Int32) (x5 : Int32) (M : Mem) : Prop :=
  (x3 < x5 → Q x4 M) ∧ (¬ x3 < x5 → w_X6_begin M (fun M3 => vp_in x1 nr ∧ ∀ M4, M4 = mu M3 r x1.toNatClampNeg x5 → w_X3_fit M4 (fun r5 M6 => K6 (if r5 = 0 then x4 else (x4 ||| (sl 1 x5))) (x5 + 1) M6)))
def w_X7_fittingBits (r : Nat) (nr : Nat) (x1 : Int32) (x3 : Int32) (M : Mem) (Q : Int32 → Mem → Prop) : Prop :=
  ∃ n, fu3 (w_X7_fittingBits_6 r nr x1 x3 Q) n 0 0 M
-- kinds
def w_X7_kinds (x1 : Int32) (M : Mem) (Q : Int32 → Mem → Prop) : Prop :=
  w_X7_isNoTaker x1 M (fun r1 => (r1 = 0 → w_X7_fittingBits 15 5 x1 3 M (fun r3 M4 => Q r3 M4)) ∧ (¬ r1 = 0 → Q (-1) M))
-- gates
def w_X7_gates (x1 : Int32) (M : Mem) (Q : Int32 → Mem → Prop) : Prop :=
  w_X7_isNoTaker x1 M (fun r1 => (r1 = 0 → w_X7_fittingBits 16 5 x1 5 M (fun r3 M4 => Q r3 M4)) ∧ (¬ r1 = 0 → Q (-1) M))
-- ask
def w_X7_ask_184 (x2 : Int32) (x4 : Int32) (x5 : Int32) (M : Mem) (Q : Int32 → Mem → Prop) : Prop :=
  Q (if x2 = 0 then x4 else (if x4 = (-4) then x4 else x5)) M
def w_X7_ask_178 (x2 : Int32) (x4 : Int32) (x5 : Int32) (x6 : Int32) (M : Mem) (K121 : Int32 → Int32 → Int32 → Prop) (Q : Int32 → Mem → Prop) : Prop :=
  K121 x4 x5 (x6 + 1)
def w_X7_ask_131 (x2 : Int32) (x6 : Int32) (M : Mem) (K121 : Int32 → Int32 → Int32 → Prop) (Q : Int32 → Mem → Prop) (K131 : Int32 → Int32 → Int32 → Prop) (x4 : Int32) (x5 : Int32) (x7 : Int32) : Prop :=
  (6 ≤ x7 → w_X7_ask_178 x2 x4 x5 x6 M K121 Q) ∧ (¬ 6 ≤ x7 → w_X1_leftAtWorst x6 x7 M (fun r14 => K131 (if x5 ≤ r14 then x4 else ((10 * x6) + x7)) (if x5 ≤ r14 then x5 else r14) (x7 + 1)))
def w_X7_ask_121 (x2 : Int32) (M : Mem) (Q : Int32 → Mem → Prop) (K121 : Int32 → Int32 → Int32 → Prop) (x4 : Int32) (x5 : Int32) (x6 : Int32) : Prop :=
  (20 < x6 → w_X7_ask_184 x2 x4 x5 M Q) ∧ (¬ 20 < x6 → ∃ n, fu3 (w_X7_ask_131 x2 x6 M K121 Q) n x4 x5 0)
def w_X7_ask_105 (x2 : Int32) (M : Mem) (Q : Int32 → Mem → Prop) : Prop :=
  ∃ n, fu3 (w_X7_ask_121 x2 M Q) n (-4) (M 29 1) 0
def w_X7_ask_99 (x1 : Int32) (x2 : Int32) (x3 : Int32) (x4 : Int32) (M : Mem) (K46 : Int32 → Mem → Prop) (Q : Int32 → Mem → Prop) : Prop :=
  K46 (x4 + 1) M
def w_X7_ask_46 (x1 : Int32) (x2 : Int32) (x3 : Int32) (Q : Int32 → Mem → Prop) (K46 : Int32 → Mem → Prop) (x4 : Int32) (M : Mem) : Prop :=
  (6 ≤ x4 → w_X7_ask_105 x2 M Q) ∧ (¬ 6 ≤ x4 → (((sr x3 x4) &&& 1) = 1 → w_X6_begin M (fun M18 => vp_in x1 5 ∧ ∀ M19, M19 = mu M18 16 x1.toNatClampNeg x4 → w_X1_add M19 (fun M21 => w_X7_ask_99 x1 x2 x3 x4 M21 K46 Q))) ∧ (¬ ((sr x3 x4) &&& 1) = 1 → w_X7_ask_99 x1 x2 x3 x4 M K46 Q))
def w_X7_ask (x1 : Int32) (x2 : Int32) (M : Mem) (Q : Int32 → Mem → Prop) : Prop :=
  w_X7_isNoTaker x1 M (fun r1 => (r1 = 0 → w_X7_isOutside x2 0 1 M (fun r3 => (r3 = 0 → w_X1_clear M (fun M6 => w_X7_fittingBits 16 5 x1 5 M6 (fun r7 M8 => ∃ n, fu2 (w_X7_ask_46 x1 x2 r7 Q) n 0 M8))) ∧ (¬ r3 = 0 → Q (-1) M))) ∧ (¬ r1 = 0 → Q (-1) M))
-- drift
def w_X7_drift_123 (x3 : Int32) (M : Mem) (Q : Int32 → Mem → Prop) : Prop :=
  Q (if x3 = 0 then (M 11 2) else (M 11 3)) M
def w_X7_drift_51 (x2 : Int32) (x3 : Int32) (Q : Int32 → Mem → Prop) (K51 : Int32 → Int32 → Mem → Prop) (x4 : Int32) (x5 : Int32) (M : Mem) : Prop :=
  (x2 ≤ x5 → w_X7_drift_123 x3 M Q) ∧ (¬ x2 ≤ x5 → ¬ (M 1 9) = 0 ∧ vp_in (irm ((su ((x4 * 1103515245) + 12345) 16) &&& 32767) (M 1 9)) 5 ∧ ∀ M10, M10 = mu M 16 (irm ((su ((x4 * 1103515245) + 12345) 16) &&& 32767) (M 1 9)).toNatClampNeg (irm (((su ((x4 * 1103515245) + 12345) 16) &&& 32767) / 8) 6) → w_X6_passOne 0 M10 (fun M12 => K51 ((x4 * 1103515245) + 12345) (x5 + 1) M12))
def w_X7_drift (x1 : Int32) (x2 : Int32) (x3 : Int32) (M : Mem) (Q : Int32 → Mem → Prop) : Prop :=
  w_X7_isOutside x2 1 60 M (fun r1 => (r1 = 0 → w_X7_isOutside x3 0 1 M (fun r3 => (r3 = 0 → (0 < (M 1 9) → w_X6_begin M (fun M7 => ∃ n, fu3 (w_X7_drift_51 x2 x3 Q) n x1 0 M7)) ∧ (¬ 0 < (M 1 9) → Q (-2) M)) ∧ (¬ r3 = 0 → Q (-1) M))) ∧ (¬ r1 = 0 → Q (-1) M))
-- keep
def w_X7_keep (x1 : Int32) (M : Mem) (Q : Int32 → Mem → Prop) : Prop :=
  w_X7_isOutside x1 0 1 M (fun r1 => (r1 = 0 → vp_in x1 2 ∧ vp_in x1 2 ∧ w_X0_copyFrom (imgI x1.toNatClampNeg) 1 M (fun M6 => vp_in x1 2 ∧ ∀ M7, M7 = mu M6 38 x1.toNatClampNeg (vp_nar .boolean 1) → Q (if (M 38 x1.toNatClampNeg) = 0 then (0 : Int32) else 1) M7)) ∧ (¬ r1 = 0 → Q (-1) M))
-- back
def w_X7_back (x1 : Int32) (M : Mem) (Q : Int32 → Mem → Prop) : Prop :=
  w_X7_isOutside x1 0 1 M (fun r1 => (r1 = 0 → vp_in x1 2 ∧ ((M 38 x1.toNatClampNeg) = 0 → Q (-2) M) ∧ (¬ (M 38 x1.toNatClampNeg) = 0 → vp_in x1 2 ∧ w_X0_copyFrom 1 (imgI x1.toNatClampNeg) M (fun M6 => Q (M6 1 11) M6))) ∧ (¬ r1 = 0 → Q (-1) M))
-- isNoSheet
def w_X7_isNoSheet (x0 : Int32) (M : Mem) (Q : Int32 → Prop) : Prop :=
  w_X7_isOutside x0 0 3 M (fun r1 => narrow .boolean (.int r1) = .int r1 ∧ Q r1)
-- sheet
def w_X7_sheet (x1 : Int32) (x2 : Int32) (x3 : Int32) (M : Mem) (Q : Int32 → Mem → Prop) : Prop :=
  w_X7_isNoSheet x1 M (fun r1 => (r1 = 0 → w_X7_isOutside x2 0 2 M (fun r3 => (r3 = 0 → (x3 ≤ 40 → (0 ≤ x3 → vp_in x1 4 ∧ w_X2_renew (shI x1.toNatClampNeg) x2 x3 M (fun M9 => Q 1 M9)) ∧ (¬ 0 ≤ x3 → Q (-14) M)) ∧ (¬ x3 ≤ 40 → Q (-1) M)) ∧ (¬ r3 = 0 → Q (-1) M))) ∧ (¬ r1 = 0 → Q (-1) M))
-- lay
def w_X7_lay (x1 : Int32) (x2 : Int32) (x3 : Int32) (M : Mem) (Q : Int32 → Mem → Prop) : Prop :=
  w_X7_isNoSheet x1 M (fun r1 => (r1 = 0 → vp_in x1 4 ∧ w_X2_isNothing (shI x1.toNatClampNeg) M (fun r4 => (r4 = 0 → vp_in x1 4 ∧ w_X2_put (shI x1.toNatClampNeg) x2 x3 M (fun r7 M8 => Q (if r7 = 0 then (-12 : Int32) else 1) M8)) ∧ (¬ r4 = 0 → Q (-11) M))) ∧ (¬ r1 = 0 → Q (-1) M))
-- sendTaker
def w_X7_sendTaker (x1 : Int32) (x2 : Int32) (M : Mem) (Q : Int32 → Mem → Prop) : Prop :=
  w_X7_isNoTaker x1 M (fun r1 => (r1 = 0 → w_X7_isNoGate x2 M (fun r3 => (r3 = 0 → ((M 12 11) < 999 → vp_in x1 5 ∧ ∀ M6, M6 = mu M 16 x1.toNatClampNeg x2 → w_X6_passOne 0 M6 (fun M8 => Q 1 M8)) ∧ (¬ (M 12 11) < 999 → Q 0 M)) ∧ (¬ r3 = 0 → Q 0 M))) ∧ (¬ r1 = 0 → Q 0 M))
-- read
def w_X7_read_162 (x6 : Int32) (x7 : Int32) (M : Mem) (Q : Int32 → Mem → Prop) : Prop :=
  w_X0_copyFrom 1 12 M (fun M14 => ∀ M15, M15 = mu M14 0 10 x6 → Q x7 M15)
def w_X7_read_156 (x3 : Int32) (x4 : Int32) (q5 : Nat) (x6 : Int32) (x7 : Int32) (x8 : Int32) (M : Mem) (K71 : Int32 → Int32 → Int32 → Mem → Prop) (Q : Int32 → Mem → Prop) : Prop :=
  K71 x6 x7 (x8 + 1) M
def w_X7_read_113 (x3 : Int32) (x4 : Int32) (q5 : Nat) (x7 : Int32) (x8 : Int32) (M : Mem) (K71 : Int32 → Int32 → Int32 → Mem → Prop) (Q : Int32 → Mem → Prop) : Prop :=
  w_X7_read_156 x3 x4 q5 2 x7 x8 M K71 Q
def w_X7_read_150 (x8 : Int32) (M : Mem) (Q : Int32 → Mem → Prop) : Prop :=
  Q ((-20) - x8) M
def w_X7_read_71 (x3 : Int32) (x4 : Int32) (q5 : Nat) (Q : Int32 → Mem → Prop) (K71 : Int32 → Int32 → Int32 → Mem → Prop) (x6 : Int32) (x7 : Int32) (x8 : Int32) (M : Mem) : Prop :=
  (x4 ≤ x8 → w_X7_read_162 x6 x7 M Q) ∧ (¬ x4 ≤ x8 → (x6 = 0 → w_X2_lacks q5 (x3 + (2 * x8)) M (fun r17 => (r17 = 0 → w_X2_lacks q5 ((x3 + (2 * x8)) + 1) M (fun r19 => (r19 = 0 → vp_in (x3 + (2 * x8)) 40 ∧ vp_in ((x3 + (2 * x8)) + 1) 40 ∧ w_X7_sendTaker (M (q5 + 1) (x3 + (2 * x8)).toNatClampNeg) (M (q5 + 1) ((x3 + (2 * x8)) + 1).toNatClampNeg) M (fun r21 M22 => (r21 = 0 → w_X7_read_150 x8 M22 Q) ∧ (¬ r21 = 0 → w_X7_read_156 x3 x4 q5 x6 (x7 + 1) x8 M22 K71 Q))) ∧ (¬ r19 = 0 → w_X7_read_113 x3 x4 q5 x7 x8 M K71 Q))) ∧ (¬ r17 = 0 → w_X7_read_113 x3 x4 q5 x7 x8 M K71 Q))) ∧ (¬ x6 = 0 → w_X7_read_162 x6 x7 M Q))
def w_X7_read_52 (x3 : Int32) (x4 : Int32) (q5 : Nat) (t0 : Int32) (M : Mem) (Q : Int32 → Mem → Prop) : Prop :=
  w_X6_begin M (fun M11 => ∃ n, fu4 (w_X7_read_71 x3 x4 q5 Q) n t0 0 0 M11)
def w_X7_read (x1 : Int32) (x2 : Int32) (x3 : Int32) (x4 : Int32) (M : Mem) (Q : Int32 → Mem → Prop) : Prop :=
  w_X7_isNoSheet x1 M (fun r1 => (r1 = 0 → w_X7_isOutside x2 0 2 M (fun r3 => (r3 = 0 → w_X7_isOutside x4 0 20 M (fun r5 => (r5 = 0 → vp_in x1 4 ∧ (x4 = 0 → w_X7_read_52 x3 x4 (shI x1.toNatClampNeg) 0 M Q) ∧ (¬ x4 = 0 → w_X2_faultAs (shI x1.toNatClampNeg) x2 M (fun r9 => w_X7_read_52 x3 x4 (shI x1.toNatClampNeg) r9 M Q))) ∧ (¬ r5 = 0 → Q (-1) M))) ∧ (¬ r3 = 0 → Q (-1) M))) ∧ (¬ r1 = 0 → Q (-1) M))
-- torn
def w_X7_torn (M : Mem) (Q : Int32 → Prop) : Prop :=
  Q (M 0 10)
-- count
def w_X7_count (x1 : Int32) (M : Mem) (Q : Int32 → Prop) : Prop :=
  (x1 = 0 → Q (M 25 3)) ∧ (¬ x1 = 0 → (x1 = 1 → vp_in 0 2 ∧ vp_in 1 2 ∧ Q ((if (M 38 (0 : Int32).toNatClampNeg) = 0 then (0 : Int32) else 1) + (if (M 38 (1 : Int32).toNatClampNeg) = 0 then (0 : Int32) else 1))) ∧ (¬ x1 = 1 → (x1 = 2 → Q (M 22 1)) ∧ (¬ x1 = 2 → (x1 = 3 → vp_in 0 4 ∧ w_X2_isNothing (shI (0 : Int32).toNatClampNeg) M (fun r8 => (r8 = 0 → vp_in 0 4 ∧ Q (M (shI (0 : Int32).toNatClampNeg) 1)) ∧ (¬ r8 = 0 → Q (-4)))) ∧ (¬ x1 = 3 → (x1 = 4 → w_X0_growthOfAll 1 M (fun r12 => Q r12)) ∧ (¬ x1 = 4 → (x1 = 5 → w_X0_earsOfAll 1 M (fun r14 => Q r14)) ∧ (¬ x1 = 5 → Q (-1)))))))
section
variable {p : Program} {l : Launch} {e : Env} {s : State} {m : MethodId} {args : Array Value} {below : List Frame} {meth : Method} {c : Code} {g : Gt}
-- see
set_option maxHeartbeats 4000000 in
set_option maxRecDepth 100000 in
theorem c_X7_see {l : Launch} {g : Gt} {x1 : Int32} {x2 : Int32} {x3 : Int32} {M : Mem} {Q : Int32 → Mem → Prop} (h : w_X7_see x1 x2 x3 M Q) : MI l yX7_see cX7_see 4 (some .int) 2 42 g layX 68 [.ref (ga g 0), .int x1, .int x2, .int x3] M Q :=
  m_of (by decide +kernel) (Nat.le_of_ble_eq_true rfl) (fun p e s m args below meth c ls C hr hk w hl => by
    have C : Cx p s m args c cX7_see 4 RX7 g := C
    have hl : lv_has ls 4 [(0, .ref (ga g 0)), (1, .int x1), (2, .int x2), (3, .int x3)] := hl
    unfold w_X7_see at h
    obtain ⟨H, eH⟩ : ∃ H : Heap, H = s.heap := ⟨_, rfl⟩
    obtain ⟨locs, el⟩ : ∃ locs : List Loc, locs = [] := ⟨_, rfl⟩
    have w : Wd g layX 68 s.heap M H locs := by rw [eH, el]; exact w
    suffices hw : W p l e (rmOf 2 42) s m args below meth c H locs 0 0 (MQ below (va_Qi Q (PostW g layX 68) (gF g)) args s 0 0 (gF g)) (F0 m 0 ls []) by rw [eH, el] at hw; exact hw
    clear eH el
    refine lv_iload_n C.1.1 C.1.2.1 dX7_see_0 rfl (lv_at hl 1 rfl) ?_
    refine lv_iconst (v := 0) C.1.1 C.1.2.1 dX7_see_1 (by decide) ?_
    refine lv_bipush (v := 20) C.1.1 C.1.2.1 dX7_see_2 (by decide) ?_
    refine q_pSi C w [.int x1, .int 0, .int 20] (c_X7_isOutside  h) ks_X7_isOutside k_45  rfl hl.1 (Nat.le_of_ble_eq_true rfl) ⟨Nat.le_of_ble_eq_true rfl, Nat.le_of_ble_eq_true rfl⟩ dX7_see_4 (fun r1 H locs h w => ?_)
    refine lv_if_ne (tgt := 27) C.1.1 C.1.2.1 dX7_see_7 (by decide) (fun hc2 => ?_) (fun hc2 => ?_)
    · replace h := h.2 hc2
      refine lv_iconst (v := (-1)) C.1.1 C.1.2.1 dX7_see_27 (by decide) ?_
      exact q_iret C hr hk w rfl h dX7_see_28
    · replace h := h.1 hc2
      refine lv_iload_n C.1.1 C.1.2.1 dX7_see_10 rfl (lv_at hl 2 rfl) ?_
      refine q_pSi C w [.int x2] (c_X7_isNoGate  h) ks_X7_isNoGate k_53  rfl hl.1 (Nat.le_of_ble_eq_true rfl) ⟨Nat.le_of_ble_eq_true rfl, Nat.le_of_ble_eq_true rfl⟩ dX7_see_11 (fun r3 H locs h w => ?_)
      refine lv_if_ne (tgt := 27) C.1.1 C.1.2.1 dX7_see_14 (by decide) (fun hc4 => ?_) (fun hc4 => ?_)
      · replace h := h.2 hc4
        refine lv_iconst (v := (-1)) C.1.1 C.1.2.1 dX7_see_27 (by decide) ?_
        exact q_iret C hr hk w rfl h dX7_see_28
      · replace h := h.1 hc4
        refine lv_iload_n C.1.1 C.1.2.1 dX7_see_17 rfl (lv_at hl 3 rfl) ?_
        refine lv_iconst (v := 0) C.1.1 C.1.2.1 dX7_see_18 (by decide) ?_
        refine lv_bipush (v := 60) C.1.1 C.1.2.1 dX7_see_19 (by decide) ?_
        refine q_pSi C w [.int x3, .int 0, .int 60] (c_X7_isOutside  h) ks_X7_isOutside k_45  rfl hl.1 (Nat.le_of_ble_eq_true rfl) ⟨Nat.le_of_ble_eq_true rfl, Nat.le_of_ble_eq_true rfl⟩ dX7_see_21 (fun r5 H locs h w => ?_)
        refine lv_if_eq (tgt := 29) C.1.1 C.1.2.1 dX7_see_24 (by decide) (fun hc6 => ?_) (fun hc6 => ?_)
        · replace h := h.1 hc6
          refine lv_aload_n C.1.1 C.1.2.1 dX7_see_29 rfl (lv_at hl 0 rfl) ?_
          refine gr_RX7_38 C w hx_0 lx_0 rfl dX7_see_30 ?_
          refine lv_iload_n C.1.1 C.1.2.1 dX7_see_33 rfl (lv_at hl 1 rfl) ?_
          refine lv_iload_n C.1.1 C.1.2.1 dX7_see_34 rfl (lv_at hl 2 rfl) ?_
          refine lv_iload_n C.1.1 C.1.2.1 dX7_see_35 rfl (lv_at hl 3 rfl) ?_
          refine q_cVi C w [.int x1, .int x2, .int x3] (c_X3_add  h) kv_X3_add k_78 (rcv C w kc_X3 hx_25 lx_25) rfl hl.1 (Nat.le_of_ble_eq_true rfl) ⟨Nat.le_of_ble_eq_true rfl, Nat.le_of_ble_eq_true rfl⟩ dX7_see_36 (fun r7 M8 H locs h w => ?_)
          have J : ∀ ls : Array Slot, lv_has ls 4 [] → W p l e (rmOf 2 42) s m args below meth c H locs 0 0 (MQ below (va_Qi Q (PostW g layX 68) (gF g)) args s 0 0 (gF g)) (F0 m 54 ls [.int (if r7 = 0 then (-3 : Int32) else (M8 25 3))]) := by
            intro ls hl
            exact q_iret C hr hk w rfl h dX7_see_54
          refine lv_if_eq (tgt := 52) C.1.1 C.1.2.1 dX7_see_39 (by decide) (fun hc9 => ?_) (fun hc9 => ?_)
          · refine lv_bipush (v := (-3)) C.1.1 C.1.2.1 dX7_see_52 (by decide) ?_
            simp only [if_pos hc9] at J hl
            exact J ls (lv_sub hl [] rfl)
          · refine lv_aload_n C.1.1 C.1.2.1 dX7_see_42 rfl (lv_at hl 0 rfl) ?_
            refine gr_RX7_38 C w hx_0 lx_0 rfl dX7_see_43 ?_
            refine gi_RX7_98 C w hx_25 lx_25 rfl dX7_see_46 ?_
            refine lv_goto (tgt := 54) C.1.1 C.1.2.1 dX7_see_49 (by decide) ?_
            simp only [if_neg hc9] at J hl
            exact J ls (lv_sub hl [] rfl)
        · replace h := h.2 hc6
          refine lv_iconst (v := (-1)) C.1.1 C.1.2.1 dX7_see_27 (by decide) ?_
          exact q_iret C hr hk w rfl h dX7_see_28)
-- forget
set_option maxHeartbeats 4000000 in
set_option maxRecDepth 100000 in
theorem c_X7_forget {l : Launch} {g : Gt} {x1 : Int32} {M : Mem} {Q : Int32 → Mem → Prop} (h : w_X7_forget x1 M Q) : MI l yX7_forget cX7_forget 3 (some .int) 1 22 g layX 68 [.ref (ga g 0), .int x1] M Q :=
  m_of (by decide +kernel) (Nat.le_of_ble_eq_true rfl) (fun p e s m args below meth c ls C hr hk w hl => by
    have C : Cx p s m args c cX7_forget 3 RX7 g := C
    have hl : lv_has ls 3 [(0, .ref (ga g 0)), (1, .int x1)] := hl
    unfold w_X7_forget at h
    obtain ⟨H, eH⟩ : ∃ H : Heap, H = s.heap := ⟨_, rfl⟩
    obtain ⟨locs, el⟩ : ∃ locs : List Loc, locs = [] := ⟨_, rfl⟩
    have w : Wd g layX 68 s.heap M H locs := by rw [eH, el]; exact w
    suffices hw : W p l e (rmOf 1 22) s m args below meth c H locs 0 0 (MQ below (va_Qi Q (PostW g layX 68) (gF g)) args s 0 0 (gF g)) (F0 m 0 ls []) by rw [eH, el] at hw; exact hw
    clear eH el
    refine lv_iload_n C.1.1 C.1.2.1 dX7_forget_0 rfl (lv_at hl 1 rfl) ?_
    refine lv_iconst (v := 0) C.1.1 C.1.2.1 dX7_forget_1 (by decide) ?_
    refine lv_aload_n C.1.1 C.1.2.1 dX7_forget_2 rfl (lv_at hl 0 rfl) ?_
    refine gr_RX7_38 C w hx_0 lx_0 rfl dX7_forget_3 ?_
    refine gi_RX7_98 C w hx_25 lx_25 rfl dX7_forget_6 ?_
    refine q_pSi C w [.int x1, .int 0, .int (M 25 3)] (c_X7_isOutside  h) ks_X7_isOutside k_45  rfl hl.1 (Nat.le_of_ble_eq_true rfl) ⟨Nat.le_of_ble_eq_true rfl, Nat.le_of_ble_eq_true rfl⟩ dX7_forget_9 (fun r1 H locs h w => ?_)
    refine lv_if_eq (tgt := 17) C.1.1 C.1.2.1 dX7_forget_12 (by decide) (fun hc2 => ?_) (fun hc2 => ?_)
    · replace h := h.1 hc2
      refine lv_aload_n C.1.1 C.1.2.1 dX7_forget_17 rfl (lv_at hl 0 rfl) ?_
      refine gr_RX7_38 C w hx_0 lx_0 rfl dX7_forget_18 ?_
      refine gi_RX7_98 C w hx_25 lx_25 rfl dX7_forget_21 ?_
      refine lv_istore_n (lv' := [(2, .int (M 25 3)), (0, .ref (ga g 0)), (1, .int x1)]) C.1.1 C.1.2.1 dX7_forget_24 rfl hl (by decide) rfl (fun ls hl => ?_)
      refine lv_aload_n C.1.1 C.1.2.1 dX7_forget_25 rfl (lv_at hl 1 rfl) ?_
      refine gr_RX7_38 C w hx_0 lx_0 rfl dX7_forget_26 ?_
      refine lv_iload_n C.1.1 C.1.2.1 dX7_forget_29 rfl (lv_at hl 2 rfl) ?_
      refine pi_RX7_98 C w hx_25 lx_25 rfl dX7_forget_30 (fun M3 H locs eM3 w => ?_)
      replace h := h M3 eM3
      refine lv_iload_n C.1.1 C.1.2.1 dX7_forget_33 rfl (lv_at hl 0 rfl) ?_
      exact q_iret C hr hk w rfl h dX7_forget_34
    · replace h := h.2 hc2
      refine lv_iconst (v := (-1)) C.1.1 C.1.2.1 dX7_forget_15 (by decide) ?_
      exact q_iret C hr hk w rfl h dX7_forget_16)
-- fittingBits
set_option maxHeartbeats 4000000 in
set_option maxRecDepth 100000 in
theorem v_X7_fittingBits_6 {r : Nat} {nr : Nat} {x1 : Int32} {x3 : Int32} {x4 : Int32} {x5 : Int32} {M : Mem} {K6 : Int32 → Int32 → Mem → Prop} {Q : Int32 → Mem → Prop} {H : Heap} {locs : List Loc} {ls : Array Slot} (C : Cx p s m args c cX7_fittingBits 6 RX7 g) (hr : meth.sig.returnType = (some .int)) (hk : meth.locks = false) (hA : r < 68 ∧ layX r = .inr (.inl (0, nr))) (hK6 : ∀ (x4 : Int32) (x5 : Int32) (M : Mem) (H : Heap) (locs : List Loc) (ls : Array Slot), K6 x4 x5 M → Wd g layX 68 s.heap M H locs → lv_has ls 6 [(0, .ref (ga g 0)), (1, .int x1), (2, .ref (ga g r)), (3, .int x3), (4, .int x4), (5, .int x5)] → W p l e (rmOf 5 112) s m args below meth c H locs 0 0 (MQ below (va_Qi Q (PostW g layX 68) (gF g)) args s 0 0 (gF g)) (F0 m 6 ls [])) (h : w_X7_fittingBits_6 r nr x1 x3 Q K6 x4 x5 M) (w : Wd g layX 68 s.heap M H locs) (hl : lv_has ls 6 [(0, .ref (ga g 0)), (1, .int x1), (2, .ref (ga g r)), (3, .int x3), (4, .int x4), (5, .int x5)]) : W p l e (rmOf 5 112) s m args below meth c H locs 0 0 (MQ below (va_Qi Q (PostW g layX 68) (gF g)) args s 0 0 (gF g)) (F0 m 6 ls []) := by
  unfold w_X7_fittingBits_6 at h
  refine lv_iload C.1.1 C.1.2.1 dX7_fittingBits_6 (lv_at hl 5 rfl) ?_
  refine lv_iload_n C.1.1 C.1.2.1 dX7_fittingBits_8 rfl (lv_at hl 3 rfl) ?_
  refine lv_icmp_gt (tgt := 57) C.1.1 C.1.2.1 dX7_fittingBits_9 (by decide) (fun hc1 => ?_) (fun hc1 => ?_)
  · replace h := h.1 hc1
    refine lv_iload C.1.1 C.1.2.1 dX7_fittingBits_57 (lv_at hl 4 rfl) ?_
    exact q_iret C hr hk w rfl h dX7_fittingBits_59
  · replace h := h.2 hc1
    refine lv_aload_n C.1.1 C.1.2.1 dX7_fittingBits_12 rfl (lv_at hl 0 rfl) ?_
    refine gr_RX7_19 C w hx_0 lx_0 rfl dX7_fittingBits_13 ?_
    refine lv_aload_n C.1.1 C.1.2.1 dX7_fittingBits_16 rfl (lv_at hl 0 rfl) ?_
    refine gr_RX7_10 C w hx_0 lx_0 rfl dX7_fittingBits_17 ?_
    refine q_cVv C w [.ref (ga g 1)] (c_X6_begin  h) kv_X6_begin k_64 (rcv C w kc_X6 hx_11 lx_11) rfl hl.1 (Nat.le_of_ble_eq_true rfl) ⟨Nat.le_of_ble_eq_true rfl, Nat.le_of_ble_eq_true rfl⟩ dX7_fittingBits_20 (fun M3 H locs h w => ?_)
    refine lv_aload_n C.1.1 C.1.2.1 dX7_fittingBits_23 rfl (lv_at hl 2 rfl) ?_
    refine lv_iload_n C.1.1 C.1.2.1 dX7_fittingBits_24 rfl (lv_at hl 1 rfl) ?_
    refine lv_iload C.1.1 C.1.2.1 dX7_fittingBits_25 (lv_at hl 5 rfl) ?_
    refine q_ias C w hA.1 hA.2 h.1 dX7_fittingBits_27 (fun M4 H locs eM4 w => ?_)
    replace h := h.2 M4 eM4
    refine lv_aload_n C.1.1 C.1.2.1 dX7_fittingBits_28 rfl (lv_at hl 0 rfl) ?_
    refine gr_RX7_38 C w hx_0 lx_0 rfl dX7_fittingBits_29 ?_
    refine lv_aload_n C.1.1 C.1.2.1 dX7_fittingBits_32 rfl (lv_at hl 0 rfl) ?_
    refine gr_RX7_19 C w hx_0 lx_0 rfl dX7_fittingBits_33 ?_
    refine q_cVi C w [.ref (ga g 11)] (c_X3_fit  h) kv_X3_fit k_79 (rcv C w kc_X3 hx_25 lx_25) rfl hl.1 (Nat.le_of_ble_eq_true rfl) ⟨Nat.le_of_ble_eq_true rfl, Nat.le_of_ble_eq_true rfl⟩ dX7_fittingBits_36 (fun r5 M6 H locs h w => ?_)
    have J : ∀ ls : Array Slot, lv_has ls 6 [(0, .ref (ga g 0)), (1, .int x1), (2, .ref (ga g r)), (3, .int x3), (4, .int (if r5 = 0 then x4 else (x4 ||| (sl 1 x5)))), (5, .int x5)] → W p l e (rmOf 5 112) s m args below meth c H locs 0 0 (MQ below (va_Qi Q (PostW g layX 68) (gF g)) args s 0 0 (gF g)) (F0 m 51 ls []) := by
      intro ls hl
      refine lv_iinc (v := x5 + 1) (lv' := [(5, .int (x5 + 1)), (0, .ref (ga g 0)), (1, .int x1), (2, .ref (ga g r)), (3, .int x3), (4, .int (if r5 = 0 then x4 else (x4 ||| (sl 1 x5))))]) C.1.1 C.1.2.1 dX7_fittingBits_51 hl (k := 5) rfl rfl (by decide) rfl (fun ls hl => ?_)
      refine lv_goto (tgt := 6) C.1.1 C.1.2.1 dX7_fittingBits_54 (by decide) ?_
      exact hK6 _ _ _ _ _ _ h w (lv_sub hl [1, 2, 3, 4, 5, 0] rfl)
    refine lv_if_eq (tgt := 51) C.1.1 C.1.2.1 dX7_fittingBits_39 (by decide) (fun hc7 => ?_) (fun hc7 => ?_)
    · simp only [if_pos hc7] at J hl
      exact J ls (lv_sub hl [0, 1, 2, 3, 4, 5] rfl)
    · refine lv_iload C.1.1 C.1.2.1 dX7_fittingBits_42 (lv_at hl 4 rfl) ?_
      refine lv_iconst (v := 1) C.1.1 C.1.2.1 dX7_fittingBits_44 (by decide) ?_
      refine lv_iload C.1.1 C.1.2.1 dX7_fittingBits_45 (lv_at hl 5 rfl) ?_
      refine q_ishl C dX7_fittingBits_47 ?_
      refine lv_ior C.1.1 C.1.2.1 dX7_fittingBits_48 ?_
      refine lv_istore (lv' := [(4, .int (x4 ||| (sl 1 x5))), (0, .ref (ga g 0)), (1, .int x1), (2, .ref (ga g r)), (3, .int x3), (5, .int x5)]) C.1.1 C.1.2.1 dX7_fittingBits_49 hl (by decide) rfl (fun ls hl => ?_)
      simp only [if_neg hc7] at J hl
      exact J ls (lv_sub hl [1, 2, 3, 4, 0, 5] rfl)
set_option maxHeartbeats 4000000 in
set_option maxRecDepth 100000 in
theorem l_X7_fittingBits_6 {r : Nat} {nr : Nat} {x1 : Int32} {x3 : Int32} {Q : Int32 → Mem → Prop} (C : Cx p s m args c cX7_fittingBits 6 RX7 g) (hr : meth.sig.returnType = (some .int)) (hk : meth.locks = false) (hA : r < 68 ∧ layX r = .inr (.inl (0, nr)))  : ∀ (n : Nat) (x4 : Int32) (x5 : Int32) (M : Mem) (H : Heap) (locs : List Loc) (ls : Array Slot), fu3 (w_X7_fittingBits_6 r nr x1 x3 Q) n x4 x5 M → Wd g layX 68 s.heap M H locs → lv_has ls 6 [(0, .ref (ga g 0)), (1, .int x1), (2, .ref (ga g r)), (3, .int x3), (4, .int x4), (5, .int x5)] → W p l e (rmOf 5 112) s m args below meth c H locs 0 0 (MQ below (va_Qi Q (PostW g layX 68) (gF g)) args s 0 0 (gF g)) (F0 m 6 ls []) := by
  intro n
  induction n with
  | zero => intro x4 x5 M H locs ls h; exact h.elim
  | succ n ih => intro x4 x5 M H locs ls h w hl; exact v_X7_fittingBits_6 C hr hk hA  ih h w hl
set_option maxHeartbeats 4000000 in
set_option maxRecDepth 100000 in
theorem c_X7_fittingBits {l : Launch} {g : Gt} {r : Nat} {nr : Nat} {x1 : Int32} {x3 : Int32} {M : Mem} {Q : Int32 → Mem → Prop} (hA : r < 68 ∧ layX r = .inr (.inl (0, nr))) (h : w_X7_fittingBits r nr x1 x3 M Q) : MI l yX7_fittingBits cX7_fittingBits 6 (some .int) 5 112 g layX 68 [.ref (ga g 0), .int x1, .ref (ga g r), .int x3] M Q :=
  m_of (by decide +kernel) (Nat.le_of_ble_eq_true rfl) (fun p e s m args below meth c ls C hr hk w hl => by
    have C : Cx p s m args c cX7_fittingBits 6 RX7 g := C
    have hl : lv_has ls 6 [(0, .ref (ga g 0)), (1, .int x1), (2, .ref (ga g r)), (3, .int x3)] := hl
    unfold w_X7_fittingBits at h
    obtain ⟨H, eH⟩ : ∃ H : Heap, H = s.heap := ⟨_, rfl⟩
    obtain ⟨locs, el⟩ : ∃ locs : List Loc, locs = [] := ⟨_, rfl⟩
    have w : Wd g layX 68 s.heap M H locs := by rw [eH, el]; exact w
    suffices hw : W p l e (rmOf 5 112) s m args below meth c H locs 0 0 (MQ below (va_Qi Q (PostW g layX 68) (gF g)) args s 0 0 (gF g)) (F0 m 0 ls []) by rw [eH, el] at hw; exact hw
    clear eH el
    refine lv_iconst (v := 0) C.1.1 C.1.2.1 dX7_fittingBits_0 (by decide) ?_
    refine lv_istore (lv' := [(4, .int 0), (0, .ref (ga g 0)), (1, .int x1), (2, .ref (ga g r)), (3, .int x3)]) C.1.1 C.1.2.1 dX7_fittingBits_1 hl (by decide) rfl (fun ls hl => ?_)
    refine lv_iconst (v := 0) C.1.1 C.1.2.1 dX7_fittingBits_3 (by decide) ?_
    refine lv_istore (lv' := [(5, .int 0), (4, .int 0), (0, .ref (ga g 0)), (1, .int x1), (2, .ref (ga g r)), (3, .int x3)]) C.1.1 C.1.2.1 dX7_fittingBits_4 hl (by decide) rfl (fun ls hl => ?_)
    obtain ⟨n, h⟩ := h
    exact l_X7_fittingBits_6 C hr hk hA  n _ _ _ _ _ _ h w (lv_sub hl [2, 3, 4, 5, 1, 0] rfl))
-- kinds
set_option maxHeartbeats 4000000 in
set_option maxRecDepth 100000 in
theorem c_X7_kinds {l : Launch} {g : Gt} {x1 : Int32} {M : Mem} {Q : Int32 → Mem → Prop} (h : w_X7_kinds x1 M Q) : MI l yX7_kinds cX7_kinds 2 (some .int) 6 137 g layX 68 [.ref (ga g 0), .int x1] M Q :=
  m_of (by decide +kernel) (Nat.le_of_ble_eq_true rfl) (fun p e s m args below meth c ls C hr hk w hl => by
    have C : Cx p s m args c cX7_kinds 2 RX7 g := C
    have hl : lv_has ls 2 [(0, .ref (ga g 0)), (1, .int x1)] := hl
    unfold w_X7_kinds at h
    obtain ⟨H, eH⟩ : ∃ H : Heap, H = s.heap := ⟨_, rfl⟩
    obtain ⟨locs, el⟩ : ∃ locs : List Loc, locs = [] := ⟨_, rfl⟩
    have w : Wd g layX 68 s.heap M H locs := by rw [eH, el]; exact w
    suffices hw : W p l e (rmOf 6 137) s m args below meth c H locs 0 0 (MQ below (va_Qi Q (PostW g layX 68) (gF g)) args s 0 0 (gF g)) (F0 m 0 ls []) by rw [eH, el] at hw; exact hw
    clear eH el
    refine lv_aload_n C.1.1 C.1.2.1 dX7_kinds_0 rfl (lv_at hl 0 rfl) ?_
    refine lv_iload_n C.1.1 C.1.2.1 dX7_kinds_1 rfl (lv_at hl 1 rfl) ?_
    refine q_pVi C w [.int x1] (c_X7_isNoTaker  h) kv_X7_isNoTaker k_56 (rcv C w kc_X7 hx_0 lx_0) rfl hl.1 (Nat.le_of_ble_eq_true rfl) ⟨Nat.le_of_ble_eq_true rfl, Nat.le_of_ble_eq_true rfl⟩ dX7_kinds_2 (fun r1 H locs h w => ?_)
    refine lv_if_eq (tgt := 12) C.1.1 C.1.2.1 dX7_kinds_5 (by decide) (fun hc2 => ?_) (fun hc2 => ?_)
    · replace h := h.1 hc2
      refine lv_aload_n C.1.1 C.1.2.1 dX7_kinds_12 rfl (lv_at hl 0 rfl) ?_
      refine lv_iload_n C.1.1 C.1.2.1 dX7_kinds_13 rfl (lv_at hl 1 rfl) ?_
      refine lv_aload_n C.1.1 C.1.2.1 dX7_kinds_14 rfl (lv_at hl 0 rfl) ?_
      refine gr_RX7_19 C w hx_0 lx_0 rfl dX7_kinds_15 ?_
      refine gr_RX7_78 C w hx_11 lx_11 rfl dX7_kinds_18 ?_
      refine gr_RX7_146 C w hx_12 lx_12 rfl dX7_kinds_21 ?_
      refine lv_iconst (v := 3) C.1.1 C.1.2.1 dX7_kinds_24 (by decide) ?_
      refine q_cVi C w [.int x1, .ref (ga g 15), .int 3] (c_X7_fittingBits ⟨hx_15, lx_15⟩ h) kv_X7_fittingBits k_80 (rcv C w kc_X7 hx_0 lx_0) rfl hl.1 (Nat.le_of_ble_eq_true rfl) ⟨Nat.le_of_ble_eq_true rfl, Nat.le_of_ble_eq_true rfl⟩ dX7_kinds_25 (fun r3 M4 H locs h w => ?_)
      exact q_iret C hr hk w rfl h dX7_kinds_28
    · replace h := h.2 hc2
      refine lv_iconst (v := (-1)) C.1.1 C.1.2.1 dX7_kinds_8 (by decide) ?_
      refine lv_goto (tgt := 28) C.1.1 C.1.2.1 dX7_kinds_9 (by decide) ?_
      exact q_iret C hr hk w rfl h dX7_kinds_28)
-- gates
set_option maxHeartbeats 4000000 in
set_option maxRecDepth 100000 in
theorem c_X7_gates {l : Launch} {g : Gt} {x1 : Int32} {M : Mem} {Q : Int32 → Mem → Prop} (h : w_X7_gates x1 M Q) : MI l yX7_gates cX7_gates 2 (some .int) 6 137 g layX 68 [.ref (ga g 0), .int x1] M Q :=
  m_of (by decide +kernel) (Nat.le_of_ble_eq_true rfl) (fun p e s m args below meth c ls C hr hk w hl => by
    have C : Cx p s m args c cX7_gates 2 RX7 g := C
    have hl : lv_has ls 2 [(0, .ref (ga g 0)), (1, .int x1)] := hl
    unfold w_X7_gates at h
    obtain ⟨H, eH⟩ : ∃ H : Heap, H = s.heap := ⟨_, rfl⟩
    obtain ⟨locs, el⟩ : ∃ locs : List Loc, locs = [] := ⟨_, rfl⟩
    have w : Wd g layX 68 s.heap M H locs := by rw [eH, el]; exact w
    suffices hw : W p l e (rmOf 6 137) s m args below meth c H locs 0 0 (MQ below (va_Qi Q (PostW g layX 68) (gF g)) args s 0 0 (gF g)) (F0 m 0 ls []) by rw [eH, el] at hw; exact hw
    clear eH el
    refine lv_aload_n C.1.1 C.1.2.1 dX7_gates_0 rfl (lv_at hl 0 rfl) ?_
    refine lv_iload_n C.1.1 C.1.2.1 dX7_gates_1 rfl (lv_at hl 1 rfl) ?_
    refine q_pVi C w [.int x1] (c_X7_isNoTaker  h) kv_X7_isNoTaker k_56 (rcv C w kc_X7 hx_0 lx_0) rfl hl.1 (Nat.le_of_ble_eq_true rfl) ⟨Nat.le_of_ble_eq_true rfl, Nat.le_of_ble_eq_true rfl⟩ dX7_gates_2 (fun r1 H locs h w => ?_)
    refine lv_if_eq (tgt := 12) C.1.1 C.1.2.1 dX7_gates_5 (by decide) (fun hc2 => ?_) (fun hc2 => ?_)
    · replace h := h.1 hc2
      refine lv_aload_n C.1.1 C.1.2.1 dX7_gates_12 rfl (lv_at hl 0 rfl) ?_
      refine lv_iload_n C.1.1 C.1.2.1 dX7_gates_13 rfl (lv_at hl 1 rfl) ?_
      refine lv_aload_n C.1.1 C.1.2.1 dX7_gates_14 rfl (lv_at hl 0 rfl) ?_
      refine gr_RX7_19 C w hx_0 lx_0 rfl dX7_gates_15 ?_
      refine gr_RX7_78 C w hx_11 lx_11 rfl dX7_gates_18 ?_
      refine gr_RX7_149 C w hx_12 lx_12 rfl dX7_gates_21 ?_
      refine lv_iconst (v := 5) C.1.1 C.1.2.1 dX7_gates_24 (by decide) ?_
      refine q_cVi C w [.int x1, .ref (ga g 16), .int 5] (c_X7_fittingBits ⟨hx_16, lx_16⟩ h) kv_X7_fittingBits k_80 (rcv C w kc_X7 hx_0 lx_0) rfl hl.1 (Nat.le_of_ble_eq_true rfl) ⟨Nat.le_of_ble_eq_true rfl, Nat.le_of_ble_eq_true rfl⟩ dX7_gates_25 (fun r3 M4 H locs h w => ?_)
      exact q_iret C hr hk w rfl h dX7_gates_28
    · replace h := h.2 hc2
      refine lv_iconst (v := (-1)) C.1.1 C.1.2.1 dX7_gates_8 (by decide) ?_
      refine lv_goto (tgt := 28) C.1.1 C.1.2.1 dX7_gates_9 (by decide) ?_
      exact q_iret C hr hk w rfl h dX7_gates_28)
-- ask
set_option maxHeartbeats 4000000 in
set_option maxRecDepth 100000 in
theorem v_X7_ask_184 {x2 : Int32} {x4 : Int32} {x5 : Int32} {M : Mem} {Q : Int32 → Mem → Prop} {H : Heap} {locs : List Loc} {ls : Array Slot} (C : Cx p s m args c cX7_ask 9 RX7 g) (hr : meth.sig.returnType = (some .int)) (hk : meth.locks = false)  (h : w_X7_ask_184 x2 x4 x5 M Q) (w : Wd g layX 68 s.heap M H locs) (hl : lv_has ls 9 [(2, .int x2), (4, .int x4), (5, .int x5)]) : W p l e (rmOf 6 137) s m args below meth c H locs 0 0 (MQ below (va_Qi Q (PostW g layX 68) (gF g)) args s 0 0 (gF g)) (F0 m 184 ls []) := by
  unfold w_X7_ask_184 at h
  refine lv_iload_n C.1.1 C.1.2.1 dX7_ask_184 rfl (lv_at hl 0 rfl) ?_
  have J : ∀ ls : Array Slot, lv_has ls 9 [] → W p l e (rmOf 6 137) s m args below meth c H locs 0 0 (MQ below (va_Qi Q (PostW g layX 68) (gF g)) args s 0 0 (gF g)) (F0 m 202 ls [.int (if x2 = 0 then x4 else (if x4 = (-4) then x4 else x5))]) := by
    intro ls hl
    exact q_iret C hr hk w rfl h dX7_ask_202
  refine lv_if_eq (tgt := 195) C.1.1 C.1.2.1 dX7_ask_185 (by decide) (fun hc11 => ?_) (fun hc11 => ?_)
  · refine lv_iload C.1.1 C.1.2.1 dX7_ask_195 (lv_at hl 1 rfl) ?_
    refine lv_goto (tgt := 202) C.1.1 C.1.2.1 dX7_ask_197 (by decide) ?_
    simp only [if_pos hc11] at J hl
    exact J ls (lv_sub hl [] rfl)
  · refine lv_iload C.1.1 C.1.2.1 dX7_ask_188 (lv_at hl 1 rfl) ?_
    refine lv_bipush (v := (-4)) C.1.1 C.1.2.1 dX7_ask_190 (by decide) ?_
    refine lv_icmp_ne (tgt := 200) C.1.1 C.1.2.1 dX7_ask_192 (by decide) (fun hc12 => ?_) (fun hc12 => ?_)
    · refine lv_iload C.1.1 C.1.2.1 dX7_ask_200 (lv_at hl 2 rfl) ?_
      simp only [if_neg hc11, if_neg hc12] at J hl
      exact J ls (lv_sub hl [] rfl)
    · refine lv_iload C.1.1 C.1.2.1 dX7_ask_195 (lv_at hl 1 rfl) ?_
      refine lv_goto (tgt := 202) C.1.1 C.1.2.1 dX7_ask_197 (by decide) ?_
      simp only [if_neg hc11, if_pos hc12] at J hl
      exact J ls (lv_sub hl [] rfl)
set_option maxHeartbeats 4000000 in
set_option maxRecDepth 100000 in
theorem v_X7_ask_178 {x2 : Int32} {x4 : Int32} {x5 : Int32} {x6 : Int32} {M : Mem} {K121 : Int32 → Int32 → Int32 → Prop} {Q : Int32 → Mem → Prop} {H : Heap} {locs : List Loc} {ls : Array Slot} (C : Cx p s m args c cX7_ask 9 RX7 g) (hr : meth.sig.returnType = (some .int)) (hk : meth.locks = false) (hK121 : ∀ (x4 : Int32) (x5 : Int32) (x6 : Int32) (H : Heap) (locs : List Loc) (ls : Array Slot), K121 x4 x5 x6 → Wd g layX 68 s.heap M H locs → lv_has ls 9 [(0, .ref (ga g 0)), (2, .int x2), (4, .int x4), (5, .int x5), (6, .int x6)] → W p l e (rmOf 6 137) s m args below meth c H locs 0 0 (MQ below (va_Qi Q (PostW g layX 68) (gF g)) args s 0 0 (gF g)) (F0 m 121 ls [])) (h : w_X7_ask_178 x2 x4 x5 x6 M K121 Q) (w : Wd g layX 68 s.heap M H locs) (hl : lv_has ls 9 [(0, .ref (ga g 0)), (2, .int x2), (4, .int x4), (5, .int x5), (6, .int x6)]) : W p l e (rmOf 6 137) s m args below meth c H locs 0 0 (MQ below (va_Qi Q (PostW g layX 68) (gF g)) args s 0 0 (gF g)) (F0 m 178 ls []) := by
  unfold w_X7_ask_178 at h
  refine lv_iinc (v := x6 + 1) (lv' := [(6, .int (x6 + 1)), (0, .ref (ga g 0)), (2, .int x2), (4, .int x4), (5, .int x5)]) C.1.1 C.1.2.1 dX7_ask_178 hl (k := 4) rfl rfl (by decide) rfl (fun ls hl => ?_)
  refine lv_goto (tgt := 121) C.1.1 C.1.2.1 dX7_ask_181 (by decide) ?_
  exact hK121 _ _ _ _ _ _ h w (lv_sub hl [1, 2, 3, 4, 0] rfl)
set_option maxHeartbeats 4000000 in
set_option maxRecDepth 100000 in
theorem v_X7_ask_131 {x2 : Int32} {x6 : Int32} {x4 : Int32} {x5 : Int32} {x7 : Int32} {M : Mem} {K121 : Int32 → Int32 → Int32 → Prop} {K131 : Int32 → Int32 → Int32 → Prop} {Q : Int32 → Mem → Prop} {H : Heap} {locs : List Loc} {ls : Array Slot} (C : Cx p s m args c cX7_ask 9 RX7 g) (hr : meth.sig.returnType = (some .int)) (hk : meth.locks = false) (hK121 : ∀ (x4 : Int32) (x5 : Int32) (x6 : Int32) (H : Heap) (locs : List Loc) (ls : Array Slot), K121 x4 x5 x6 → Wd g layX 68 s.heap M H locs → lv_has ls 9 [(0, .ref (ga g 0)), (2, .int x2), (4, .int x4), (5, .int x5), (6, .int x6)] → W p l e (rmOf 6 137) s m args below meth c H locs 0 0 (MQ below (va_Qi Q (PostW g layX 68) (gF g)) args s 0 0 (gF g)) (F0 m 121 ls [])) (hK131 : ∀ (x4 : Int32) (x5 : Int32) (x7 : Int32) (H : Heap) (locs : List Loc) (ls : Array Slot), K131 x4 x5 x7 → Wd g layX 68 s.heap M H locs → lv_has ls 9 [(0, .ref (ga g 0)), (2, .int x2), (4, .int x4), (5, .int x5), (6, .int x6), (7, .int x7)] → W p l e (rmOf 6 137) s m args below meth c H locs 0 0 (MQ below (va_Qi Q (PostW g layX 68) (gF g)) args s 0 0 (gF g)) (F0 m 131 ls [])) (h : w_X7_ask_131 x2 x6 M K121 Q K131 x4 x5 x7) (w : Wd g layX 68 s.heap M H locs) (hl : lv_has ls 9 [(0, .ref (ga g 0)), (2, .int x2), (4, .int x4), (5, .int x5), (6, .int x6), (7, .int x7)]) : W p l e (rmOf 6 137) s m args below meth c H locs 0 0 (MQ below (va_Qi Q (PostW g layX 68) (gF g)) args s 0 0 (gF g)) (F0 m 131 ls []) := by
  unfold w_X7_ask_131 at h
  refine lv_iload C.1.1 C.1.2.1 dX7_ask_131 (lv_at hl 5 rfl) ?_
  refine lv_bipush (v := 6) C.1.1 C.1.2.1 dX7_ask_133 (by decide) ?_
  refine lv_icmp_ge (tgt := 178) C.1.1 C.1.2.1 dX7_ask_135 (by decide) (fun hc13 => ?_) (fun hc13 => ?_)
  · replace h := h.1 hc13
    exact v_X7_ask_178 C hr hk  hK121 h w (lv_sub hl [0, 1, 2, 3, 4] rfl)
  · replace h := h.2 hc13
    refine lv_aload_n C.1.1 C.1.2.1 dX7_ask_138 rfl (lv_at hl 0 rfl) ?_
    refine gr_RX7_45 C w hx_0 lx_0 rfl dX7_ask_139 ?_
    refine lv_iload C.1.1 C.1.2.1 dX7_ask_142 (lv_at hl 4 rfl) ?_
    refine lv_iload C.1.1 C.1.2.1 dX7_ask_144 (lv_at hl 5 rfl) ?_
    refine q_pVi C w [.int x6, .int x7] (c_X1_leftAtWorst  h) kv_X1_leftAtWorst k_82 (rcv C w kc_X1 hx_29 lx_29) rfl hl.1 (Nat.le_of_ble_eq_true rfl) ⟨Nat.le_of_ble_eq_true rfl, Nat.le_of_ble_eq_true rfl⟩ dX7_ask_146 (fun r14 H locs h w => ?_)
    refine lv_istore (lv' := [(8, .int r14), (0, .ref (ga g 0)), (2, .int x2), (4, .int x4), (5, .int x5), (6, .int x6), (7, .int x7)]) C.1.1 C.1.2.1 dX7_ask_149 hl (by decide) rfl (fun ls hl => ?_)
    refine lv_iload C.1.1 C.1.2.1 dX7_ask_151 (lv_at hl 0 rfl) ?_
    refine lv_iload C.1.1 C.1.2.1 dX7_ask_153 (lv_at hl 4 rfl) ?_
    have J : ∀ ls : Array Slot, lv_has ls 9 [(0, .ref (ga g 0)), (2, .int x2), (4, .int (if x5 ≤ r14 then x4 else ((10 * x6) + x7))), (5, .int (if x5 ≤ r14 then x5 else r14)), (6, .int x6), (7, .int x7)] → W p l e (rmOf 6 137) s m args below meth c H locs 0 0 (MQ below (va_Qi Q (PostW g layX 68) (gF g)) args s 0 0 (gF g)) (F0 m 172 ls []) := by
      intro ls hl
      refine lv_iinc (v := x7 + 1) (lv' := [(7, .int (x7 + 1)), (0, .ref (ga g 0)), (2, .int x2), (4, .int (if x5 ≤ r14 then x4 else ((10 * x6) + x7))), (5, .int (if x5 ≤ r14 then x5 else r14)), (6, .int x6)]) C.1.1 C.1.2.1 dX7_ask_172 hl (k := 5) rfl rfl (by decide) rfl (fun ls hl => ?_)
      refine lv_goto (tgt := 131) C.1.1 C.1.2.1 dX7_ask_175 (by decide) ?_
      exact hK131 _ _ _ _ _ _ h w (lv_sub hl [1, 2, 3, 4, 5, 0] rfl)
    refine lv_icmp_ge (tgt := 172) C.1.1 C.1.2.1 dX7_ask_155 (by decide) (fun hc15 => ?_) (fun hc15 => ?_)
    · simp only [if_pos hc15] at J hl
      exact J ls (lv_sub hl [1, 2, 3, 4, 5, 6] rfl)
    · refine lv_iload C.1.1 C.1.2.1 dX7_ask_158 (lv_at hl 0 rfl) ?_
      refine lv_istore (lv' := [(5, .int r14), (8, .int r14), (0, .ref (ga g 0)), (2, .int x2), (4, .int x4), (6, .int x6), (7, .int x7)]) C.1.1 C.1.2.1 dX7_ask_160 hl (by decide) rfl (fun ls hl => ?_)
      refine lv_bipush (v := 10) C.1.1 C.1.2.1 dX7_ask_162 (by decide) ?_
      refine lv_iload C.1.1 C.1.2.1 dX7_ask_164 (lv_at hl 5 rfl) ?_
      refine lv_imul C.1.1 C.1.2.1 dX7_ask_166 ?_
      refine lv_iload C.1.1 C.1.2.1 dX7_ask_167 (lv_at hl 6 rfl) ?_
      refine lv_iadd C.1.1 C.1.2.1 dX7_ask_169 ?_
      refine lv_istore (lv' := [(4, .int ((10 * x6) + x7)), (5, .int r14), (8, .int r14), (0, .ref (ga g 0)), (2, .int x2), (6, .int x6), (7, .int x7)]) C.1.1 C.1.2.1 dX7_ask_170 hl (by decide) rfl (fun ls hl => ?_)
      simp only [if_neg hc15] at J hl
      exact J ls (lv_sub hl [3, 4, 0, 1, 5, 6] rfl)
set_option maxHeartbeats 4000000 in
set_option maxRecDepth 100000 in
theorem l_X7_ask_131 {x2 : Int32} {x6 : Int32} {M : Mem} {K121 : Int32 → Int32 → Int32 → Prop} {Q : Int32 → Mem → Prop} (C : Cx p s m args c cX7_ask 9 RX7 g) (hr : meth.sig.returnType = (some .int)) (hk : meth.locks = false) (hK121 : ∀ (x4 : Int32) (x5 : Int32) (x6 : Int32) (H : Heap) (locs : List Loc) (ls : Array Slot), K121 x4 x5 x6 → Wd g layX 68 s.heap M H locs → lv_has ls 9 [(0, .ref (ga g 0)), (2, .int x2), (4, .int x4), (5, .int x5), (6, .int x6)] → W p l e (rmOf 6 137) s m args below meth c H locs 0 0 (MQ below (va_Qi Q (PostW g layX 68) (gF g)) args s 0 0 (gF g)) (F0 m 121 ls [])) : ∀ (n : Nat) (x4 : Int32) (x5 : Int32) (x7 : Int32) (H : Heap) (locs : List Loc) (ls : Array Slot), fu3 (w_X7_ask_131 x2 x6 M K121 Q) n x4 x5 x7 → Wd g layX 68 s.heap M H locs → lv_has ls 9 [(0, .ref (ga g 0)), (2, .int x2), (4, .int x4), (5, .int x5), (6, .int x6), (7, .int x7)] → W p l e (rmOf 6 137) s m args below meth c H locs 0 0 (MQ below (va_Qi Q (PostW g layX 68) (gF g)) args s 0 0 (gF g)) (F0 m 131 ls []) := by
  intro n
  induction n with
  | zero => intro x4 x5 x7 H locs ls h; exact h.elim
  | succ n ih => intro x4 x5 x7 H locs ls h w hl; exact v_X7_ask_131 C hr hk  hK121 ih h w hl
set_option maxHeartbeats 4000000 in
set_option maxRecDepth 100000 in
theorem v_X7_ask_121 {x2 : Int32} {x4 : Int32} {x5 : Int32} {x6 : Int32} {M : Mem} {K121 : Int32 → Int32 → Int32 → Prop} {Q : Int32 → Mem → Prop} {H : Heap} {locs : List Loc} {ls : Array Slot} (C : Cx p s m args c cX7_ask 9 RX7 g) (hr : meth.sig.returnType = (some .int)) (hk : meth.locks = false) (hK121 : ∀ (x4 : Int32) (x5 : Int32) (x6 : Int32) (H : Heap) (locs : List Loc) (ls : Array Slot), K121 x4 x5 x6 → Wd g layX 68 s.heap M H locs → lv_has ls 9 [(0, .ref (ga g 0)), (2, .int x2), (4, .int x4), (5, .int x5), (6, .int x6)] → W p l e (rmOf 6 137) s m args below meth c H locs 0 0 (MQ below (va_Qi Q (PostW g layX 68) (gF g)) args s 0 0 (gF g)) (F0 m 121 ls [])) (h : w_X7_ask_121 x2 M Q K121 x4 x5 x6) (w : Wd g layX 68 s.heap M H locs) (hl : lv_has ls 9 [(0, .ref (ga g 0)), (2, .int x2), (4, .int x4), (5, .int x5), (6, .int x6)]) : W p l e (rmOf 6 137) s m args below meth c H locs 0 0 (MQ below (va_Qi Q (PostW g layX 68) (gF g)) args s 0 0 (gF g)) (F0 m 121 ls []) := by
  unfold w_X7_ask_121 at h
  refine lv_iload C.1.1 C.1.2.1 dX7_ask_121 (lv_at hl 4 rfl) ?_
  refine lv_bipush (v := 20) C.1.1 C.1.2.1 dX7_ask_123 (by decide) ?_
  refine lv_icmp_gt (tgt := 184) C.1.1 C.1.2.1 dX7_ask_125 (by decide) (fun hc10 => ?_) (fun hc10 => ?_)
  · replace h := h.1 hc10
    exact v_X7_ask_184 C hr hk   h w (lv_sub hl [1, 2, 3] rfl)
  · replace h := h.2 hc10
    refine lv_iconst (v := 0) C.1.1 C.1.2.1 dX7_ask_128 (by decide) ?_
    refine lv_istore (lv' := [(7, .int 0), (0, .ref (ga g 0)), (2, .int x2), (4, .int x4), (5, .int x5), (6, .int x6)]) C.1.1 C.1.2.1 dX7_ask_129 hl (by decide) rfl (fun ls hl => ?_)
    obtain ⟨n, h⟩ := h
    exact l_X7_ask_131 C hr hk  hK121 n _ _ _ _ _ _ h w (lv_sub hl [1, 2, 3, 4, 5, 0] rfl)
set_option maxHeartbeats 4000000 in
set_option maxRecDepth 100000 in
theorem l_X7_ask_121 {x2 : Int32} {M : Mem} {Q : Int32 → Mem → Prop} (C : Cx p s m args c cX7_ask 9 RX7 g) (hr : meth.sig.returnType = (some .int)) (hk : meth.locks = false)  : ∀ (n : Nat) (x4 : Int32) (x5 : Int32) (x6 : Int32) (H : Heap) (locs : List Loc) (ls : Array Slot), fu3 (w_X7_ask_121 x2 M Q) n x4 x5 x6 → Wd g layX 68 s.heap M H locs → lv_has ls 9 [(0, .ref (ga g 0)), (2, .int x2), (4, .int x4), (5, .int x5), (6, .int x6)] → W p l e (rmOf 6 137) s m args below meth c H locs 0 0 (MQ below (va_Qi Q (PostW g layX 68) (gF g)) args s 0 0 (gF g)) (F0 m 121 ls []) := by
  intro n
  induction n with
  | zero => intro x4 x5 x6 H locs ls h; exact h.elim
  | succ n ih => intro x4 x5 x6 H locs ls h w hl; exact v_X7_ask_121 C hr hk   ih h w hl
set_option maxHeartbeats 4000000 in
set_option maxRecDepth 100000 in
theorem v_X7_ask_105 {x2 : Int32} {M : Mem} {Q : Int32 → Mem → Prop} {H : Heap} {locs : List Loc} {ls : Array Slot} (C : Cx p s m args c cX7_ask 9 RX7 g) (hr : meth.sig.returnType = (some .int)) (hk : meth.locks = false)  (h : w_X7_ask_105 x2 M Q) (w : Wd g layX 68 s.heap M H locs) (hl : lv_has ls 9 [(0, .ref (ga g 0)), (2, .int x2)]) : W p l e (rmOf 6 137) s m args below meth c H locs 0 0 (MQ below (va_Qi Q (PostW g layX 68) (gF g)) args s 0 0 (gF g)) (F0 m 105 ls []) := by
  unfold w_X7_ask_105 at h
  refine lv_bipush (v := (-4)) C.1.1 C.1.2.1 dX7_ask_105 (by decide) ?_
  refine lv_istore (lv' := [(4, .int (-4)), (0, .ref (ga g 0)), (2, .int x2)]) C.1.1 C.1.2.1 dX7_ask_107 hl (by decide) rfl (fun ls hl => ?_)
  refine lv_aload_n C.1.1 C.1.2.1 dX7_ask_109 rfl (lv_at hl 1 rfl) ?_
  refine gr_RX7_45 C w hx_0 lx_0 rfl dX7_ask_110 ?_
  refine gi_RX7_259 C w hx_29 lx_29 rfl dX7_ask_113 ?_
  refine lv_istore (lv' := [(5, .int (M 29 1)), (4, .int (-4)), (0, .ref (ga g 0)), (2, .int x2)]) C.1.1 C.1.2.1 dX7_ask_116 hl (by decide) rfl (fun ls hl => ?_)
  refine lv_iconst (v := 0) C.1.1 C.1.2.1 dX7_ask_118 (by decide) ?_
  refine lv_istore (lv' := [(6, .int 0), (5, .int (M 29 1)), (4, .int (-4)), (0, .ref (ga g 0)), (2, .int x2)]) C.1.1 C.1.2.1 dX7_ask_119 hl (by decide) rfl (fun ls hl => ?_)
  obtain ⟨n, h⟩ := h
  exact l_X7_ask_121 C hr hk   n _ _ _ _ _ _ h w (lv_sub hl [3, 4, 2, 1, 0] rfl)
set_option maxHeartbeats 4000000 in
set_option maxRecDepth 100000 in
theorem v_X7_ask_99 {x1 : Int32} {x2 : Int32} {x3 : Int32} {x4 : Int32} {M : Mem} {K46 : Int32 → Mem → Prop} {Q : Int32 → Mem → Prop} {H : Heap} {locs : List Loc} {ls : Array Slot} (C : Cx p s m args c cX7_ask 9 RX7 g) (hr : meth.sig.returnType = (some .int)) (hk : meth.locks = false) (hK46 : ∀ (x4 : Int32) (M : Mem) (H : Heap) (locs : List Loc) (ls : Array Slot), K46 x4 M → Wd g layX 68 s.heap M H locs → lv_has ls 9 [(0, .ref (ga g 0)), (1, .int x1), (2, .int x2), (3, .int x3), (4, .int x4)] → W p l e (rmOf 6 137) s m args below meth c H locs 0 0 (MQ below (va_Qi Q (PostW g layX 68) (gF g)) args s 0 0 (gF g)) (F0 m 46 ls [])) (h : w_X7_ask_99 x1 x2 x3 x4 M K46 Q) (w : Wd g layX 68 s.heap M H locs) (hl : lv_has ls 9 [(0, .ref (ga g 0)), (1, .int x1), (2, .int x2), (3, .int x3), (4, .int x4)]) : W p l e (rmOf 6 137) s m args below meth c H locs 0 0 (MQ below (va_Qi Q (PostW g layX 68) (gF g)) args s 0 0 (gF g)) (F0 m 99 ls []) := by
  unfold w_X7_ask_99 at h
  refine lv_iinc (v := x4 + 1) (lv' := [(4, .int (x4 + 1)), (0, .ref (ga g 0)), (1, .int x1), (2, .int x2), (3, .int x3)]) C.1.1 C.1.2.1 dX7_ask_99 hl (k := 4) rfl rfl (by decide) rfl (fun ls hl => ?_)
  refine lv_goto (tgt := 46) C.1.1 C.1.2.1 dX7_ask_102 (by decide) ?_
  exact hK46 _ _ _ _ _ h w (lv_sub hl [1, 2, 3, 4, 0] rfl)
set_option maxHeartbeats 4000000 in
set_option maxRecDepth 100000 in
theorem v_X7_ask_46 {x1 : Int32} {x2 : Int32} {x3 : Int32} {x4 : Int32} {M : Mem} {K46 : Int32 → Mem → Prop} {Q : Int32 → Mem → Prop} {H : Heap} {locs : List Loc} {ls : Array Slot} (C : Cx p s m args c cX7_ask 9 RX7 g) (hr : meth.sig.returnType = (some .int)) (hk : meth.locks = false) (hK46 : ∀ (x4 : Int32) (M : Mem) (H : Heap) (locs : List Loc) (ls : Array Slot), K46 x4 M → Wd g layX 68 s.heap M H locs → lv_has ls 9 [(0, .ref (ga g 0)), (1, .int x1), (2, .int x2), (3, .int x3), (4, .int x4)] → W p l e (rmOf 6 137) s m args below meth c H locs 0 0 (MQ below (va_Qi Q (PostW g layX 68) (gF g)) args s 0 0 (gF g)) (F0 m 46 ls [])) (h : w_X7_ask_46 x1 x2 x3 Q K46 x4 M) (w : Wd g layX 68 s.heap M H locs) (hl : lv_has ls 9 [(0, .ref (ga g 0)), (1, .int x1), (2, .int x2), (3, .int x3), (4, .int x4)]) : W p l e (rmOf 6 137) s m args below meth c H locs 0 0 (MQ below (va_Qi Q (PostW g layX 68) (gF g)) args s 0 0 (gF g)) (F0 m 46 ls []) := by
  unfold w_X7_ask_46 at h
  refine lv_iload C.1.1 C.1.2.1 dX7_ask_46 (lv_at hl 4 rfl) ?_
  refine lv_bipush (v := 6) C.1.1 C.1.2.1 dX7_ask_48 (by decide) ?_
  refine lv_icmp_ge (tgt := 105) C.1.1 C.1.2.1 dX7_ask_50 (by decide) (fun hc9 => ?_) (fun hc9 => ?_)
  · replace h := h.1 hc9
    exact v_X7_ask_105 C hr hk   h w (lv_sub hl [0, 2] rfl)
  · replace h := h.2 hc9
    refine lv_iload_n C.1.1 C.1.2.1 dX7_ask_53 rfl (lv_at hl 3 rfl) ?_
    refine lv_iload C.1.1 C.1.2.1 dX7_ask_54 (lv_at hl 4 rfl) ?_
    refine q_ishr C dX7_ask_56 ?_
    refine lv_iconst (v := 1) C.1.1 C.1.2.1 dX7_ask_57 (by decide) ?_
    refine lv_iand C.1.1 C.1.2.1 dX7_ask_58 ?_
    refine lv_iconst (v := 1) C.1.1 C.1.2.1 dX7_ask_59 (by decide) ?_
    refine lv_icmp_ne (tgt := 99) C.1.1 C.1.2.1 dX7_ask_60 (by decide) (fun hc16 => ?_) (fun hc16 => ?_)
    · replace h := h.2 hc16
      exact v_X7_ask_99 C hr hk  hK46 h w (lv_sub hl [0, 1, 2, 3, 4] rfl)
    · replace h := h.1 hc16
      refine lv_aload_n C.1.1 C.1.2.1 dX7_ask_63 rfl (lv_at hl 0 rfl) ?_
      refine gr_RX7_19 C w hx_0 lx_0 rfl dX7_ask_64 ?_
      refine lv_aload_n C.1.1 C.1.2.1 dX7_ask_67 rfl (lv_at hl 0 rfl) ?_
      refine gr_RX7_10 C w hx_0 lx_0 rfl dX7_ask_68 ?_
      refine q_cVv C w [.ref (ga g 1)] (c_X6_begin  h) kv_X6_begin k_64 (rcv C w kc_X6 hx_11 lx_11) rfl hl.1 (Nat.le_of_ble_eq_true rfl) ⟨Nat.le_of_ble_eq_true rfl, Nat.le_of_ble_eq_true rfl⟩ dX7_ask_71 (fun M18 H locs h w => ?_)
      refine lv_aload_n C.1.1 C.1.2.1 dX7_ask_74 rfl (lv_at hl 0 rfl) ?_
      refine gr_RX7_19 C w hx_0 lx_0 rfl dX7_ask_75 ?_
      refine gr_RX7_78 C w hx_11 lx_11 rfl dX7_ask_78 ?_
      refine gr_RX7_149 C w hx_12 lx_12 rfl dX7_ask_81 ?_
      refine lv_iload_n C.1.1 C.1.2.1 dX7_ask_84 rfl (lv_at hl 1 rfl) ?_
      refine lv_iload C.1.1 C.1.2.1 dX7_ask_85 (lv_at hl 4 rfl) ?_
      refine q_ias C w hx_16 lx_16 h.1 dX7_ask_87 (fun M19 H locs eM19 w => ?_)
      replace h := h.2 M19 eM19
      refine lv_aload_n C.1.1 C.1.2.1 dX7_ask_88 rfl (lv_at hl 0 rfl) ?_
      refine gr_RX7_45 C w hx_0 lx_0 rfl dX7_ask_89 ?_
      refine lv_aload_n C.1.1 C.1.2.1 dX7_ask_92 rfl (lv_at hl 0 rfl) ?_
      refine gr_RX7_19 C w hx_0 lx_0 rfl dX7_ask_93 ?_
      refine q_cVv C w [.ref (ga g 11)] (c_X1_add  h) kv_X1_add k_83 (rcv C w kc_X1 hx_29 lx_29) rfl hl.1 (Nat.le_of_ble_eq_true rfl) ⟨Nat.le_of_ble_eq_true rfl, Nat.le_of_ble_eq_true rfl⟩ dX7_ask_96 (fun M21 H locs h w => ?_)
      exact v_X7_ask_99 C hr hk  hK46 h w (lv_sub hl [0, 1, 2, 3, 4] rfl)
set_option maxHeartbeats 4000000 in
set_option maxRecDepth 100000 in
theorem l_X7_ask_46 {x1 : Int32} {x2 : Int32} {x3 : Int32} {Q : Int32 → Mem → Prop} (C : Cx p s m args c cX7_ask 9 RX7 g) (hr : meth.sig.returnType = (some .int)) (hk : meth.locks = false)  : ∀ (n : Nat) (x4 : Int32) (M : Mem) (H : Heap) (locs : List Loc) (ls : Array Slot), fu2 (w_X7_ask_46 x1 x2 x3 Q) n x4 M → Wd g layX 68 s.heap M H locs → lv_has ls 9 [(0, .ref (ga g 0)), (1, .int x1), (2, .int x2), (3, .int x3), (4, .int x4)] → W p l e (rmOf 6 137) s m args below meth c H locs 0 0 (MQ below (va_Qi Q (PostW g layX 68) (gF g)) args s 0 0 (gF g)) (F0 m 46 ls []) := by
  intro n
  induction n with
  | zero => intro x4 M H locs ls h; exact h.elim
  | succ n ih => intro x4 M H locs ls h w hl; exact v_X7_ask_46 C hr hk   ih h w hl
set_option maxHeartbeats 4000000 in
set_option maxRecDepth 100000 in
theorem c_X7_ask {l : Launch} {g : Gt} {x1 : Int32} {x2 : Int32} {M : Mem} {Q : Int32 → Mem → Prop} (h : w_X7_ask x1 x2 M Q) : MI l yX7_ask cX7_ask 9 (some .int) 6 137 g layX 68 [.ref (ga g 0), .int x1, .int x2] M Q :=
  m_of (by decide +kernel) (Nat.le_of_ble_eq_true rfl) (fun p e s m args below meth c ls C hr hk w hl => by
    have C : Cx p s m args c cX7_ask 9 RX7 g := C
    have hl : lv_has ls 9 [(0, .ref (ga g 0)), (1, .int x1), (2, .int x2)] := hl
    unfold w_X7_ask at h
    obtain ⟨H, eH⟩ : ∃ H : Heap, H = s.heap := ⟨_, rfl⟩
    obtain ⟨locs, el⟩ : ∃ locs : List Loc, locs = [] := ⟨_, rfl⟩
    have w : Wd g layX 68 s.heap M H locs := by rw [eH, el]; exact w
    suffices hw : W p l e (rmOf 6 137) s m args below meth c H locs 0 0 (MQ below (va_Qi Q (PostW g layX 68) (gF g)) args s 0 0 (gF g)) (F0 m 0 ls []) by rw [eH, el] at hw; exact hw
    clear eH el
    refine lv_aload_n C.1.1 C.1.2.1 dX7_ask_0 rfl (lv_at hl 0 rfl) ?_
    refine lv_iload_n C.1.1 C.1.2.1 dX7_ask_1 rfl (lv_at hl 1 rfl) ?_
    refine q_pVi C w [.int x1] (c_X7_isNoTaker  h) kv_X7_isNoTaker k_56 (rcv C w kc_X7 hx_0 lx_0) rfl hl.1 (Nat.le_of_ble_eq_true rfl) ⟨Nat.le_of_ble_eq_true rfl, Nat.le_of_ble_eq_true rfl⟩ dX7_ask_2 (fun r1 H locs h w => ?_)
    refine lv_if_ne (tgt := 17) C.1.1 C.1.2.1 dX7_ask_5 (by decide) (fun hc2 => ?_) (fun hc2 => ?_)
    · replace h := h.2 hc2
      refine lv_iconst (v := (-1)) C.1.1 C.1.2.1 dX7_ask_17 (by decide) ?_
      exact q_iret C hr hk w rfl h dX7_ask_18
    · replace h := h.1 hc2
      refine lv_iload_n C.1.1 C.1.2.1 dX7_ask_8 rfl (lv_at hl 2 rfl) ?_
      refine lv_iconst (v := 0) C.1.1 C.1.2.1 dX7_ask_9 (by decide) ?_
      refine lv_iconst (v := 1) C.1.1 C.1.2.1 dX7_ask_10 (by decide) ?_
      refine q_pSi C w [.int x2, .int 0, .int 1] (c_X7_isOutside  h) ks_X7_isOutside k_45  rfl hl.1 (Nat.le_of_ble_eq_true rfl) ⟨Nat.le_of_ble_eq_true rfl, Nat.le_of_ble_eq_true rfl⟩ dX7_ask_11 (fun r3 H locs h w => ?_)
      refine lv_if_eq (tgt := 19) C.1.1 C.1.2.1 dX7_ask_14 (by decide) (fun hc4 => ?_) (fun hc4 => ?_)
      · replace h := h.1 hc4
        refine lv_aload_n C.1.1 C.1.2.1 dX7_ask_19 rfl (lv_at hl 0 rfl) ?_
        refine gr_RX7_45 C w hx_0 lx_0 rfl dX7_ask_20 ?_
        refine q_cVv C w [] (c_X1_clear  h) kv_X1_clear k_81 (rcv C w kc_X1 hx_29 lx_29) rfl hl.1 (Nat.le_of_ble_eq_true rfl) ⟨Nat.le_of_ble_eq_true rfl, Nat.le_of_ble_eq_true rfl⟩ dX7_ask_23 (fun M6 H locs h w => ?_)
        refine lv_aload_n C.1.1 C.1.2.1 dX7_ask_26 rfl (lv_at hl 0 rfl) ?_
        refine lv_iload_n C.1.1 C.1.2.1 dX7_ask_27 rfl (lv_at hl 1 rfl) ?_
        refine lv_aload_n C.1.1 C.1.2.1 dX7_ask_28 rfl (lv_at hl 0 rfl) ?_
        refine gr_RX7_19 C w hx_0 lx_0 rfl dX7_ask_29 ?_
        refine gr_RX7_78 C w hx_11 lx_11 rfl dX7_ask_32 ?_
        refine gr_RX7_149 C w hx_12 lx_12 rfl dX7_ask_35 ?_
        refine lv_iconst (v := 5) C.1.1 C.1.2.1 dX7_ask_38 (by decide) ?_
        refine q_cVi C w [.int x1, .ref (ga g 16), .int 5] (c_X7_fittingBits ⟨hx_16, lx_16⟩ h) kv_X7_fittingBits k_80 (rcv C w kc_X7 hx_0 lx_0) rfl hl.1 (Nat.le_of_ble_eq_true rfl) ⟨Nat.le_of_ble_eq_true rfl, Nat.le_of_ble_eq_true rfl⟩ dX7_ask_39 (fun r7 M8 H locs h w => ?_)
        refine lv_istore_n (lv' := [(3, .int r7), (0, .ref (ga g 0)), (1, .int x1), (2, .int x2)]) C.1.1 C.1.2.1 dX7_ask_42 rfl hl (by decide) rfl (fun ls hl => ?_)
        refine lv_iconst (v := 0) C.1.1 C.1.2.1 dX7_ask_43 (by decide) ?_
        refine lv_istore (lv' := [(4, .int 0), (3, .int r7), (0, .ref (ga g 0)), (1, .int x1), (2, .int x2)]) C.1.1 C.1.2.1 dX7_ask_44 hl (by decide) rfl (fun ls hl => ?_)
        obtain ⟨n, h⟩ := h
        exact l_X7_ask_46 C hr hk   n _ _ _ _ _ h w (lv_sub hl [2, 3, 4, 1, 0] rfl)
      · replace h := h.2 hc4
        refine lv_iconst (v := (-1)) C.1.1 C.1.2.1 dX7_ask_17 (by decide) ?_
        exact q_iret C hr hk w rfl h dX7_ask_18)
-- drift
set_option maxHeartbeats 4000000 in
set_option maxRecDepth 100000 in
theorem v_X7_drift_123 {x3 : Int32} {M : Mem} {Q : Int32 → Mem → Prop} {H : Heap} {locs : List Loc} {ls : Array Slot} (C : Cx p s m args c cX7_drift 7 RX7 g) (hr : meth.sig.returnType = (some .int)) (hk : meth.locks = false)  (h : w_X7_drift_123 x3 M Q) (w : Wd g layX 68 s.heap M H locs) (hl : lv_has ls 7 [(0, .ref (ga g 0)), (3, .int x3)]) : W p l e (rmOf 4 89) s m args below meth c H locs 0 0 (MQ below (va_Qi Q (PostW g layX 68) (gF g)) args s 0 0 (gF g)) (F0 m 123 ls []) := by
  unfold w_X7_drift_123 at h
  refine lv_iload_n C.1.1 C.1.2.1 dX7_drift_123 rfl (lv_at hl 1 rfl) ?_
  have J : ∀ ls : Array Slot, lv_has ls 7 [] → W p l e (rmOf 4 89) s m args below meth c H locs 0 0 (MQ below (va_Qi Q (PostW g layX 68) (gF g)) args s 0 0 (gF g)) (F0 m 144 ls [.int (if x3 = 0 then (M 11 2) else (M 11 3))]) := by
    intro ls hl
    exact q_iret C hr hk w rfl h dX7_drift_144
  refine lv_if_ne (tgt := 137) C.1.1 C.1.2.1 dX7_drift_124 (by decide) (fun hc9 => ?_) (fun hc9 => ?_)
  · refine lv_aload_n C.1.1 C.1.2.1 dX7_drift_137 rfl (lv_at hl 0 rfl) ?_
    refine gr_RX7_19 C w hx_0 lx_0 rfl dX7_drift_138 ?_
    refine gi_RX7_203 C w hx_11 lx_11 rfl dX7_drift_141 ?_
    simp only [if_neg hc9] at J hl
    exact J ls (lv_sub hl [] rfl)
  · refine lv_aload_n C.1.1 C.1.2.1 dX7_drift_127 rfl (lv_at hl 0 rfl) ?_
    refine gr_RX7_19 C w hx_0 lx_0 rfl dX7_drift_128 ?_
    refine gi_RX7_197 C w hx_11 lx_11 rfl dX7_drift_131 ?_
    refine lv_goto (tgt := 144) C.1.1 C.1.2.1 dX7_drift_134 (by decide) ?_
    simp only [if_pos hc9] at J hl
    exact J ls (lv_sub hl [] rfl)
set_option maxHeartbeats 4000000 in
set_option maxRecDepth 100000 in
theorem v_X7_drift_51 {x2 : Int32} {x3 : Int32} {x4 : Int32} {x5 : Int32} {M : Mem} {K51 : Int32 → Int32 → Mem → Prop} {Q : Int32 → Mem → Prop} {H : Heap} {locs : List Loc} {ls : Array Slot} (C : Cx p s m args c cX7_drift 7 RX7 g) (hr : meth.sig.returnType = (some .int)) (hk : meth.locks = false) (hK51 : ∀ (x4 : Int32) (x5 : Int32) (M : Mem) (H : Heap) (locs : List Loc) (ls : Array Slot), K51 x4 x5 M → Wd g layX 68 s.heap M H locs → lv_has ls 7 [(0, .ref (ga g 0)), (2, .int x2), (3, .int x3), (4, .int x4), (5, .int x5)] → W p l e (rmOf 4 89) s m args below meth c H locs 0 0 (MQ below (va_Qi Q (PostW g layX 68) (gF g)) args s 0 0 (gF g)) (F0 m 51 ls [])) (h : w_X7_drift_51 x2 x3 Q K51 x4 x5 M) (w : Wd g layX 68 s.heap M H locs) (hl : lv_has ls 7 [(0, .ref (ga g 0)), (2, .int x2), (3, .int x3), (4, .int x4), (5, .int x5)]) : W p l e (rmOf 4 89) s m args below meth c H locs 0 0 (MQ below (va_Qi Q (PostW g layX 68) (gF g)) args s 0 0 (gF g)) (F0 m 51 ls []) := by
  unfold w_X7_drift_51 at h
  refine lv_iload C.1.1 C.1.2.1 dX7_drift_51 (lv_at hl 4 rfl) ?_
  refine lv_iload_n C.1.1 C.1.2.1 dX7_drift_53 rfl (lv_at hl 1 rfl) ?_
  refine lv_icmp_ge (tgt := 123) C.1.1 C.1.2.1 dX7_drift_54 (by decide) (fun hc8 => ?_) (fun hc8 => ?_)
  · replace h := h.1 hc8
    exact v_X7_drift_123 C hr hk   h w (lv_sub hl [0, 2] rfl)
  · replace h := h.2 hc8
    refine lv_iload C.1.1 C.1.2.1 dX7_drift_57 (lv_at hl 3 rfl) ?_
    refine q_ldcw C k_84 dX7_drift_59 ?_
    refine lv_imul C.1.1 C.1.2.1 dX7_drift_62 ?_
    refine lv_sipush (v := 12345) C.1.1 C.1.2.1 dX7_drift_63 (by decide) ?_
    refine lv_iadd C.1.1 C.1.2.1 dX7_drift_66 ?_
    refine lv_istore (lv' := [(4, .int ((x4 * 1103515245) + 12345)), (0, .ref (ga g 0)), (2, .int x2), (3, .int x3), (5, .int x5)]) C.1.1 C.1.2.1 dX7_drift_67 hl (by decide) rfl (fun ls hl => ?_)
    refine lv_iload C.1.1 C.1.2.1 dX7_drift_69 (lv_at hl 0 rfl) ?_
    refine lv_bipush (v := 16) C.1.1 C.1.2.1 dX7_drift_71 (by decide) ?_
    refine q_iushr C dX7_drift_73 ?_
    refine lv_sipush (v := 32767) C.1.1 C.1.2.1 dX7_drift_74 (by decide) ?_
    refine lv_iand C.1.1 C.1.2.1 dX7_drift_77 ?_
    refine lv_istore (lv' := [(6, .int ((su ((x4 * 1103515245) + 12345) 16) &&& 32767)), (4, .int ((x4 * 1103515245) + 12345)), (0, .ref (ga g 0)), (2, .int x2), (3, .int x3), (5, .int x5)]) C.1.1 C.1.2.1 dX7_drift_78 hl (by decide) rfl (fun ls hl => ?_)
    refine lv_aload_n C.1.1 C.1.2.1 dX7_drift_80 rfl (lv_at hl 2 rfl) ?_
    refine gr_RX7_19 C w hx_0 lx_0 rfl dX7_drift_81 ?_
    refine gr_RX7_78 C w hx_11 lx_11 rfl dX7_drift_84 ?_
    refine gr_RX7_149 C w hx_12 lx_12 rfl dX7_drift_87 ?_
    refine lv_iload C.1.1 C.1.2.1 dX7_drift_90 (lv_at hl 0 rfl) ?_
    refine lv_aload_n C.1.1 C.1.2.1 dX7_drift_92 rfl (lv_at hl 2 rfl) ?_
    refine gr_RX7_10 C w hx_0 lx_0 rfl dX7_drift_93 ?_
    refine gi_RX7_101 C w hx_1 lx_1 rfl dX7_drift_96 ?_
    refine q_irem C dX7_drift_99 h.1 ?_
    replace h := h.2
    refine lv_iload C.1.1 C.1.2.1 dX7_drift_100 (lv_at hl 0 rfl) ?_
    refine lv_bipush (v := 8) C.1.1 C.1.2.1 dX7_drift_102 (by decide) ?_
    refine lv_idiv C.1.1 C.1.2.1 dX7_drift_104 (by decide) ?_
    refine lv_bipush (v := 6) C.1.1 C.1.2.1 dX7_drift_105 (by decide) ?_
    refine q_irem C dX7_drift_107 (by decide) ?_
    refine q_ias C w hx_16 lx_16 h.1 dX7_drift_108 (fun M10 H locs eM10 w => ?_)
    replace h := h.2 M10 eM10
    refine lv_aload_n C.1.1 C.1.2.1 dX7_drift_109 rfl (lv_at hl 2 rfl) ?_
    refine gr_RX7_19 C w hx_0 lx_0 rfl dX7_drift_110 ?_
    refine lv_iconst (v := 0) C.1.1 C.1.2.1 dX7_drift_113 (by decide) ?_
    refine q_cVv C w [.int 0] (c_X6_passOne  h) kv_X6_passOne k_67 (rcv C w kc_X6 hx_11 lx_11) rfl hl.1 (Nat.le_of_ble_eq_true rfl) ⟨Nat.le_of_ble_eq_true rfl, Nat.le_of_ble_eq_true rfl⟩ dX7_drift_114 (fun M12 H locs h w => ?_)
    refine lv_iinc (v := x5 + 1) (lv' := [(5, .int (x5 + 1)), (6, .int ((su ((x4 * 1103515245) + 12345) 16) &&& 32767)), (4, .int ((x4 * 1103515245) + 12345)), (0, .ref (ga g 0)), (2, .int x2), (3, .int x3)]) C.1.1 C.1.2.1 dX7_drift_117 hl (k := 5) rfl rfl (by decide) rfl (fun ls hl => ?_)
    refine lv_goto (tgt := 51) C.1.1 C.1.2.1 dX7_drift_120 (by decide) ?_
    exact hK51 _ _ _ _ _ _ h w (lv_sub hl [3, 4, 5, 2, 0] rfl)
set_option maxHeartbeats 4000000 in
set_option maxRecDepth 100000 in
theorem l_X7_drift_51 {x2 : Int32} {x3 : Int32} {Q : Int32 → Mem → Prop} (C : Cx p s m args c cX7_drift 7 RX7 g) (hr : meth.sig.returnType = (some .int)) (hk : meth.locks = false)  : ∀ (n : Nat) (x4 : Int32) (x5 : Int32) (M : Mem) (H : Heap) (locs : List Loc) (ls : Array Slot), fu3 (w_X7_drift_51 x2 x3 Q) n x4 x5 M → Wd g layX 68 s.heap M H locs → lv_has ls 7 [(0, .ref (ga g 0)), (2, .int x2), (3, .int x3), (4, .int x4), (5, .int x5)] → W p l e (rmOf 4 89) s m args below meth c H locs 0 0 (MQ below (va_Qi Q (PostW g layX 68) (gF g)) args s 0 0 (gF g)) (F0 m 51 ls []) := by
  intro n
  induction n with
  | zero => intro x4 x5 M H locs ls h; exact h.elim
  | succ n ih => intro x4 x5 M H locs ls h w hl; exact v_X7_drift_51 C hr hk   ih h w hl
set_option maxHeartbeats 4000000 in
set_option maxRecDepth 100000 in
theorem c_X7_drift {l : Launch} {g : Gt} {x1 : Int32} {x2 : Int32} {x3 : Int32} {M : Mem} {Q : Int32 → Mem → Prop} (h : w_X7_drift x1 x2 x3 M Q) : MI l yX7_drift cX7_drift 7 (some .int) 4 89 g layX 68 [.ref (ga g 0), .int x1, .int x2, .int x3] M Q :=
  m_of (by decide +kernel) (Nat.le_of_ble_eq_true rfl) (fun p e s m args below meth c ls C hr hk w hl => by
    have C : Cx p s m args c cX7_drift 7 RX7 g := C
    have hl : lv_has ls 7 [(0, .ref (ga g 0)), (1, .int x1), (2, .int x2), (3, .int x3)] := hl
    unfold w_X7_drift at h
    obtain ⟨H, eH⟩ : ∃ H : Heap, H = s.heap := ⟨_, rfl⟩
    obtain ⟨locs, el⟩ : ∃ locs : List Loc, locs = [] := ⟨_, rfl⟩
    have w : Wd g layX 68 s.heap M H locs := by rw [eH, el]; exact w
    suffices hw : W p l e (rmOf 4 89) s m args below meth c H locs 0 0 (MQ below (va_Qi Q (PostW g layX 68) (gF g)) args s 0 0 (gF g)) (F0 m 0 ls []) by rw [eH, el] at hw; exact hw
    clear eH el
    refine lv_iload_n C.1.1 C.1.2.1 dX7_drift_0 rfl (lv_at hl 2 rfl) ?_
    refine lv_iconst (v := 1) C.1.1 C.1.2.1 dX7_drift_1 (by decide) ?_
    refine lv_bipush (v := 60) C.1.1 C.1.2.1 dX7_drift_2 (by decide) ?_
    refine q_pSi C w [.int x2, .int 1, .int 60] (c_X7_isOutside  h) ks_X7_isOutside k_45  rfl hl.1 (Nat.le_of_ble_eq_true rfl) ⟨Nat.le_of_ble_eq_true rfl, Nat.le_of_ble_eq_true rfl⟩ dX7_drift_4 (fun r1 H locs h w => ?_)
    refine lv_if_ne (tgt := 19) C.1.1 C.1.2.1 dX7_drift_7 (by decide) (fun hc2 => ?_) (fun hc2 => ?_)
    · replace h := h.2 hc2
      refine lv_iconst (v := (-1)) C.1.1 C.1.2.1 dX7_drift_19 (by decide) ?_
      exact q_iret C hr hk w rfl h dX7_drift_20
    · replace h := h.1 hc2
      refine lv_iload_n C.1.1 C.1.2.1 dX7_drift_10 rfl (lv_at hl 3 rfl) ?_
      refine lv_iconst (v := 0) C.1.1 C.1.2.1 dX7_drift_11 (by decide) ?_
      refine lv_iconst (v := 1) C.1.1 C.1.2.1 dX7_drift_12 (by decide) ?_
      refine q_pSi C w [.int x3, .int 0, .int 1] (c_X7_isOutside  h) ks_X7_isOutside k_45  rfl hl.1 (Nat.le_of_ble_eq_true rfl) ⟨Nat.le_of_ble_eq_true rfl, Nat.le_of_ble_eq_true rfl⟩ dX7_drift_13 (fun r3 H locs h w => ?_)
      refine lv_if_eq (tgt := 21) C.1.1 C.1.2.1 dX7_drift_16 (by decide) (fun hc4 => ?_) (fun hc4 => ?_)
      · replace h := h.1 hc4
        refine lv_aload_n C.1.1 C.1.2.1 dX7_drift_21 rfl (lv_at hl 0 rfl) ?_
        refine gr_RX7_10 C w hx_0 lx_0 rfl dX7_drift_22 ?_
        refine gi_RX7_101 C w hx_1 lx_1 rfl dX7_drift_25 ?_
        refine lv_if_gt (tgt := 34) C.1.1 C.1.2.1 dX7_drift_28 (by decide) (fun hc5 => ?_) (fun hc5 => ?_)
        · replace h := h.1 hc5
          refine lv_aload_n C.1.1 C.1.2.1 dX7_drift_34 rfl (lv_at hl 0 rfl) ?_
          refine gr_RX7_19 C w hx_0 lx_0 rfl dX7_drift_35 ?_
          refine lv_aload_n C.1.1 C.1.2.1 dX7_drift_38 rfl (lv_at hl 0 rfl) ?_
          refine gr_RX7_10 C w hx_0 lx_0 rfl dX7_drift_39 ?_
          refine q_cVv C w [.ref (ga g 1)] (c_X6_begin  h) kv_X6_begin k_64 (rcv C w kc_X6 hx_11 lx_11) rfl hl.1 (Nat.le_of_ble_eq_true rfl) ⟨Nat.le_of_ble_eq_true rfl, Nat.le_of_ble_eq_true rfl⟩ dX7_drift_42 (fun M7 H locs h w => ?_)
          refine lv_iload_n C.1.1 C.1.2.1 dX7_drift_45 rfl (lv_at hl 1 rfl) ?_
          refine lv_istore (lv' := [(4, .int x1), (0, .ref (ga g 0)), (1, .int x1), (2, .int x2), (3, .int x3)]) C.1.1 C.1.2.1 dX7_drift_46 hl (by decide) rfl (fun ls hl => ?_)
          refine lv_iconst (v := 0) C.1.1 C.1.2.1 dX7_drift_48 (by decide) ?_
          refine lv_istore (lv' := [(5, .int 0), (4, .int x1), (0, .ref (ga g 0)), (1, .int x1), (2, .int x2), (3, .int x3)]) C.1.1 C.1.2.1 dX7_drift_49 hl (by decide) rfl (fun ls hl => ?_)
          obtain ⟨n, h⟩ := h
          exact l_X7_drift_51 C hr hk   n _ _ _ _ _ _ h w (lv_sub hl [2, 4, 5, 1, 0] rfl)
        · replace h := h.2 hc5
          refine lv_bipush (v := (-2)) C.1.1 C.1.2.1 dX7_drift_31 (by decide) ?_
          exact q_iret C hr hk w rfl h dX7_drift_33
      · replace h := h.2 hc4
        refine lv_iconst (v := (-1)) C.1.1 C.1.2.1 dX7_drift_19 (by decide) ?_
        exact q_iret C hr hk w rfl h dX7_drift_20)
-- keep
set_option maxHeartbeats 4000000 in
set_option maxRecDepth 100000 in
theorem c_X7_keep {l : Launch} {g : Gt} {x1 : Int32} {M : Mem} {Q : Int32 → Mem → Prop} (h : w_X7_keep x1 M Q) : MI l yX7_keep cX7_keep 3 (some .int) 2 47 g layX 68 [.ref (ga g 0), .int x1] M Q :=
  m_of (by decide +kernel) (Nat.le_of_ble_eq_true rfl) (fun p e s m args below meth c ls C hr hk w hl => by
    have C : Cx p s m args c cX7_keep 3 RX7 g := C
    have hl : lv_has ls 3 [(0, .ref (ga g 0)), (1, .int x1)] := hl
    unfold w_X7_keep at h
    obtain ⟨H, eH⟩ : ∃ H : Heap, H = s.heap := ⟨_, rfl⟩
    obtain ⟨locs, el⟩ : ∃ locs : List Loc, locs = [] := ⟨_, rfl⟩
    have w : Wd g layX 68 s.heap M H locs := by rw [eH, el]; exact w
    suffices hw : W p l e (rmOf 2 47) s m args below meth c H locs 0 0 (MQ below (va_Qi Q (PostW g layX 68) (gF g)) args s 0 0 (gF g)) (F0 m 0 ls []) by rw [eH, el] at hw; exact hw
    clear eH el
    refine lv_iload_n C.1.1 C.1.2.1 dX7_keep_0 rfl (lv_at hl 1 rfl) ?_
    refine lv_iconst (v := 0) C.1.1 C.1.2.1 dX7_keep_1 (by decide) ?_
    refine lv_iconst (v := 1) C.1.1 C.1.2.1 dX7_keep_2 (by decide) ?_
    refine q_pSi C w [.int x1, .int 0, .int 1] (c_X7_isOutside  h) ks_X7_isOutside k_45  rfl hl.1 (Nat.le_of_ble_eq_true rfl) ⟨Nat.le_of_ble_eq_true rfl, Nat.le_of_ble_eq_true rfl⟩ dX7_keep_3 (fun r1 H locs h w => ?_)
    refine lv_if_eq (tgt := 11) C.1.1 C.1.2.1 dX7_keep_6 (by decide) (fun hc2 => ?_) (fun hc2 => ?_)
    · replace h := h.1 hc2
      refine lv_aload_n C.1.1 C.1.2.1 dX7_keep_11 rfl (lv_at hl 0 rfl) ?_
      refine gr_RX7_53 C w hx_0 lx_0 rfl dX7_keep_12 ?_
      refine lv_iload_n C.1.1 C.1.2.1 dX7_keep_15 rfl (lv_at hl 1 rfl) ?_
      refine q_zal C w hx_38 lx_38 h.1 dX7_keep_16 ?_
      replace h := h.2
      have J : ∀ ls : Array Slot, lv_has ls 3 [(0, .ref (ga g 0)), (1, .int x1)] → W p l e (rmOf 2 47) s m args below meth c H locs 0 0 (MQ below (va_Qi Q (PostW g layX 68) (gF g)) args s 0 0 (gF g)) (F0 m 25 ls [.int (if (M 38 x1.toNatClampNeg) = 0 then (0 : Int32) else 1)]) := by
        intro ls hl
        refine lv_istore_n (lv' := [(2, .int (if (M 38 x1.toNatClampNeg) = 0 then (0 : Int32) else 1)), (0, .ref (ga g 0)), (1, .int x1)]) C.1.1 C.1.2.1 dX7_keep_25 rfl hl (by decide) rfl (fun ls hl => ?_)
        refine lv_aload_n C.1.1 C.1.2.1 dX7_keep_26 rfl (lv_at hl 1 rfl) ?_
        refine gr_RX7_49 C w hx_0 lx_0 rfl dX7_keep_27 ?_
        refine lv_iload_n C.1.1 C.1.2.1 dX7_keep_30 rfl (lv_at hl 2 rfl) ?_
        have hi4 := h.1
        replace h := h.2
        refine q_aal C w hx_37 lx_37 (by decide) hi4 dX7_keep_31 ?_
        refine lv_aload_n C.1.1 C.1.2.1 dX7_keep_32 rfl (lv_at hl 1 rfl) ?_
        refine gr_RX7_10 C w hx_0 lx_0 rfl dX7_keep_33 ?_
        refine q_cVv C w [.ref (ga g 1)] (c_X0_copyFrom (isE_img hi4) isE_1 h) kv_X0_copyFrom k_48 (rcv C w kc_X0 (eO (isE_img hi4)) (eL (isE_img hi4))) rfl hl.1 (Nat.le_of_ble_eq_true rfl) ⟨Nat.le_of_ble_eq_true rfl, Nat.le_of_ble_eq_true rfl⟩ dX7_keep_36 (fun M6 H locs h w => ?_)
        refine lv_aload_n C.1.1 C.1.2.1 dX7_keep_39 rfl (lv_at hl 1 rfl) ?_
        refine gr_RX7_53 C w hx_0 lx_0 rfl dX7_keep_40 ?_
        refine lv_iload_n C.1.1 C.1.2.1 dX7_keep_43 rfl (lv_at hl 2 rfl) ?_
        refine lv_iconst (v := 1) C.1.1 C.1.2.1 dX7_keep_44 (by decide) ?_
        refine q_zas C w hx_38 lx_38 h.1 dX7_keep_45 (fun M7 H locs eM7 w => ?_)
        replace h := h.2 M7 eM7
        refine lv_iload_n C.1.1 C.1.2.1 dX7_keep_46 rfl (lv_at hl 0 rfl) ?_
        exact q_iret C hr hk w rfl h dX7_keep_47
      refine lv_if_eq (tgt := 24) C.1.1 C.1.2.1 dX7_keep_17 (by decide) (fun hc3 => ?_) (fun hc3 => ?_)
      · refine lv_iconst (v := 0) C.1.1 C.1.2.1 dX7_keep_24 (by decide) ?_
        simp only [if_pos hc3] at J hl
        exact J ls (lv_sub hl [0, 1] rfl)
      · refine lv_iconst (v := 1) C.1.1 C.1.2.1 dX7_keep_20 (by decide) ?_
        refine lv_goto (tgt := 25) C.1.1 C.1.2.1 dX7_keep_21 (by decide) ?_
        simp only [if_neg hc3] at J hl
        exact J ls (lv_sub hl [0, 1] rfl)
    · replace h := h.2 hc2
      refine lv_iconst (v := (-1)) C.1.1 C.1.2.1 dX7_keep_9 (by decide) ?_
      exact q_iret C hr hk w rfl h dX7_keep_10)
-- back
set_option maxHeartbeats 4000000 in
set_option maxRecDepth 100000 in
theorem c_X7_back {l : Launch} {g : Gt} {x1 : Int32} {M : Mem} {Q : Int32 → Mem → Prop} (h : w_X7_back x1 M Q) : MI l yX7_back cX7_back 2 (some .int) 2 47 g layX 68 [.ref (ga g 0), .int x1] M Q :=
  m_of (by decide +kernel) (Nat.le_of_ble_eq_true rfl) (fun p e s m args below meth c ls C hr hk w hl => by
    have C : Cx p s m args c cX7_back 2 RX7 g := C
    have hl : lv_has ls 2 [(0, .ref (ga g 0)), (1, .int x1)] := hl
    unfold w_X7_back at h
    obtain ⟨H, eH⟩ : ∃ H : Heap, H = s.heap := ⟨_, rfl⟩
    obtain ⟨locs, el⟩ : ∃ locs : List Loc, locs = [] := ⟨_, rfl⟩
    have w : Wd g layX 68 s.heap M H locs := by rw [eH, el]; exact w
    suffices hw : W p l e (rmOf 2 47) s m args below meth c H locs 0 0 (MQ below (va_Qi Q (PostW g layX 68) (gF g)) args s 0 0 (gF g)) (F0 m 0 ls []) by rw [eH, el] at hw; exact hw
    clear eH el
    refine lv_iload_n C.1.1 C.1.2.1 dX7_back_0 rfl (lv_at hl 1 rfl) ?_
    refine lv_iconst (v := 0) C.1.1 C.1.2.1 dX7_back_1 (by decide) ?_
    refine lv_iconst (v := 1) C.1.1 C.1.2.1 dX7_back_2 (by decide) ?_
    refine q_pSi C w [.int x1, .int 0, .int 1] (c_X7_isOutside  h) ks_X7_isOutside k_45  rfl hl.1 (Nat.le_of_ble_eq_true rfl) ⟨Nat.le_of_ble_eq_true rfl, Nat.le_of_ble_eq_true rfl⟩ dX7_back_3 (fun r1 H locs h w => ?_)
    refine lv_if_eq (tgt := 11) C.1.1 C.1.2.1 dX7_back_6 (by decide) (fun hc2 => ?_) (fun hc2 => ?_)
    · replace h := h.1 hc2
      refine lv_aload_n C.1.1 C.1.2.1 dX7_back_11 rfl (lv_at hl 0 rfl) ?_
      refine gr_RX7_53 C w hx_0 lx_0 rfl dX7_back_12 ?_
      refine lv_iload_n C.1.1 C.1.2.1 dX7_back_15 rfl (lv_at hl 1 rfl) ?_
      refine q_zal C w hx_38 lx_38 h.1 dX7_back_16 ?_
      replace h := h.2
      refine lv_if_ne (tgt := 23) C.1.1 C.1.2.1 dX7_back_17 (by decide) (fun hc3 => ?_) (fun hc3 => ?_)
      · replace h := h.2 hc3
        refine lv_aload_n C.1.1 C.1.2.1 dX7_back_23 rfl (lv_at hl 0 rfl) ?_
        refine gr_RX7_10 C w hx_0 lx_0 rfl dX7_back_24 ?_
        refine lv_aload_n C.1.1 C.1.2.1 dX7_back_27 rfl (lv_at hl 0 rfl) ?_
        refine gr_RX7_49 C w hx_0 lx_0 rfl dX7_back_28 ?_
        refine lv_iload_n C.1.1 C.1.2.1 dX7_back_31 rfl (lv_at hl 1 rfl) ?_
        have hi4 := h.1
        replace h := h.2
        refine q_aal C w hx_37 lx_37 (by decide) hi4 dX7_back_32 ?_
        refine q_cVv C w [.ref (ga g (imgI x1.toNatClampNeg))] (c_X0_copyFrom isE_1 (isE_img hi4) h) kv_X0_copyFrom k_48 (rcv C w kc_X0 hx_1 lx_1) rfl hl.1 (Nat.le_of_ble_eq_true rfl) ⟨Nat.le_of_ble_eq_true rfl, Nat.le_of_ble_eq_true rfl⟩ dX7_back_33 (fun M6 H locs h w => ?_)
        refine lv_aload_n C.1.1 C.1.2.1 dX7_back_36 rfl (lv_at hl 0 rfl) ?_
        refine gr_RX7_10 C w hx_0 lx_0 rfl dX7_back_37 ?_
        refine gi_RX7_107 C w hx_1 lx_1 rfl dX7_back_40 ?_
        exact q_iret C hr hk w rfl h dX7_back_43
      · replace h := h.1 hc3
        refine lv_bipush (v := (-2)) C.1.1 C.1.2.1 dX7_back_20 (by decide) ?_
        exact q_iret C hr hk w rfl h dX7_back_22
    · replace h := h.2 hc2
      refine lv_iconst (v := (-1)) C.1.1 C.1.2.1 dX7_back_9 (by decide) ?_
      exact q_iret C hr hk w rfl h dX7_back_10)
-- isNoSheet
set_option maxHeartbeats 4000000 in
set_option maxRecDepth 100000 in
theorem c_X7_isNoSheet {l : Launch} {g : Gt} {x0 : Int32} {M : Mem} {Q : Int32 → Prop} (h : w_X7_isNoSheet x0 M Q) : MI l yX7_isNoSheet cX7_isNoSheet 1 (some .boolean) 1 22 g layX 68 [.int x0] M (fun r M9 => M9 = M ∧ Q r) :=
  m_of (by decide +kernel) (Nat.le_of_ble_eq_true rfl) (fun p e s m args below meth c ls C hr hk w hl => by
    have C : Cx p s m args c cX7_isNoSheet 1 RX7 g := C
    have hl : lv_has ls 1 [(0, .int x0)] := hl
    unfold w_X7_isNoSheet at h
    obtain ⟨H, eH⟩ : ∃ H : Heap, H = s.heap := ⟨_, rfl⟩
    obtain ⟨locs, el⟩ : ∃ locs : List Loc, locs = [] := ⟨_, rfl⟩
    have w : Wd g layX 68 s.heap M H locs := by rw [eH, el]; exact w
    suffices hw : W p l e (rmOf 1 22) s m args below meth c H locs 0 0 (MQ below (va_Qi (fun r M9 => M9 = M ∧ Q r) (PostW g layX 68) (gF g)) args s 0 0 (gF g)) (F0 m 0 ls []) by rw [eH, el] at hw; exact hw
    clear eH el
    refine lv_iload_n C.1.1 C.1.2.1 dX7_isNoSheet_0 rfl (lv_at hl 0 rfl) ?_
    refine lv_iconst (v := 0) C.1.1 C.1.2.1 dX7_isNoSheet_1 (by decide) ?_
    refine lv_iconst (v := 3) C.1.1 C.1.2.1 dX7_isNoSheet_2 (by decide) ?_
    refine q_pSi C w [.int x0, .int 0, .int 3] (c_X7_isOutside  h) ks_X7_isOutside k_45  rfl hl.1 (Nat.le_of_ble_eq_true rfl) ⟨Nat.le_of_ble_eq_true rfl, Nat.le_of_ble_eq_true rfl⟩ dX7_isNoSheet_3 (fun r1 H locs h w => ?_)
    exact q_iret C hr hk w h.1 ⟨rfl, h.2⟩ dX7_isNoSheet_6)
-- sheet
set_option maxHeartbeats 4000000 in
set_option maxRecDepth 100000 in
theorem c_X7_sheet {l : Launch} {g : Gt} {x1 : Int32} {x2 : Int32} {x3 : Int32} {M : Mem} {Q : Int32 → Mem → Prop} (h : w_X7_sheet x1 x2 x3 M Q) : MI l yX7_sheet cX7_sheet 4 (some .int) 2 42 g layX 68 [.ref (ga g 0), .int x1, .int x2, .int x3] M Q :=
  m_of (by decide +kernel) (Nat.le_of_ble_eq_true rfl) (fun p e s m args below meth c ls C hr hk w hl => by
    have C : Cx p s m args c cX7_sheet 4 RX7 g := C
    have hl : lv_has ls 4 [(0, .ref (ga g 0)), (1, .int x1), (2, .int x2), (3, .int x3)] := hl
    unfold w_X7_sheet at h
    obtain ⟨H, eH⟩ : ∃ H : Heap, H = s.heap := ⟨_, rfl⟩
    obtain ⟨locs, el⟩ : ∃ locs : List Loc, locs = [] := ⟨_, rfl⟩
    have w : Wd g layX 68 s.heap M H locs := by rw [eH, el]; exact w
    suffices hw : W p l e (rmOf 2 42) s m args below meth c H locs 0 0 (MQ below (va_Qi Q (PostW g layX 68) (gF g)) args s 0 0 (gF g)) (F0 m 0 ls []) by rw [eH, el] at hw; exact hw
    clear eH el
    refine lv_iload_n C.1.1 C.1.2.1 dX7_sheet_0 rfl (lv_at hl 1 rfl) ?_
    refine q_pSi C w [.int x1] (c_X7_isNoSheet  h) ks_X7_isNoSheet k_85  rfl hl.1 (Nat.le_of_ble_eq_true rfl) ⟨Nat.le_of_ble_eq_true rfl, Nat.le_of_ble_eq_true rfl⟩ dX7_sheet_1 (fun r1 H locs h w => ?_)
    refine lv_if_ne (tgt := 22) C.1.1 C.1.2.1 dX7_sheet_4 (by decide) (fun hc2 => ?_) (fun hc2 => ?_)
    · replace h := h.2 hc2
      refine lv_iconst (v := (-1)) C.1.1 C.1.2.1 dX7_sheet_22 (by decide) ?_
      exact q_iret C hr hk w rfl h dX7_sheet_23
    · replace h := h.1 hc2
      refine lv_iload_n C.1.1 C.1.2.1 dX7_sheet_7 rfl (lv_at hl 2 rfl) ?_
      refine lv_iconst (v := 0) C.1.1 C.1.2.1 dX7_sheet_8 (by decide) ?_
      refine lv_iconst (v := 2) C.1.1 C.1.2.1 dX7_sheet_9 (by decide) ?_
      refine q_pSi C w [.int x2, .int 0, .int 2] (c_X7_isOutside  h) ks_X7_isOutside k_45  rfl hl.1 (Nat.le_of_ble_eq_true rfl) ⟨Nat.le_of_ble_eq_true rfl, Nat.le_of_ble_eq_true rfl⟩ dX7_sheet_10 (fun r3 H locs h w => ?_)
      refine lv_if_ne (tgt := 22) C.1.1 C.1.2.1 dX7_sheet_13 (by decide) (fun hc4 => ?_) (fun hc4 => ?_)
      · replace h := h.2 hc4
        refine lv_iconst (v := (-1)) C.1.1 C.1.2.1 dX7_sheet_22 (by decide) ?_
        exact q_iret C hr hk w rfl h dX7_sheet_23
      · replace h := h.1 hc4
        refine lv_iload_n C.1.1 C.1.2.1 dX7_sheet_16 rfl (lv_at hl 3 rfl) ?_
        refine lv_bipush (v := 40) C.1.1 C.1.2.1 dX7_sheet_17 (by decide) ?_
        refine lv_icmp_le (tgt := 24) C.1.1 C.1.2.1 dX7_sheet_19 (by decide) (fun hc5 => ?_) (fun hc5 => ?_)
        · replace h := h.1 hc5
          refine lv_iload_n C.1.1 C.1.2.1 dX7_sheet_24 rfl (lv_at hl 3 rfl) ?_
          refine lv_if_ge (tgt := 31) C.1.1 C.1.2.1 dX7_sheet_25 (by decide) (fun hc6 => ?_) (fun hc6 => ?_)
          · replace h := h.1 hc6
            refine lv_aload_n C.1.1 C.1.2.1 dX7_sheet_31 rfl (lv_at hl 0 rfl) ?_
            refine gr_RX7_59 C w hx_0 lx_0 rfl dX7_sheet_32 ?_
            refine lv_iload_n C.1.1 C.1.2.1 dX7_sheet_35 rfl (lv_at hl 1 rfl) ?_
            have hi7 := h.1
            replace h := h.2
            refine q_aal C w hx_39 lx_39 (by decide) hi7 dX7_sheet_36 ?_
            refine lv_iload_n C.1.1 C.1.2.1 dX7_sheet_37 rfl (lv_at hl 2 rfl) ?_
            refine lv_iload_n C.1.1 C.1.2.1 dX7_sheet_38 rfl (lv_at hl 3 rfl) ?_
            refine q_cVv C w [.int x2, .int x3] (c_X2_renew (isS_sh hi7) h) kv_X2_renew k_86 (rcv C w kc_X2 (sO (isS_sh hi7)) (sL (isS_sh hi7))) rfl hl.1 (Nat.le_of_ble_eq_true rfl) ⟨Nat.le_of_ble_eq_true rfl, Nat.le_of_ble_eq_true rfl⟩ dX7_sheet_39 (fun M9 H locs h w => ?_)
            refine lv_iconst (v := 1) C.1.1 C.1.2.1 dX7_sheet_42 (by decide) ?_
            exact q_iret C hr hk w rfl h dX7_sheet_43
          · replace h := h.2 hc6
            refine lv_bipush (v := (-14)) C.1.1 C.1.2.1 dX7_sheet_28 (by decide) ?_
            exact q_iret C hr hk w rfl h dX7_sheet_30
        · replace h := h.2 hc5
          refine lv_iconst (v := (-1)) C.1.1 C.1.2.1 dX7_sheet_22 (by decide) ?_
          exact q_iret C hr hk w rfl h dX7_sheet_23)
-- lay
set_option maxHeartbeats 4000000 in
set_option maxRecDepth 100000 in
theorem c_X7_lay {l : Launch} {g : Gt} {x1 : Int32} {x2 : Int32} {x3 : Int32} {M : Mem} {Q : Int32 → Mem → Prop} (h : w_X7_lay x1 x2 x3 M Q) : MI l yX7_lay cX7_lay 4 (some .int) 2 43 g layX 68 [.ref (ga g 0), .int x1, .int x2, .int x3] M Q :=
  m_of (by decide +kernel) (Nat.le_of_ble_eq_true rfl) (fun p e s m args below meth c ls C hr hk w hl => by
    have C : Cx p s m args c cX7_lay 4 RX7 g := C
    have hl : lv_has ls 4 [(0, .ref (ga g 0)), (1, .int x1), (2, .int x2), (3, .int x3)] := hl
    unfold w_X7_lay at h
    obtain ⟨H, eH⟩ : ∃ H : Heap, H = s.heap := ⟨_, rfl⟩
    obtain ⟨locs, el⟩ : ∃ locs : List Loc, locs = [] := ⟨_, rfl⟩
    have w : Wd g layX 68 s.heap M H locs := by rw [eH, el]; exact w
    suffices hw : W p l e (rmOf 2 43) s m args below meth c H locs 0 0 (MQ below (va_Qi Q (PostW g layX 68) (gF g)) args s 0 0 (gF g)) (F0 m 0 ls []) by rw [eH, el] at hw; exact hw
    clear eH el
    refine lv_iload_n C.1.1 C.1.2.1 dX7_lay_0 rfl (lv_at hl 1 rfl) ?_
    refine q_pSi C w [.int x1] (c_X7_isNoSheet  h) ks_X7_isNoSheet k_85  rfl hl.1 (Nat.le_of_ble_eq_true rfl) ⟨Nat.le_of_ble_eq_true rfl, Nat.le_of_ble_eq_true rfl⟩ dX7_lay_1 (fun r1 H locs h w => ?_)
    refine lv_if_eq (tgt := 9) C.1.1 C.1.2.1 dX7_lay_4 (by decide) (fun hc2 => ?_) (fun hc2 => ?_)
    · replace h := h.1 hc2
      refine lv_aload_n C.1.1 C.1.2.1 dX7_lay_9 rfl (lv_at hl 0 rfl) ?_
      refine gr_RX7_59 C w hx_0 lx_0 rfl dX7_lay_10 ?_
      refine lv_iload_n C.1.1 C.1.2.1 dX7_lay_13 rfl (lv_at hl 1 rfl) ?_
      have hi3 := h.1
      replace h := h.2
      refine q_aal C w hx_39 lx_39 (by decide) hi3 dX7_lay_14 ?_
      refine q_pVi C w [] (c_X2_isNothing (isS_sh hi3) h) kv_X2_isNothing k_87 (rcv C w kc_X2 (sO (isS_sh hi3)) (sL (isS_sh hi3))) rfl hl.1 (Nat.le_of_ble_eq_true rfl) ⟨Nat.le_of_ble_eq_true rfl, Nat.le_of_ble_eq_true rfl⟩ dX7_lay_15 (fun r4 H locs h w => ?_)
      refine lv_if_eq (tgt := 24) C.1.1 C.1.2.1 dX7_lay_18 (by decide) (fun hc5 => ?_) (fun hc5 => ?_)
      · replace h := h.1 hc5
        refine lv_aload_n C.1.1 C.1.2.1 dX7_lay_24 rfl (lv_at hl 0 rfl) ?_
        refine gr_RX7_59 C w hx_0 lx_0 rfl dX7_lay_25 ?_
        refine lv_iload_n C.1.1 C.1.2.1 dX7_lay_28 rfl (lv_at hl 1 rfl) ?_
        have hi6 := h.1
        replace h := h.2
        refine q_aal C w hx_39 lx_39 (by decide) hi6 dX7_lay_29 ?_
        refine lv_iload_n C.1.1 C.1.2.1 dX7_lay_30 rfl (lv_at hl 2 rfl) ?_
        refine lv_iload_n C.1.1 C.1.2.1 dX7_lay_31 rfl (lv_at hl 3 rfl) ?_
        refine q_cVi C w [.int x2, .int x3] (c_X2_put (isS_sh hi6) h) kv_X2_put k_88 (rcv C w kc_X2 (sO (isS_sh hi6)) (sL (isS_sh hi6))) rfl hl.1 (Nat.le_of_ble_eq_true rfl) ⟨Nat.le_of_ble_eq_true rfl, Nat.le_of_ble_eq_true rfl⟩ dX7_lay_32 (fun r7 M8 H locs h w => ?_)
        have J : ∀ ls : Array Slot, lv_has ls 4 [] → W p l e (rmOf 2 43) s m args below meth c H locs 0 0 (MQ below (va_Qi Q (PostW g layX 68) (gF g)) args s 0 0 (gF g)) (F0 m 44 ls [.int (if r7 = 0 then (-12 : Int32) else 1)]) := by
          intro ls hl
          exact q_iret C hr hk w rfl h dX7_lay_44
        refine lv_if_eq (tgt := 42) C.1.1 C.1.2.1 dX7_lay_35 (by decide) (fun hc9 => ?_) (fun hc9 => ?_)
        · refine lv_bipush (v := (-12)) C.1.1 C.1.2.1 dX7_lay_42 (by decide) ?_
          simp only [if_pos hc9] at J hl
          exact J ls (lv_sub hl [] rfl)
        · refine lv_iconst (v := 1) C.1.1 C.1.2.1 dX7_lay_38 (by decide) ?_
          refine lv_goto (tgt := 44) C.1.1 C.1.2.1 dX7_lay_39 (by decide) ?_
          simp only [if_neg hc9] at J hl
          exact J ls (lv_sub hl [] rfl)
      · replace h := h.2 hc5
        refine lv_bipush (v := (-11)) C.1.1 C.1.2.1 dX7_lay_21 (by decide) ?_
        exact q_iret C hr hk w rfl h dX7_lay_23
    · replace h := h.2 hc2
      refine lv_iconst (v := (-1)) C.1.1 C.1.2.1 dX7_lay_7 (by decide) ?_
      exact q_iret C hr hk w rfl h dX7_lay_8)
-- sendTaker
set_option maxHeartbeats 4000000 in
set_option maxRecDepth 100000 in
theorem c_X7_sendTaker {l : Launch} {g : Gt} {x1 : Int32} {x2 : Int32} {M : Mem} {Q : Int32 → Mem → Prop} (h : w_X7_sendTaker x1 x2 M Q) : MI l yX7_sendTaker cX7_sendTaker 3 (some .boolean) 4 89 g layX 68 [.ref (ga g 0), .int x1, .int x2] M Q :=
  m_of (by decide +kernel) (Nat.le_of_ble_eq_true rfl) (fun p e s m args below meth c ls C hr hk w hl => by
    have C : Cx p s m args c cX7_sendTaker 3 RX7 g := C
    have hl : lv_has ls 3 [(0, .ref (ga g 0)), (1, .int x1), (2, .int x2)] := hl
    unfold w_X7_sendTaker at h
    obtain ⟨H, eH⟩ : ∃ H : Heap, H = s.heap := ⟨_, rfl⟩
    obtain ⟨locs, el⟩ : ∃ locs : List Loc, locs = [] := ⟨_, rfl⟩
    have w : Wd g layX 68 s.heap M H locs := by rw [eH, el]; exact w
    suffices hw : W p l e (rmOf 4 89) s m args below meth c H locs 0 0 (MQ below (va_Qi Q (PostW g layX 68) (gF g)) args s 0 0 (gF g)) (F0 m 0 ls []) by rw [eH, el] at hw; exact hw
    clear eH el
    refine lv_aload_n C.1.1 C.1.2.1 dX7_sendTaker_0 rfl (lv_at hl 0 rfl) ?_
    refine lv_iload_n C.1.1 C.1.2.1 dX7_sendTaker_1 rfl (lv_at hl 1 rfl) ?_
    refine q_pVi C w [.int x1] (c_X7_isNoTaker  h) kv_X7_isNoTaker k_56 (rcv C w kc_X7 hx_0 lx_0) rfl hl.1 (Nat.le_of_ble_eq_true rfl) ⟨Nat.le_of_ble_eq_true rfl, Nat.le_of_ble_eq_true rfl⟩ dX7_sendTaker_2 (fun r1 H locs h w => ?_)
    refine lv_if_ne (tgt := 31) C.1.1 C.1.2.1 dX7_sendTaker_5 (by decide) (fun hc2 => ?_) (fun hc2 => ?_)
    · replace h := h.2 hc2
      refine lv_iconst (v := 0) C.1.1 C.1.2.1 dX7_sendTaker_31 (by decide) ?_
      exact q_iret C hr hk w rfl h dX7_sendTaker_32
    · replace h := h.1 hc2
      refine lv_iload_n C.1.1 C.1.2.1 dX7_sendTaker_8 rfl (lv_at hl 2 rfl) ?_
      refine q_pSi C w [.int x2] (c_X7_isNoGate  h) ks_X7_isNoGate k_53  rfl hl.1 (Nat.le_of_ble_eq_true rfl) ⟨Nat.le_of_ble_eq_true rfl, Nat.le_of_ble_eq_true rfl⟩ dX7_sendTaker_9 (fun r3 H locs h w => ?_)
      refine lv_if_ne (tgt := 31) C.1.1 C.1.2.1 dX7_sendTaker_12 (by decide) (fun hc4 => ?_) (fun hc4 => ?_)
      · replace h := h.2 hc4
        refine lv_iconst (v := 0) C.1.1 C.1.2.1 dX7_sendTaker_31 (by decide) ?_
        exact q_iret C hr hk w rfl h dX7_sendTaker_32
      · replace h := h.1 hc4
        refine lv_aload_n C.1.1 C.1.2.1 dX7_sendTaker_15 rfl (lv_at hl 0 rfl) ?_
        refine gr_RX7_19 C w hx_0 lx_0 rfl dX7_sendTaker_16 ?_
        refine gr_RX7_78 C w hx_11 lx_11 rfl dX7_sendTaker_19 ?_
        refine gi_RX7_107 C w hx_12 lx_12 rfl dX7_sendTaker_22 ?_
        refine lv_sipush (v := 999) C.1.1 C.1.2.1 dX7_sendTaker_25 (by decide) ?_
        refine lv_icmp_lt (tgt := 33) C.1.1 C.1.2.1 dX7_sendTaker_28 (by decide) (fun hc5 => ?_) (fun hc5 => ?_)
        · replace h := h.1 hc5
          refine lv_aload_n C.1.1 C.1.2.1 dX7_sendTaker_33 rfl (lv_at hl 0 rfl) ?_
          refine gr_RX7_19 C w hx_0 lx_0 rfl dX7_sendTaker_34 ?_
          refine gr_RX7_78 C w hx_11 lx_11 rfl dX7_sendTaker_37 ?_
          refine gr_RX7_149 C w hx_12 lx_12 rfl dX7_sendTaker_40 ?_
          refine lv_iload_n C.1.1 C.1.2.1 dX7_sendTaker_43 rfl (lv_at hl 1 rfl) ?_
          refine lv_iload_n C.1.1 C.1.2.1 dX7_sendTaker_44 rfl (lv_at hl 2 rfl) ?_
          refine q_ias C w hx_16 lx_16 h.1 dX7_sendTaker_45 (fun M6 H locs eM6 w => ?_)
          replace h := h.2 M6 eM6
          refine lv_aload_n C.1.1 C.1.2.1 dX7_sendTaker_46 rfl (lv_at hl 0 rfl) ?_
          refine gr_RX7_19 C w hx_0 lx_0 rfl dX7_sendTaker_47 ?_
          refine lv_iconst (v := 0) C.1.1 C.1.2.1 dX7_sendTaker_50 (by decide) ?_
          refine q_cVv C w [.int 0] (c_X6_passOne  h) kv_X6_passOne k_67 (rcv C w kc_X6 hx_11 lx_11) rfl hl.1 (Nat.le_of_ble_eq_true rfl) ⟨Nat.le_of_ble_eq_true rfl, Nat.le_of_ble_eq_true rfl⟩ dX7_sendTaker_51 (fun M8 H locs h w => ?_)
          refine lv_iconst (v := 1) C.1.1 C.1.2.1 dX7_sendTaker_54 (by decide) ?_
          exact q_iret C hr hk w rfl h dX7_sendTaker_55
        · replace h := h.2 hc5
          refine lv_iconst (v := 0) C.1.1 C.1.2.1 dX7_sendTaker_31 (by decide) ?_
          exact q_iret C hr hk w rfl h dX7_sendTaker_32)
-- read
set_option maxHeartbeats 4000000 in
set_option maxRecDepth 100000 in
theorem v_X7_read_162 {x6 : Int32} {x7 : Int32} {M : Mem} {Q : Int32 → Mem → Prop} {H : Heap} {locs : List Loc} {ls : Array Slot} (C : Cx p s m args c cX7_read 10 RX7 g) (hr : meth.sig.returnType = (some .int)) (hk : meth.locks = false)  (h : w_X7_read_162 x6 x7 M Q) (w : Wd g layX 68 s.heap M H locs) (hl : lv_has ls 10 [(0, .ref (ga g 0)), (6, .int x6), (7, .int x7)]) : W p l e (rmOf 5 111) s m args below meth c H locs 0 0 (MQ below (va_Qi Q (PostW g layX 68) (gF g)) args s 0 0 (gF g)) (F0 m 162 ls []) := by
  unfold w_X7_read_162 at h
  refine lv_aload_n C.1.1 C.1.2.1 dX7_read_162 rfl (lv_at hl 0 rfl) ?_
  refine gr_RX7_10 C w hx_0 lx_0 rfl dX7_read_163 ?_
  refine lv_aload_n C.1.1 C.1.2.1 dX7_read_166 rfl (lv_at hl 0 rfl) ?_
  refine gr_RX7_19 C w hx_0 lx_0 rfl dX7_read_167 ?_
  refine gr_RX7_78 C w hx_11 lx_11 rfl dX7_read_170 ?_
  refine q_cVv C w [.ref (ga g 12)] (c_X0_copyFrom isE_1 isE_12 h) kv_X0_copyFrom k_48 (rcv C w kc_X0 hx_1 lx_1) rfl hl.1 (Nat.le_of_ble_eq_true rfl) ⟨Nat.le_of_ble_eq_true rfl, Nat.le_of_ble_eq_true rfl⟩ dX7_read_173 (fun M14 H locs h w => ?_)
  refine lv_aload_n C.1.1 C.1.2.1 dX7_read_176 rfl (lv_at hl 0 rfl) ?_
  refine lv_iload C.1.1 C.1.2.1 dX7_read_177 (lv_at hl 1 rfl) ?_
  refine pi_RX7_290 C w hx_0 lx_0 rfl dX7_read_179 (fun M15 H locs eM15 w => ?_)
  replace h := h M15 eM15
  refine lv_iload C.1.1 C.1.2.1 dX7_read_182 (lv_at hl 2 rfl) ?_
  exact q_iret C hr hk w rfl h dX7_read_184
set_option maxHeartbeats 4000000 in
set_option maxRecDepth 100000 in
theorem v_X7_read_156 {x3 : Int32} {x4 : Int32} {q5 : Nat} {x6 : Int32} {x7 : Int32} {x8 : Int32} {M : Mem} {K71 : Int32 → Int32 → Int32 → Mem → Prop} {Q : Int32 → Mem → Prop} {H : Heap} {locs : List Loc} {ls : Array Slot} (C : Cx p s m args c cX7_read 10 RX7 g) (hr : meth.sig.returnType = (some .int)) (hk : meth.locks = false) (hq5 : isS q5) (hK71 : ∀ (x6 : Int32) (x7 : Int32) (x8 : Int32) (M : Mem) (H : Heap) (locs : List Loc) (ls : Array Slot), K71 x6 x7 x8 M → Wd g layX 68 s.heap M H locs → lv_has ls 10 [(0, .ref (ga g 0)), (3, .int x3), (4, .int x4), (5, .ref (ga g q5)), (6, .int x6), (7, .int x7), (8, .int x8)] → W p l e (rmOf 5 111) s m args below meth c H locs 0 0 (MQ below (va_Qi Q (PostW g layX 68) (gF g)) args s 0 0 (gF g)) (F0 m 71 ls [])) (h : w_X7_read_156 x3 x4 q5 x6 x7 x8 M K71 Q) (w : Wd g layX 68 s.heap M H locs) (hl : lv_has ls 10 [(0, .ref (ga g 0)), (3, .int x3), (4, .int x4), (5, .ref (ga g q5)), (6, .int x6), (7, .int x7), (8, .int x8)]) : W p l e (rmOf 5 111) s m args below meth c H locs 0 0 (MQ below (va_Qi Q (PostW g layX 68) (gF g)) args s 0 0 (gF g)) (F0 m 156 ls []) := by
  unfold w_X7_read_156 at h
  refine lv_iinc (v := x8 + 1) (lv' := [(8, .int (x8 + 1)), (0, .ref (ga g 0)), (3, .int x3), (4, .int x4), (5, .ref (ga g q5)), (6, .int x6), (7, .int x7)]) C.1.1 C.1.2.1 dX7_read_156 hl (k := 6) rfl rfl (by decide) rfl (fun ls hl => ?_)
  refine lv_goto (tgt := 71) C.1.1 C.1.2.1 dX7_read_159 (by decide) ?_
  exact hK71 _ _ _ _ _ _ _ h w (lv_sub hl [1, 2, 3, 4, 5, 6, 0] rfl)
set_option maxHeartbeats 4000000 in
set_option maxRecDepth 100000 in
theorem v_X7_read_113 {x3 : Int32} {x4 : Int32} {q5 : Nat} {x7 : Int32} {x8 : Int32} {M : Mem} {K71 : Int32 → Int32 → Int32 → Mem → Prop} {Q : Int32 → Mem → Prop} {H : Heap} {locs : List Loc} {ls : Array Slot} (C : Cx p s m args c cX7_read 10 RX7 g) (hr : meth.sig.returnType = (some .int)) (hk : meth.locks = false) (hq5 : isS q5) (hK71 : ∀ (x6 : Int32) (x7 : Int32) (x8 : Int32) (M : Mem) (H : Heap) (locs : List Loc) (ls : Array Slot), K71 x6 x7 x8 M → Wd g layX 68 s.heap M H locs → lv_has ls 10 [(0, .ref (ga g 0)), (3, .int x3), (4, .int x4), (5, .ref (ga g q5)), (6, .int x6), (7, .int x7), (8, .int x8)] → W p l e (rmOf 5 111) s m args below meth c H locs 0 0 (MQ below (va_Qi Q (PostW g layX 68) (gF g)) args s 0 0 (gF g)) (F0 m 71 ls [])) (h : w_X7_read_113 x3 x4 q5 x7 x8 M K71 Q) (w : Wd g layX 68 s.heap M H locs) (hl : lv_has ls 10 [(0, .ref (ga g 0)), (3, .int x3), (4, .int x4), (5, .ref (ga g q5)), (7, .int x7), (8, .int x8)]) : W p l e (rmOf 5 111) s m args below meth c H locs 0 0 (MQ below (va_Qi Q (PostW g layX 68) (gF g)) args s 0 0 (gF g)) (F0 m 113 ls []) := by
  unfold w_X7_read_113 at h
  refine lv_iconst (v := 2) C.1.1 C.1.2.1 dX7_read_113 (by decide) ?_
  refine lv_istore (lv' := [(6, .int 2), (0, .ref (ga g 0)), (3, .int x3), (4, .int x4), (5, .ref (ga g q5)), (7, .int x7), (8, .int x8)]) C.1.1 C.1.2.1 dX7_read_114 hl (by decide) rfl (fun ls hl => ?_)
  refine lv_goto (tgt := 156) C.1.1 C.1.2.1 dX7_read_116 (by decide) ?_
  exact v_X7_read_156 C hr hk hq5 hK71 h w (lv_sub hl [1, 2, 3, 4, 0, 5, 6] rfl)
set_option maxHeartbeats 4000000 in
set_option maxRecDepth 100000 in
theorem v_X7_read_150 {x8 : Int32} {M : Mem} {Q : Int32 → Mem → Prop} {H : Heap} {locs : List Loc} {ls : Array Slot} (C : Cx p s m args c cX7_read 10 RX7 g) (hr : meth.sig.returnType = (some .int)) (hk : meth.locks = false)  (h : w_X7_read_150 x8 M Q) (w : Wd g layX 68 s.heap M H locs) (hl : lv_has ls 10 [(8, .int x8)]) : W p l e (rmOf 5 111) s m args below meth c H locs 0 0 (MQ below (va_Qi Q (PostW g layX 68) (gF g)) args s 0 0 (gF g)) (F0 m 150 ls []) := by
  unfold w_X7_read_150 at h
  refine lv_bipush (v := (-20)) C.1.1 C.1.2.1 dX7_read_150 (by decide) ?_
  refine lv_iload C.1.1 C.1.2.1 dX7_read_152 (lv_at hl 0 rfl) ?_
  refine lv_isub C.1.1 C.1.2.1 dX7_read_154 ?_
  exact q_iret C hr hk w rfl h dX7_read_155
set_option maxHeartbeats 4000000 in
set_option maxRecDepth 100000 in
theorem v_X7_read_71 {x3 : Int32} {x4 : Int32} {q5 : Nat} {x6 : Int32} {x7 : Int32} {x8 : Int32} {M : Mem} {K71 : Int32 → Int32 → Int32 → Mem → Prop} {Q : Int32 → Mem → Prop} {H : Heap} {locs : List Loc} {ls : Array Slot} (C : Cx p s m args c cX7_read 10 RX7 g) (hr : meth.sig.returnType = (some .int)) (hk : meth.locks = false) (hq5 : isS q5) (hK71 : ∀ (x6 : Int32) (x7 : Int32) (x8 : Int32) (M : Mem) (H : Heap) (locs : List Loc) (ls : Array Slot), K71 x6 x7 x8 M → Wd g layX 68 s.heap M H locs → lv_has ls 10 [(0, .ref (ga g 0)), (3, .int x3), (4, .int x4), (5, .ref (ga g q5)), (6, .int x6), (7, .int x7), (8, .int x8)] → W p l e (rmOf 5 111) s m args below meth c H locs 0 0 (MQ below (va_Qi Q (PostW g layX 68) (gF g)) args s 0 0 (gF g)) (F0 m 71 ls [])) (h : w_X7_read_71 x3 x4 q5 Q K71 x6 x7 x8 M) (w : Wd g layX 68 s.heap M H locs) (hl : lv_has ls 10 [(0, .ref (ga g 0)), (3, .int x3), (4, .int x4), (5, .ref (ga g q5)), (6, .int x6), (7, .int x7), (8, .int x8)]) : W p l e (rmOf 5 111) s m args below meth c H locs 0 0 (MQ below (va_Qi Q (PostW g layX 68) (gF g)) args s 0 0 (gF g)) (F0 m 71 ls []) := by
  unfold w_X7_read_71 at h
  refine lv_iload C.1.1 C.1.2.1 dX7_read_71 (lv_at hl 6 rfl) ?_
  refine lv_iload C.1.1 C.1.2.1 dX7_read_73 (lv_at hl 2 rfl) ?_
  refine lv_icmp_ge (tgt := 162) C.1.1 C.1.2.1 dX7_read_75 (by decide) (fun hc12 => ?_) (fun hc12 => ?_)
  · replace h := h.1 hc12
    exact v_X7_read_162 C hr hk   h w (lv_sub hl [0, 4, 5] rfl)
  · replace h := h.2 hc12
    refine lv_iload C.1.1 C.1.2.1 dX7_read_78 (lv_at hl 4 rfl) ?_
    refine lv_if_ne (tgt := 162) C.1.1 C.1.2.1 dX7_read_80 (by decide) (fun hc16 => ?_) (fun hc16 => ?_)
    · replace h := h.2 hc16
      exact v_X7_read_162 C hr hk   h w (lv_sub hl [0, 4, 5] rfl)
    · replace h := h.1 hc16
      refine lv_iload_n C.1.1 C.1.2.1 dX7_read_83 rfl (lv_at hl 1 rfl) ?_
      refine lv_iconst (v := 2) C.1.1 C.1.2.1 dX7_read_84 (by decide) ?_
      refine lv_iload C.1.1 C.1.2.1 dX7_read_85 (lv_at hl 6 rfl) ?_
      refine lv_imul C.1.1 C.1.2.1 dX7_read_87 ?_
      refine lv_iadd C.1.1 C.1.2.1 dX7_read_88 ?_
      refine lv_istore (lv' := [(9, .int (x3 + (2 * x8))), (0, .ref (ga g 0)), (3, .int x3), (4, .int x4), (5, .ref (ga g q5)), (6, .int x6), (7, .int x7), (8, .int x8)]) C.1.1 C.1.2.1 dX7_read_89 hl (by decide) rfl (fun ls hl => ?_)
      refine lv_aload C.1.1 C.1.2.1 dX7_read_91 (lv_at hl 4 rfl) ?_
      refine lv_iload C.1.1 C.1.2.1 dX7_read_93 (lv_at hl 0 rfl) ?_
      refine q_pVi C w [.int (x3 + (2 * x8))] (c_X2_lacks hq5 h) kv_X2_lacks k_90 (rcv C w kc_X2 (sO hq5) (sL hq5)) rfl hl.1 (Nat.le_of_ble_eq_true rfl) ⟨Nat.le_of_ble_eq_true rfl, Nat.le_of_ble_eq_true rfl⟩ dX7_read_95 (fun r17 H locs h w => ?_)
      refine lv_if_ne (tgt := 113) C.1.1 C.1.2.1 dX7_read_98 (by decide) (fun hc18 => ?_) (fun hc18 => ?_)
      · replace h := h.2 hc18
        exact v_X7_read_113 C hr hk hq5 hK71 h w (lv_sub hl [1, 2, 3, 4, 6, 7] rfl)
      · replace h := h.1 hc18
        refine lv_aload C.1.1 C.1.2.1 dX7_read_101 (lv_at hl 4 rfl) ?_
        refine lv_iload C.1.1 C.1.2.1 dX7_read_103 (lv_at hl 0 rfl) ?_
        refine lv_iconst (v := 1) C.1.1 C.1.2.1 dX7_read_105 (by decide) ?_
        refine lv_iadd C.1.1 C.1.2.1 dX7_read_106 ?_
        refine q_pVi C w [.int ((x3 + (2 * x8)) + 1)] (c_X2_lacks hq5 h) kv_X2_lacks k_90 (rcv C w kc_X2 (sO hq5) (sL hq5)) rfl hl.1 (Nat.le_of_ble_eq_true rfl) ⟨Nat.le_of_ble_eq_true rfl, Nat.le_of_ble_eq_true rfl⟩ dX7_read_107 (fun r19 H locs h w => ?_)
        refine lv_if_eq (tgt := 119) C.1.1 C.1.2.1 dX7_read_110 (by decide) (fun hc20 => ?_) (fun hc20 => ?_)
        · replace h := h.1 hc20
          refine lv_aload_n C.1.1 C.1.2.1 dX7_read_119 rfl (lv_at hl 1 rfl) ?_
          refine lv_aload C.1.1 C.1.2.1 dX7_read_120 (lv_at hl 4 rfl) ?_
          refine gr_RX7_284 C w (sO hq5) (sL hq5) rfl dX7_read_122 ?_
          refine lv_iload C.1.1 C.1.2.1 dX7_read_125 (lv_at hl 0 rfl) ?_
          refine q_ial C w (sA hq5).1 (sA hq5).2 h.1 dX7_read_127 ?_
          replace h := h.2
          refine lv_aload C.1.1 C.1.2.1 dX7_read_128 (lv_at hl 4 rfl) ?_
          refine gr_RX7_284 C w (sO hq5) (sL hq5) rfl dX7_read_130 ?_
          refine lv_iload C.1.1 C.1.2.1 dX7_read_133 (lv_at hl 0 rfl) ?_
          refine lv_iconst (v := 1) C.1.1 C.1.2.1 dX7_read_135 (by decide) ?_
          refine lv_iadd C.1.1 C.1.2.1 dX7_read_136 ?_
          refine q_ial C w (sA hq5).1 (sA hq5).2 h.1 dX7_read_137 ?_
          replace h := h.2
          refine q_cVi C w [.int (M (q5 + 1) (x3 + (2 * x8)).toNatClampNeg), .int (M (q5 + 1) ((x3 + (2 * x8)) + 1).toNatClampNeg)] (c_X7_sendTaker  h) kv_X7_sendTaker k_91 (rcv C w kc_X7 hx_0 lx_0) rfl hl.1 (Nat.le_of_ble_eq_true rfl) ⟨Nat.le_of_ble_eq_true rfl, Nat.le_of_ble_eq_true rfl⟩ dX7_read_138 (fun r21 M22 H locs h w => ?_)
          refine lv_if_eq (tgt := 150) C.1.1 C.1.2.1 dX7_read_141 (by decide) (fun hc23 => ?_) (fun hc23 => ?_)
          · replace h := h.1 hc23
            exact v_X7_read_150 C hr hk   h w (lv_sub hl [7] rfl)
          · replace h := h.2 hc23
            refine lv_iinc (v := x7 + 1) (lv' := [(7, .int (x7 + 1)), (9, .int (x3 + (2 * x8))), (0, .ref (ga g 0)), (3, .int x3), (4, .int x4), (5, .ref (ga g q5)), (6, .int x6), (8, .int x8)]) C.1.1 C.1.2.1 dX7_read_144 hl (k := 6) rfl rfl (by decide) rfl (fun ls hl => ?_)
            refine lv_goto (tgt := 156) C.1.1 C.1.2.1 dX7_read_147 (by decide) ?_
            exact v_X7_read_156 C hr hk hq5 hK71 h w (lv_sub hl [2, 3, 4, 5, 6, 0, 7] rfl)
        · replace h := h.2 hc20
          exact v_X7_read_113 C hr hk hq5 hK71 h w (lv_sub hl [1, 2, 3, 4, 6, 7] rfl)
set_option maxHeartbeats 4000000 in
set_option maxRecDepth 100000 in
theorem l_X7_read_71 {x3 : Int32} {x4 : Int32} {q5 : Nat} {Q : Int32 → Mem → Prop} (C : Cx p s m args c cX7_read 10 RX7 g) (hr : meth.sig.returnType = (some .int)) (hk : meth.locks = false) (hq5 : isS q5)  : ∀ (n : Nat) (x6 : Int32) (x7 : Int32) (x8 : Int32) (M : Mem) (H : Heap) (locs : List Loc) (ls : Array Slot), fu4 (w_X7_read_71 x3 x4 q5 Q) n x6 x7 x8 M → Wd g layX 68 s.heap M H locs → lv_has ls 10 [(0, .ref (ga g 0)), (3, .int x3), (4, .int x4), (5, .ref (ga g q5)), (6, .int x6), (7, .int x7), (8, .int x8)] → W p l e (rmOf 5 111) s m args below meth c H locs 0 0 (MQ below (va_Qi Q (PostW g layX 68) (gF g)) args s 0 0 (gF g)) (F0 m 71 ls []) := by
  intro n
  induction n with
  | zero => intro x6 x7 x8 M H locs ls h; exact h.elim
  | succ n ih => intro x6 x7 x8 M H locs ls h w hl; exact v_X7_read_71 C hr hk hq5  ih h w hl
set_option maxHeartbeats 4000000 in
set_option maxRecDepth 100000 in
theorem v_X7_read_52 {x3 : Int32} {x4 : Int32} {q5 : Nat} {t0 : Int32} {M : Mem} {Q : Int32 → Mem → Prop} {H : Heap} {locs : List Loc} {ls : Array Slot} (C : Cx p s m args c cX7_read 10 RX7 g) (hr : meth.sig.returnType = (some .int)) (hk : meth.locks = false) (hq5 : isS q5)  (h : w_X7_read_52 x3 x4 q5 t0 M Q) (w : Wd g layX 68 s.heap M H locs) (hl : lv_has ls 10 [(0, .ref (ga g 0)), (3, .int x3), (4, .int x4), (5, .ref (ga g q5))]) : W p l e (rmOf 5 111) s m args below meth c H locs 0 0 (MQ below (va_Qi Q (PostW g layX 68) (gF g)) args s 0 0 (gF g)) (F0 m 52 ls [.int t0]) := by
  unfold w_X7_read_52 at h
  refine lv_istore (lv' := [(6, .int t0), (0, .ref (ga g 0)), (3, .int x3), (4, .int x4), (5, .ref (ga g q5))]) C.1.1 C.1.2.1 dX7_read_52 hl (by decide) rfl (fun ls hl => ?_)
  refine lv_iconst (v := 0) C.1.1 C.1.2.1 dX7_read_54 (by decide) ?_
  refine lv_istore (lv' := [(7, .int 0), (6, .int t0), (0, .ref (ga g 0)), (3, .int x3), (4, .int x4), (5, .ref (ga g q5))]) C.1.1 C.1.2.1 dX7_read_55 hl (by decide) rfl (fun ls hl => ?_)
  refine lv_aload_n C.1.1 C.1.2.1 dX7_read_57 rfl (lv_at hl 2 rfl) ?_
  refine gr_RX7_19 C w hx_0 lx_0 rfl dX7_read_58 ?_
  refine lv_aload_n C.1.1 C.1.2.1 dX7_read_61 rfl (lv_at hl 2 rfl) ?_
  refine gr_RX7_10 C w hx_0 lx_0 rfl dX7_read_62 ?_
  refine q_cVv C w [.ref (ga g 1)] (c_X6_begin  h) kv_X6_begin k_64 (rcv C w kc_X6 hx_11 lx_11) rfl hl.1 (Nat.le_of_ble_eq_true rfl) ⟨Nat.le_of_ble_eq_true rfl, Nat.le_of_ble_eq_true rfl⟩ dX7_read_65 (fun M11 H locs h w => ?_)
  refine lv_iconst (v := 0) C.1.1 C.1.2.1 dX7_read_68 (by decide) ?_
  refine lv_istore (lv' := [(8, .int 0), (7, .int 0), (6, .int t0), (0, .ref (ga g 0)), (3, .int x3), (4, .int x4), (5, .ref (ga g q5))]) C.1.1 C.1.2.1 dX7_read_69 hl (by decide) rfl (fun ls hl => ?_)
  obtain ⟨n, h⟩ := h
  exact l_X7_read_71 C hr hk hq5  n _ _ _ _ _ _ _ h w (lv_sub hl [3, 4, 5, 6, 2, 1, 0] rfl)
set_option maxHeartbeats 4000000 in
set_option maxRecDepth 100000 in
theorem c_X7_read {l : Launch} {g : Gt} {x1 : Int32} {x2 : Int32} {x3 : Int32} {x4 : Int32} {M : Mem} {Q : Int32 → Mem → Prop} (h : w_X7_read x1 x2 x3 x4 M Q) : MI l yX7_read cX7_read 10 (some .int) 5 111 g layX 68 [.ref (ga g 0), .int x1, .int x2, .int x3, .int x4] M Q :=
  m_of (by decide +kernel) (Nat.le_of_ble_eq_true rfl) (fun p e s m args below meth c ls C hr hk w hl => by
    have C : Cx p s m args c cX7_read 10 RX7 g := C
    have hl : lv_has ls 10 [(0, .ref (ga g 0)), (1, .int x1), (2, .int x2), (3, .int x3), (4, .int x4)] := hl
    unfold w_X7_read at h
    obtain ⟨H, eH⟩ : ∃ H : Heap, H = s.heap := ⟨_, rfl⟩
    obtain ⟨locs, el⟩ : ∃ locs : List Loc, locs = [] := ⟨_, rfl⟩
    have w : Wd g layX 68 s.heap M H locs := by rw [eH, el]; exact w
    suffices hw : W p l e (rmOf 5 111) s m args below meth c H locs 0 0 (MQ below (va_Qi Q (PostW g layX 68) (gF g)) args s 0 0 (gF g)) (F0 m 0 ls []) by rw [eH, el] at hw; exact hw
    clear eH el
    refine lv_iload_n C.1.1 C.1.2.1 dX7_read_0 rfl (lv_at hl 1 rfl) ?_
    refine q_pSi C w [.int x1] (c_X7_isNoSheet  h) ks_X7_isNoSheet k_85  rfl hl.1 (Nat.le_of_ble_eq_true rfl) ⟨Nat.le_of_ble_eq_true rfl, Nat.le_of_ble_eq_true rfl⟩ dX7_read_1 (fun r1 H locs h w => ?_)
    refine lv_if_ne (tgt := 27) C.1.1 C.1.2.1 dX7_read_4 (by decide) (fun hc2 => ?_) (fun hc2 => ?_)
    · replace h := h.2 hc2
      refine lv_iconst (v := (-1)) C.1.1 C.1.2.1 dX7_read_27 (by decide) ?_
      exact q_iret C hr hk w rfl h dX7_read_28
    · replace h := h.1 hc2
      refine lv_iload_n C.1.1 C.1.2.1 dX7_read_7 rfl (lv_at hl 2 rfl) ?_
      refine lv_iconst (v := 0) C.1.1 C.1.2.1 dX7_read_8 (by decide) ?_
      refine lv_iconst (v := 2) C.1.1 C.1.2.1 dX7_read_9 (by decide) ?_
      refine q_pSi C w [.int x2, .int 0, .int 2] (c_X7_isOutside  h) ks_X7_isOutside k_45  rfl hl.1 (Nat.le_of_ble_eq_true rfl) ⟨Nat.le_of_ble_eq_true rfl, Nat.le_of_ble_eq_true rfl⟩ dX7_read_10 (fun r3 H locs h w => ?_)
      refine lv_if_ne (tgt := 27) C.1.1 C.1.2.1 dX7_read_13 (by decide) (fun hc4 => ?_) (fun hc4 => ?_)
      · replace h := h.2 hc4
        refine lv_iconst (v := (-1)) C.1.1 C.1.2.1 dX7_read_27 (by decide) ?_
        exact q_iret C hr hk w rfl h dX7_read_28
      · replace h := h.1 hc4
        refine lv_iload C.1.1 C.1.2.1 dX7_read_16 (lv_at hl 4 rfl) ?_
        refine lv_iconst (v := 0) C.1.1 C.1.2.1 dX7_read_18 (by decide) ?_
        refine lv_bipush (v := 20) C.1.1 C.1.2.1 dX7_read_19 (by decide) ?_
        refine q_pSi C w [.int x4, .int 0, .int 20] (c_X7_isOutside  h) ks_X7_isOutside k_45  rfl hl.1 (Nat.le_of_ble_eq_true rfl) ⟨Nat.le_of_ble_eq_true rfl, Nat.le_of_ble_eq_true rfl⟩ dX7_read_21 (fun r5 H locs h w => ?_)
        refine lv_if_eq (tgt := 29) C.1.1 C.1.2.1 dX7_read_24 (by decide) (fun hc6 => ?_) (fun hc6 => ?_)
        · replace h := h.1 hc6
          refine lv_aload_n C.1.1 C.1.2.1 dX7_read_29 rfl (lv_at hl 0 rfl) ?_
          refine gr_RX7_59 C w hx_0 lx_0 rfl dX7_read_30 ?_
          refine lv_iload_n C.1.1 C.1.2.1 dX7_read_33 rfl (lv_at hl 1 rfl) ?_
          have hi7 := h.1
          replace h := h.2
          refine q_aal C w hx_39 lx_39 (by decide) hi7 dX7_read_34 ?_
          refine lv_astore (lv' := [(5, .ref (ga g (shI x1.toNatClampNeg))), (0, .ref (ga g 0)), (1, .int x1), (2, .int x2), (3, .int x3), (4, .int x4)]) C.1.1 C.1.2.1 dX7_read_35 hl (by decide) rfl (fun ls hl => ?_)
          refine lv_iload C.1.1 C.1.2.1 dX7_read_37 (lv_at hl 5 rfl) ?_
          refine lv_if_ne (tgt := 46) C.1.1 C.1.2.1 dX7_read_39 (by decide) (fun hc8 => ?_) (fun hc8 => ?_)
          · replace h := h.2 hc8
            refine lv_aload C.1.1 C.1.2.1 dX7_read_46 (lv_at hl 0 rfl) ?_
            refine lv_iload_n C.1.1 C.1.2.1 dX7_read_48 rfl (lv_at hl 3 rfl) ?_
            refine q_pVi C w [.int x2] (c_X2_faultAs (isS_sh hi7) h) kv_X2_faultAs k_89 (rcv C w kc_X2 (sO (isS_sh hi7)) (sL (isS_sh hi7))) rfl hl.1 (Nat.le_of_ble_eq_true rfl) ⟨Nat.le_of_ble_eq_true rfl, Nat.le_of_ble_eq_true rfl⟩ dX7_read_49 (fun r9 H locs h w => ?_)
            exact v_X7_read_52 C hr hk (isS_sh hi7)  h w (lv_sub hl [1, 4, 5, 0] rfl)
          · replace h := h.1 hc8
            refine lv_iconst (v := 0) C.1.1 C.1.2.1 dX7_read_42 (by decide) ?_
            refine lv_goto (tgt := 52) C.1.1 C.1.2.1 dX7_read_43 (by decide) ?_
            exact v_X7_read_52 C hr hk (isS_sh hi7)  h w (lv_sub hl [1, 4, 5, 0] rfl)
        · replace h := h.2 hc6
          refine lv_iconst (v := (-1)) C.1.1 C.1.2.1 dX7_read_27 (by decide) ?_
          exact q_iret C hr hk w rfl h dX7_read_28)
-- torn
set_option maxHeartbeats 4000000 in
set_option maxRecDepth 100000 in
theorem c_X7_torn {l : Launch} {g : Gt} {M : Mem} {Q : Int32 → Prop} (h : w_X7_torn M Q) : MI l yX7_torn cX7_torn 1 (some .int) 0 0 g layX 68 [.ref (ga g 0)] M (fun r M9 => M9 = M ∧ Q r) :=
  m_of (by decide +kernel) (Nat.le_of_ble_eq_true rfl) (fun p e s m args below meth c ls C hr hk w hl => by
    have C : Cx p s m args c cX7_torn 1 RX7 g := C
    have hl : lv_has ls 1 [(0, .ref (ga g 0))] := hl
    unfold w_X7_torn at h
    obtain ⟨H, eH⟩ : ∃ H : Heap, H = s.heap := ⟨_, rfl⟩
    obtain ⟨locs, el⟩ : ∃ locs : List Loc, locs = [] := ⟨_, rfl⟩
    have w : Wd g layX 68 s.heap M H locs := by rw [eH, el]; exact w
    suffices hw : W p l e (rmOf 0 0) s m args below meth c H locs 0 0 (MQ below (va_Qi (fun r M9 => M9 = M ∧ Q r) (PostW g layX 68) (gF g)) args s 0 0 (gF g)) (F0 m 0 ls []) by rw [eH, el] at hw; exact hw
    clear eH el
    refine lv_aload_n C.1.1 C.1.2.1 dX7_torn_0 rfl (lv_at hl 0 rfl) ?_
    refine gi_RX7_290 C w hx_0 lx_0 rfl dX7_torn_1 ?_
    exact q_iret C hr hk w rfl ⟨rfl, h⟩ dX7_torn_4)
-- count
set_option maxHeartbeats 4000000 in
set_option maxRecDepth 100000 in
theorem c_X7_count {l : Launch} {g : Gt} {x1 : Int32} {M : Mem} {Q : Int32 → Prop} (h : w_X7_count x1 M Q) : MI l yX7_count cX7_count 2 (some .int) 2 43 g layX 68 [.ref (ga g 0), .int x1] M (fun r M9 => M9 = M ∧ Q r) :=
  m_of (by decide +kernel) (Nat.le_of_ble_eq_true rfl) (fun p e s m args below meth c ls C hr hk w hl => by
    have C : Cx p s m args c cX7_count 2 RX7 g := C
    have hl : lv_has ls 2 [(0, .ref (ga g 0)), (1, .int x1)] := hl
    unfold w_X7_count at h
    obtain ⟨H, eH⟩ : ∃ H : Heap, H = s.heap := ⟨_, rfl⟩
    obtain ⟨locs, el⟩ : ∃ locs : List Loc, locs = [] := ⟨_, rfl⟩
    have w : Wd g layX 68 s.heap M H locs := by rw [eH, el]; exact w
    suffices hw : W p l e (rmOf 2 43) s m args below meth c H locs 0 0 (MQ below (va_Qi (fun r M9 => M9 = M ∧ Q r) (PostW g layX 68) (gF g)) args s 0 0 (gF g)) (F0 m 0 ls []) by rw [eH, el] at hw; exact hw
    clear eH el
    refine lv_iload_n C.1.1 C.1.2.1 dX7_count_0 rfl (lv_at hl 1 rfl) ?_
    by_cases hc1 : x1 = 0
    · replace h := h.1 hc1
      refine q_tin C (off := 39) (tgt := 40) dX7_count_1 hc1 (by decide) (by decide) (by decide) (by decide) ?_
      refine lv_aload_n C.1.1 C.1.2.1 dX7_count_40 rfl (lv_at hl 0 rfl) ?_
      refine gr_RX7_38 C w hx_0 lx_0 rfl dX7_count_41 ?_
      refine gi_RX7_98 C w hx_25 lx_25 rfl dX7_count_44 ?_
      exact q_iret C hr hk w rfl ⟨rfl, h⟩ dX7_count_47
    replace h := h.2 hc1
    by_cases hc2 : x1 = 1
    · replace h := h.1 hc2
      refine q_tin C (off := 47) (tgt := 48) dX7_count_1 hc2 (by decide) (by decide) (by decide) (by decide) ?_
      refine lv_aload_n C.1.1 C.1.2.1 dX7_count_48 rfl (lv_at hl 0 rfl) ?_
      refine gr_RX7_53 C w hx_0 lx_0 rfl dX7_count_49 ?_
      refine lv_iconst (v := 0) C.1.1 C.1.2.1 dX7_count_52 (by decide) ?_
      refine q_zal C w hx_38 lx_38 h.1 dX7_count_53 ?_
      replace h := h.2
      have J : ∀ ls : Array Slot, lv_has ls 2 [(0, .ref (ga g 0))] → W p l e (rmOf 2 43) s m args below meth c H locs 0 0 (MQ below (va_Qi (fun r M9 => M9 = M ∧ Q r) (PostW g layX 68) (gF g)) args s 0 0 (gF g)) (F0 m 62 ls [.int (if (M 38 (0 : Int32).toNatClampNeg) = 0 then (0 : Int32) else 1)]) := by
        intro ls hl
        refine lv_aload_n C.1.1 C.1.2.1 dX7_count_62 rfl (lv_at hl 0 rfl) ?_
        refine gr_RX7_53 C w hx_0 lx_0 rfl dX7_count_63 ?_
        refine lv_iconst (v := 1) C.1.1 C.1.2.1 dX7_count_66 (by decide) ?_
        refine q_zal C w hx_38 lx_38 h.1 dX7_count_67 ?_
        replace h := h.2
        have J : ∀ ls : Array Slot, lv_has ls 2 [] → W p l e (rmOf 2 43) s m args below meth c H locs 0 0 (MQ below (va_Qi (fun r M9 => M9 = M ∧ Q r) (PostW g layX 68) (gF g)) args s 0 0 (gF g)) (F0 m 76 ls [.int (if (M 38 (1 : Int32).toNatClampNeg) = 0 then (0 : Int32) else 1), .int (if (M 38 (0 : Int32).toNatClampNeg) = 0 then (0 : Int32) else 1)]) := by
          intro ls hl
          refine lv_iadd C.1.1 C.1.2.1 dX7_count_76 ?_
          exact q_iret C hr hk w rfl ⟨rfl, h⟩ dX7_count_77
        refine lv_if_eq (tgt := 75) C.1.1 C.1.2.1 dX7_count_68 (by decide) (fun hc4 => ?_) (fun hc4 => ?_)
        · refine lv_iconst (v := 0) C.1.1 C.1.2.1 dX7_count_75 (by decide) ?_
          simp only [if_pos hc4] at J hl ⊢
          exact J ls (lv_sub hl [] rfl)
        · refine lv_iconst (v := 1) C.1.1 C.1.2.1 dX7_count_71 (by decide) ?_
          refine lv_goto (tgt := 76) C.1.1 C.1.2.1 dX7_count_72 (by decide) ?_
          simp only [if_neg hc4] at J hl ⊢
          exact J ls (lv_sub hl [] rfl)
      refine lv_if_eq (tgt := 61) C.1.1 C.1.2.1 dX7_count_54 (by decide) (fun hc3 => ?_) (fun hc3 => ?_)
      · refine lv_iconst (v := 0) C.1.1 C.1.2.1 dX7_count_61 (by decide) ?_
        simp only [if_pos hc3] at J hl
        exact J ls (lv_sub hl [0] rfl)
      · refine lv_iconst (v := 1) C.1.1 C.1.2.1 dX7_count_57 (by decide) ?_
        refine lv_goto (tgt := 62) C.1.1 C.1.2.1 dX7_count_58 (by decide) ?_
        simp only [if_neg hc3] at J hl
        exact J ls (lv_sub hl [0] rfl)
    replace h := h.2 hc2
    by_cases hc5 : x1 = 2
    · replace h := h.1 hc5
      refine q_tin C (off := 77) (tgt := 78) dX7_count_1 hc5 (by decide) (by decide) (by decide) (by decide) ?_
      refine lv_aload_n C.1.1 C.1.2.1 dX7_count_78 rfl (lv_at hl 0 rfl) ?_
      refine gr_RX7_34 C w hx_0 lx_0 rfl dX7_count_79 ?_
      refine gi_RX7_74 C w hx_22 lx_22 rfl dX7_count_82 ?_
      exact q_iret C hr hk w rfl ⟨rfl, h⟩ dX7_count_85
    replace h := h.2 hc5
    by_cases hc6 : x1 = 3
    · replace h := h.1 hc6
      refine q_tin C (off := 85) (tgt := 86) dX7_count_1 hc6 (by decide) (by decide) (by decide) (by decide) ?_
      refine lv_aload_n C.1.1 C.1.2.1 dX7_count_86 rfl (lv_at hl 0 rfl) ?_
      refine gr_RX7_59 C w hx_0 lx_0 rfl dX7_count_87 ?_
      refine lv_iconst (v := 0) C.1.1 C.1.2.1 dX7_count_90 (by decide) ?_
      have hi7 := h.1
      replace h := h.2
      refine q_aal C w hx_39 lx_39 (by decide) hi7 dX7_count_91 ?_
      refine q_pVi C w [] (c_X2_isNothing (isS_sh hi7) h) kv_X2_isNothing k_87 (rcv C w kc_X2 (sO (isS_sh hi7)) (sL (isS_sh hi7))) rfl hl.1 (Nat.le_of_ble_eq_true rfl) ⟨Nat.le_of_ble_eq_true rfl, Nat.le_of_ble_eq_true rfl⟩ dX7_count_92 (fun r8 H locs h w => ?_)
      refine lv_if_eq (tgt := 103) C.1.1 C.1.2.1 dX7_count_95 (by decide) (fun hc9 => ?_) (fun hc9 => ?_)
      · replace h := h.1 hc9
        refine lv_aload_n C.1.1 C.1.2.1 dX7_count_103 rfl (lv_at hl 0 rfl) ?_
        refine gr_RX7_59 C w hx_0 lx_0 rfl dX7_count_104 ?_
        refine lv_iconst (v := 0) C.1.1 C.1.2.1 dX7_count_107 (by decide) ?_
        have hi10 := h.1
        replace h := h.2
        refine q_aal C w hx_39 lx_39 (by decide) hi10 dX7_count_108 ?_
        refine gi_RX7_293 C w (sO (isS_sh hi10)) (sL (isS_sh hi10)) rfl dX7_count_109 ?_
        exact q_iret C hr hk w rfl ⟨rfl, h⟩ dX7_count_112
      · replace h := h.2 hc9
        refine lv_bipush (v := (-4)) C.1.1 C.1.2.1 dX7_count_98 (by decide) ?_
        refine lv_goto (tgt := 112) C.1.1 C.1.2.1 dX7_count_100 (by decide) ?_
        exact q_iret C hr hk w rfl ⟨rfl, h⟩ dX7_count_112
    replace h := h.2 hc6
    by_cases hc11 : x1 = 4
    · replace h := h.1 hc11
      refine q_tin C (off := 112) (tgt := 113) dX7_count_1 hc11 (by decide) (by decide) (by decide) (by decide) ?_
      refine lv_aload_n C.1.1 C.1.2.1 dX7_count_113 rfl (lv_at hl 0 rfl) ?_
      refine gr_RX7_10 C w hx_0 lx_0 rfl dX7_count_114 ?_
      refine q_pVi C w [] (c_X0_growthOfAll isE_1 h) kv_X0_growthOfAll k_92 (rcv C w kc_X0 hx_1 lx_1) rfl hl.1 (Nat.le_of_ble_eq_true rfl) ⟨Nat.le_of_ble_eq_true rfl, Nat.le_of_ble_eq_true rfl⟩ dX7_count_117 (fun r12 H locs h w => ?_)
      exact q_iret C hr hk w rfl ⟨rfl, h⟩ dX7_count_120
    replace h := h.2 hc11
    by_cases hc13 : x1 = 5
    · replace h := h.1 hc13
      refine q_tin C (off := 120) (tgt := 121) dX7_count_1 hc13 (by decide) (by decide) (by decide) (by decide) ?_
      refine lv_aload_n C.1.1 C.1.2.1 dX7_count_121 rfl (lv_at hl 0 rfl) ?_
      refine gr_RX7_10 C w hx_0 lx_0 rfl dX7_count_122 ?_
      refine q_pVi C w [] (c_X0_earsOfAll isE_1 h) kv_X0_earsOfAll k_93 (rcv C w kc_X0 hx_1 lx_1) rfl hl.1 (Nat.le_of_ble_eq_true rfl) ⟨Nat.le_of_ble_eq_true rfl, Nat.le_of_ble_eq_true rfl⟩ dX7_count_125 (fun r14 H locs h w => ?_)
      exact q_iret C hr hk w rfl ⟨rfl, h⟩ dX7_count_128
    replace h := h.2 hc13
    have nhc1 : ¬ x1.toInt = 0 := lv_neT hc1 (by decide)
    have nhc2 : ¬ x1.toInt = 1 := lv_neT hc2 (by decide)
    have nhc5 : ¬ x1.toInt = 2 := lv_neT hc5 (by decide)
    have nhc6 : ¬ x1.toInt = 3 := lv_neT hc6 (by decide)
    have nhc11 : ¬ x1.toInt = 4 := lv_neT hc11 (by decide)
    have nhc13 : ¬ x1.toInt = 5 := lv_neT hc13 (by decide)
    refine q_tout C (tgt := 129) dX7_count_1 (by omega) (by decide) ?_
    refine lv_iconst (v := (-1)) C.1.1 C.1.2.1 dX7_count_129 (by decide) ?_
    exact q_iret C hr hk w rfl ⟨rfl, h⟩ dX7_count_130)
end
