-- placeBehindAll
def w_X5_placeBehindAll_3 (x2 : Int32) (x3 : Int32) (M : Mem) (Q : Int32 → Prop) (K3 : Int32 → Prop) (x4 : Int32) : Prop :=
  ((M 22 1) ≤ x4 → Q x4) ∧ (¬ (M 22 1) ≤ x4 → vp_in x4 160 ∧ ((M 23 x4.toNatClampNeg) < x2 → Q x4) ∧ (¬ (M 23 x4.toNatClampNeg) < x2 → vp_in x4 160 ∧ (x3 < (M 23 x4.toNatClampNeg) → Q x4) ∧ (¬ x3 < (M 23 x4.toNatClampNeg) → K3 (x4 + 1))))
def w_X5_placeBehindAll (x1 : Int32) (x2 : Int32) (x3 : Int32) (M : Mem) (Q : Int32 → Prop) : Prop :=
  ∃ n, fu1 (w_X5_placeBehindAll_3 x2 x3 M Q) n x1
-- takeFigures
def w_X5_takeFigures_25 (Q : Int32 → Mem → Prop) (K25 : Int32 → Mem → Prop) (x1 : Int32) (M : Mem) : Prop :=
  ((M 24 3) ≤ x1 → Q 1 M) ∧ (¬ (M 24 3) ≤ x1 → ((M 22 1) ≤ x1 → Q 1 M) ∧ (¬ (M 22 1) ≤ x1 → vp_in x1 160 ∧ ∀ M5, M5 = mu M 24 4 ((((M 24 4) * 10) + (M 23 x1.toNatClampNeg)) - 48) → K25 (x1 + 1) M5))
def w_X5_takeFigures (M : Mem) (Q : Int32 → Mem → Prop) : Prop :=
  (((M 24 3) - (M 24 2)) ≤ 2 → ∀ M2, M2 = mu M 24 4 0 → ∃ n, fu2 (w_X5_takeFigures_25 Q) n (M2 24 2) M2) ∧ (¬ ((M 24 3) - (M 24 2)) ≤ 2 → Q 0 M)
-- refuse
def w_X5_refuse (x1 : Int32) (M : Mem) (Q : Int32 → Mem → Prop) : Prop :=
  ∀ M1, M1 = mu M 24 6 x1 → ∀ M2, M2 = mu M1 24 7 (M1 24 2) → Q 0 M2
-- readToken
def w_X5_readToken (M : Mem) (Q : Int32 → Mem → Prop) : Prop :=
  w_X5_placeBehindAll (M 24 3) 32 32 M (fun r1 => ∀ M2, M2 = mu M 24 2 r1 → ((M2 24 2) < (M2 22 1) → w_X4_isBetween (M2 24 2) 97 122 M2 (fun r4 => (r4 = 0 → w_X4_isBetween (M2 24 2) 48 57 M2 (fun r6 => (r6 = 0 → ∀ M8, M8 = mu M2 24 3 ((M2 24 2) + 1) → ∀ M9, M9 = mu M8 24 1 3 → w_X4_isBetween (M9 24 2) 59 59 M9 (fun r10 => (r10 = 0 → w_X5_refuse 1 M9 (fun r12 M13 => (r12 = 0 → Q 0 M13) ∧ (¬ r12 = 0 → Q 1 M13))) ∧ (¬ r10 = 0 → Q 1 M9))) ∧ (¬ r6 = 0 → w_X5_placeBehindAll (M2 24 2) 48 57 M2 (fun r15 => ∀ M16, M16 = mu M2 24 3 r15 → ∀ M17, M17 = mu M16 24 1 2 → w_X5_takeFigures M17 (fun r18 M19 => (r18 = 0 → w_X5_refuse 1 M19 (fun r21 M22 => (r21 = 0 → Q 0 M22) ∧ (¬ r21 = 0 → Q 1 M22))) ∧ (¬ r18 = 0 → Q 1 M19)))))) ∧ (¬ r4 = 0 → w_X5_placeBehindAll (M2 24 2) 97 122 M2 (fun r24 => ∀ M25, M25 = mu M2 24 3 r24 → ∀ M26, M26 = mu M25 24 1 1 → Q 1 M26)))) ∧ (¬ (M2 24 2) < (M2 22 1) → ∀ M27, M27 = mu M2 24 2 (M2 22 1) → ∀ M28, M28 = mu M27 24 3 (M27 24 2) → ∀ M29, M29 = mu M28 24 1 0 → Q 1 M29))
-- nameOfKind
def w_X5_nameOfKind (x0 : Int32) (M : Mem) (Q : Nat → Prop) : Prop :=
  (x0 = 0 → Q 0) ∧ (¬ x0 = 0 → (x0 = 1 → Q 1) ∧ (¬ x0 = 1 → (x0 = 2 → Q 2) ∧ (¬ x0 = 2 → Q 3)))
-- isName
def w_X5_isName_28 (i : Nat) (M : Mem) (Q : Int32 → Prop) (K28 : Int32 → Prop) (x2 : Int32) : Prop :=
  w_J0_length_8abf5 i M (fun r4 => (r4 ≤ x2 → Q 1) ∧ (¬ r4 ≤ x2 → w_J0_charAt_5068e i x2 M (fun r6 => w_J0_charAt_5068e i x2 M (fun r7 => w_X4_isBetween ((M 24 2) + x2) r6 r7 M (fun r8 => (r8 = 0 → Q 0) ∧ (¬ r8 = 0 → K28 (x2 + 1)))))))
def w_X5_isName (i : Nat) (M : Mem) (Q : Int32 → Prop) : Prop :=
  ((M 24 1) = 1 → w_J0_length_8abf5 i M (fun r2 => (((M 24 3) - (M 24 2)) = r2 → ∃ n, fu1 (w_X5_isName_28 i M Q) n 0) ∧ (¬ ((M 24 3) - (M 24 2)) = r2 → Q 0))) ∧ (¬ (M 24 1) = 1 → Q 0)
-- readNumber
def w_X5_readNumber_39 (M : Mem) (Q : Int32 → Mem → Prop) : Prop :=
  w_X5_refuse 3 M (fun r6 M7 => (r6 = 0 → Q 0 M7) ∧ (¬ r6 = 0 → Q 1 M7))
def w_X5_readNumber (x1 : Int32) (x2 : Int32) (M : Mem) (Q : Int32 → Mem → Prop) : Prop :=
  w_X5_readToken M (fun r1 M2 => (r1 = 0 → Q 0 M2) ∧ (¬ r1 = 0 → ((M2 24 1) = 2 → ((M2 24 4) < x1 → w_X5_readNumber_39 M2 Q) ∧ (¬ (M2 24 4) < x1 → ((M2 24 4) ≤ x2 → Q 1 M2) ∧ (¬ (M2 24 4) ≤ x2 → w_X5_readNumber_39 M2 Q))) ∧ (¬ (M2 24 1) = 2 → w_X5_refuse 2 M2 (fun r10 M11 => narrow .boolean (.int r10) = .int r10 ∧ Q r10 M11))))
-- readSemicolonBehind
def w_X5_readSemicolonBehind (M : Mem) (Q : Int32 → Mem → Prop) : Prop :=
  w_X5_readToken M (fun r1 M2 => (r1 = 0 → Q 0 M2) ∧ (¬ r1 = 0 → ((M2 24 1) = 3 → Q 1 M2) ∧ (¬ (M2 24 1) = 3 → w_X5_refuse 2 M2 (fun r5 M6 => (r5 = 0 → Q 0 M6) ∧ (¬ r5 = 0 → Q 1 M6)))))
-- readTaker
def w_X5_readTaker (x2 : Int32) (M : Mem) (Q : Int32 → Mem → Prop) : Prop :=
  ((M 12 9) < 5 → w_X5_readNumber 0 5 M (fun r2 M3 => (r2 = 0 → Q 0 M3) ∧ (¬ r2 = 0 → w_X5_readSemicolonBehind M3 (fun r5 M6 => (r5 = 0 → Q 0 M6) ∧ (¬ r5 = 0 → w_X0_addTaker 12 x2 (M6 24 4) M6 (fun r8 M9 => (r8 = 0 → Q 0 M9) ∧ (¬ r8 = 0 → Q 1 M9))))))) ∧ (¬ (M 12 9) < 5 → w_X5_refuse 5 M (fun r11 M12 => narrow .boolean (.int r11) = .int r11 ∧ Q r11 M12))
-- readKeeper
def w_X5_readKeeper (M : Mem) (Q : Int32 → Mem → Prop) : Prop :=
  ((M 12 10) < 3 → w_X5_readNumber 0 5 M (fun r2 M3 => (r2 = 0 → Q 0 M3) ∧ (¬ r2 = 0 → w_X5_readNumber 0 5 M3 (fun r5 M6 => (r5 = 0 → Q 0 M6) ∧ (¬ r5 = 0 → w_X5_readNumber 1 9 M6 (fun r8 M9 => (r8 = 0 → Q 0 M9) ∧ (¬ r8 = 0 → w_X5_readSemicolonBehind M9 (fun r11 M12 => (r11 = 0 → Q 0 M12) ∧ (¬ r11 = 0 → w_X0_addKeeper 12 (M3 24 4) (M6 24 4) (M12 24 4) M12 (fun r14 M15 => (r14 = 0 → Q 0 M15) ∧ (¬ r14 = 0 → Q 1 M15))))))))))) ∧ (¬ (M 12 10) < 3 → w_X5_refuse 5 M (fun r17 M18 => narrow .boolean (.int r17) = .int r17 ∧ Q r17 M18))
-- readGate
def w_X5_readGate (M : Mem) (Q : Int32 → Mem → Prop) : Prop :=
  w_X5_readNumber 0 5 M (fun r1 M2 => (r1 = 0 → Q 0 M2) ∧ (¬ r1 = 0 → (((sr (M2 24 5) (M2 24 4)) &&& 1) = 1 → w_X5_refuse 4 M2 (fun r16 M17 => narrow .boolean (.int r16) = .int r16 ∧ Q r16 M17)) ∧ (¬ ((sr (M2 24 5) (M2 24 4)) &&& 1) = 1 → ∀ M5, M5 = mu M2 24 5 ((M2 24 5) ||| (sl 1 (M2 24 4))) → w_X5_readNumber 0 60 M5 (fun r6 M7 => (r6 = 0 → Q 0 M7) ∧ (¬ r6 = 0 → vp_in (M2 24 4) 6 ∧ ∀ M9, M9 = mu M7 13 (M2 24 4).toNatClampNeg (M7 24 4) → w_X5_readNumber 0 9 M9 (fun r10 M11 => (r10 = 0 → Q 0 M11) ∧ (¬ r10 = 0 → vp_in (M2 24 4) 6 ∧ ∀ M13, M13 = mu M11 14 (M2 24 4).toNatClampNeg (M11 24 4) → w_X5_readSemicolonBehind M13 (fun r14 M15 => narrow .boolean (.int r14) = .int r14 ∧ Q r14 M15))))))))
-- readLine
def w_X5_readLine_31 (M : Mem) (Q : Int32 → Mem → Prop) : Prop :=
  w_X5_isName 4 M (fun r2 => (r2 = 0 → w_X5_isName 5 M (fun r4 => (r4 = 0 → w_X5_refuse 2 M (fun r6 M7 => narrow .boolean (.int r6) = .int r6 ∧ Q r6 M7)) ∧ (¬ r4 = 0 → w_X5_readGate M (fun r8 M9 => narrow .boolean (.int r8) = .int r8 ∧ Q r8 M9)))) ∧ (¬ r2 = 0 → w_X5_readKeeper M (fun r10 M11 => narrow .boolean (.int r10) = .int r10 ∧ Q r10 M11)))
def w_X5_readLine_18 (x2 : Int32) (M : Mem) (Q : Int32 → Mem → Prop) : Prop :=
  w_X5_readTaker x2 M (fun r15 M16 => narrow .boolean (.int r15) = .int r15 ∧ Q r15 M16)
def w_X5_readLine_2 (M : Mem) (Q : Int32 → Mem → Prop) (K2 : Int32 → Prop) (x2 : Int32) : Prop :=
  (4 ≤ x2 → w_X5_readLine_31 M Q) ∧ (¬ 4 ≤ x2 → w_X5_nameOfKind x2 M (fun r12 => r12 < 6 ∧ w_X5_isName r12 M (fun r13 => (r13 = 0 → K2 (x2 + 1)) ∧ (¬ r13 = 0 → w_X5_readLine_18 x2 M Q))))
def w_X5_readLine (M : Mem) (Q : Int32 → Mem → Prop) : Prop :=
  ∃ n, fu1 (w_X5_readLine_2 M Q) n 0
-- readLines
def w_X5_readLines_28 (Q : Int32 → Mem → Prop) (K28 : Int32 → Int32 → Mem → Prop) (x2 : Int32) (x3 : Int32) (M : Mem) : Prop :=
  (160 < x3 → Q x2 M) ∧ (¬ 160 < x3 → w_X5_readToken M (fun r8 M9 => (r8 = 0 → Q x2 M9) ∧ (¬ r8 = 0 → ((M9 24 1) = 0 → Q x2 M9) ∧ (¬ (M9 24 1) = 0 → w_X5_readLine M9 (fun r12 M13 => (r12 = 0 → Q x2 M13) ∧ (¬ r12 = 0 → K28 (x2 + 1) (x3 + 1) M13))))))
def w_X5_readLines (M : Mem) (Q : Int32 → Mem → Prop) : Prop :=
  w_X0_clear 12 M (fun M2 => ∀ M3, M3 = mu M2 24 3 0 → ∀ M4, M4 = mu M3 24 5 0 → ∀ M5, M5 = mu M4 24 6 0 → ∀ M6, M6 = mu M5 24 7 0 → ∃ n, fu3 (w_X5_readLines_28 Q) n 0 0 M6)
section
variable {p : Program} {l : Launch} {e : Env} {s : State} {m : MethodId} {args : Array Value} {below : List Frame} {meth : Method} {c : Code} {g : Gt}
-- placeBehindAll
set_option maxHeartbeats 4000000 in
set_option maxRecDepth 100000 in
theorem v_X5_placeBehindAll_3 {x2 : Int32} {x3 : Int32} {x4 : Int32} {M : Mem} {K3 : Int32 → Prop} {Q : Int32 → Prop} {H : Heap} {locs : List Loc} {ls : Array Slot} (C : Cx p s m args c cX5_placeBehindAll 5 RX5 g) (hr : meth.sig.returnType = (some .int)) (hk : meth.locks = false) (hK3 : ∀ (x4 : Int32) (H : Heap) (locs : List Loc) (ls : Array Slot), K3 x4 → Wd g layX 68 s.heap M H locs → lv_has ls 5 [(0, .ref (ga g 24)), (2, .int x2), (3, .int x3), (4, .int x4)] → W p l e (rmOf 0 0) s m args below meth c H locs 0 0 (MQ below (va_Qi (fun r M9 => M9 = M ∧ Q r) (PostW g layX 68) (gF g)) args s 0 0 (gF g)) (F0 m 3 ls [])) (h : w_X5_placeBehindAll_3 x2 x3 M Q K3 x4) (w : Wd g layX 68 s.heap M H locs) (hl : lv_has ls 5 [(0, .ref (ga g 24)), (2, .int x2), (3, .int x3), (4, .int x4)]) : W p l e (rmOf 0 0) s m args below meth c H locs 0 0 (MQ below (va_Qi (fun r M9 => M9 = M ∧ Q r) (PostW g layX 68) (gF g)) args s 0 0 (gF g)) (F0 m 3 ls []) := by
  unfold w_X5_placeBehindAll_3 at h
  refine lv_iload C.1.1 C.1.2.1 dX5_placeBehindAll_3 (lv_at hl 3 rfl) ?_
  refine lv_aload_n C.1.1 C.1.2.1 dX5_placeBehindAll_5 rfl (lv_at hl 0 rfl) ?_
  refine gr_RX5_10 C w hx_24 lx_24 rfl dX5_placeBehindAll_6 ?_
  refine gi_RX5_108 C w hx_22 lx_22 rfl dX5_placeBehindAll_9 ?_
  refine lv_icmp_ge (tgt := 49) C.1.1 C.1.2.1 dX5_placeBehindAll_12 (by decide) (fun hc1 => ?_) (fun hc1 => ?_)
  · replace h := h.1 hc1
    refine lv_iload C.1.1 C.1.2.1 dX5_placeBehindAll_49 (lv_at hl 3 rfl) ?_
    exact q_iret C hr hk w rfl ⟨rfl, h⟩ dX5_placeBehindAll_51
  · replace h := h.2 hc1
    refine lv_aload_n C.1.1 C.1.2.1 dX5_placeBehindAll_15 rfl (lv_at hl 0 rfl) ?_
    refine gr_RX5_10 C w hx_24 lx_24 rfl dX5_placeBehindAll_16 ?_
    refine gr_RX5_117 C w hx_22 lx_22 rfl dX5_placeBehindAll_19 ?_
    refine lv_iload C.1.1 C.1.2.1 dX5_placeBehindAll_22 (lv_at hl 3 rfl) ?_
    refine q_bal C w hx_23 lx_23 h.1 dX5_placeBehindAll_24 ?_
    replace h := h.2
    refine lv_iload_n C.1.1 C.1.2.1 dX5_placeBehindAll_25 rfl (lv_at hl 1 rfl) ?_
    refine lv_icmp_lt (tgt := 49) C.1.1 C.1.2.1 dX5_placeBehindAll_26 (by decide) (fun hc2 => ?_) (fun hc2 => ?_)
    · replace h := h.1 hc2
      refine lv_iload C.1.1 C.1.2.1 dX5_placeBehindAll_49 (lv_at hl 3 rfl) ?_
      exact q_iret C hr hk w rfl ⟨rfl, h⟩ dX5_placeBehindAll_51
    · replace h := h.2 hc2
      refine lv_aload_n C.1.1 C.1.2.1 dX5_placeBehindAll_29 rfl (lv_at hl 0 rfl) ?_
      refine gr_RX5_10 C w hx_24 lx_24 rfl dX5_placeBehindAll_30 ?_
      refine gr_RX5_117 C w hx_22 lx_22 rfl dX5_placeBehindAll_33 ?_
      refine lv_iload C.1.1 C.1.2.1 dX5_placeBehindAll_36 (lv_at hl 3 rfl) ?_
      refine q_bal C w hx_23 lx_23 h.1 dX5_placeBehindAll_38 ?_
      replace h := h.2
      refine lv_iload_n C.1.1 C.1.2.1 dX5_placeBehindAll_39 rfl (lv_at hl 2 rfl) ?_
      refine lv_icmp_gt (tgt := 49) C.1.1 C.1.2.1 dX5_placeBehindAll_40 (by decide) (fun hc3 => ?_) (fun hc3 => ?_)
      · replace h := h.1 hc3
        refine lv_iload C.1.1 C.1.2.1 dX5_placeBehindAll_49 (lv_at hl 3 rfl) ?_
        exact q_iret C hr hk w rfl ⟨rfl, h⟩ dX5_placeBehindAll_51
      · replace h := h.2 hc3
        refine lv_iinc (v := x4 + 1) (lv' := [(4, .int (x4 + 1)), (0, .ref (ga g 24)), (2, .int x2), (3, .int x3)]) C.1.1 C.1.2.1 dX5_placeBehindAll_43 hl (k := 3) rfl rfl (by decide) rfl (fun ls hl => ?_)
        refine lv_goto (tgt := 3) C.1.1 C.1.2.1 dX5_placeBehindAll_46 (by decide) ?_
        exact hK3 _ _ _ _ h w (lv_sub hl [1, 2, 3, 0] rfl)
set_option maxHeartbeats 4000000 in
set_option maxRecDepth 100000 in
theorem l_X5_placeBehindAll_3 {x2 : Int32} {x3 : Int32} {M : Mem} {Q : Int32 → Prop} (C : Cx p s m args c cX5_placeBehindAll 5 RX5 g) (hr : meth.sig.returnType = (some .int)) (hk : meth.locks = false)  : ∀ (n : Nat) (x4 : Int32) (H : Heap) (locs : List Loc) (ls : Array Slot), fu1 (w_X5_placeBehindAll_3 x2 x3 M Q) n x4 → Wd g layX 68 s.heap M H locs → lv_has ls 5 [(0, .ref (ga g 24)), (2, .int x2), (3, .int x3), (4, .int x4)] → W p l e (rmOf 0 0) s m args below meth c H locs 0 0 (MQ below (va_Qi (fun r M9 => M9 = M ∧ Q r) (PostW g layX 68) (gF g)) args s 0 0 (gF g)) (F0 m 3 ls []) := by
  intro n
  induction n with
  | zero => intro x4 H locs ls h; exact h.elim
  | succ n ih => intro x4 H locs ls h w hl; exact v_X5_placeBehindAll_3 C hr hk   ih h w hl
set_option maxHeartbeats 4000000 in
set_option maxRecDepth 100000 in
theorem c_X5_placeBehindAll {l : Launch} {g : Gt} {x1 : Int32} {x2 : Int32} {x3 : Int32} {M : Mem} {Q : Int32 → Prop} (h : w_X5_placeBehindAll x1 x2 x3 M Q) : MI l yX5_placeBehindAll cX5_placeBehindAll 5 (some .int) 0 0 g layX 68 [.ref (ga g 24), .int x1, .int x2, .int x3] M (fun r M9 => M9 = M ∧ Q r) :=
  m_of (by decide +kernel) (Nat.le_of_ble_eq_true rfl) (fun p e s m args below meth c ls C hr hk w hl => by
    have C : Cx p s m args c cX5_placeBehindAll 5 RX5 g := C
    have hl : lv_has ls 5 [(0, .ref (ga g 24)), (1, .int x1), (2, .int x2), (3, .int x3)] := hl
    unfold w_X5_placeBehindAll at h
    obtain ⟨H, eH⟩ : ∃ H : Heap, H = s.heap := ⟨_, rfl⟩
    obtain ⟨locs, el⟩ : ∃ locs : List Loc, locs = [] := ⟨_, rfl⟩
    have w : Wd g layX 68 s.heap M H locs := by rw [eH, el]; exact w
    suffices hw : W p l e (rmOf 0 0) s m args below meth c H locs 0 0 (MQ below (va_Qi (fun r M9 => M9 = M ∧ Q r) (PostW g layX 68) (gF g)) args s 0 0 (gF g)) (F0 m 0 ls []) by rw [eH, el] at hw; exact hw
    clear eH el
    refine lv_iload_n C.1.1 C.1.2.1 dX5_placeBehindAll_0 rfl (lv_at hl 1 rfl) ?_
    refine lv_istore (lv' := [(4, .int x1), (0, .ref (ga g 24)), (1, .int x1), (2, .int x2), (3, .int x3)]) C.1.1 C.1.2.1 dX5_placeBehindAll_1 hl (by decide) rfl (fun ls hl => ?_)
    obtain ⟨n, h⟩ := h
    exact l_X5_placeBehindAll_3 C hr hk   n _ _ _ _ h w (lv_sub hl [1, 3, 4, 0] rfl))
-- takeFigures
set_option maxHeartbeats 4000000 in
set_option maxRecDepth 100000 in
theorem v_X5_takeFigures_25 {x1 : Int32} {M : Mem} {K25 : Int32 → Mem → Prop} {Q : Int32 → Mem → Prop} {H : Heap} {locs : List Loc} {ls : Array Slot} (C : Cx p s m args c cX5_takeFigures 2 RX5 g) (hr : meth.sig.returnType = (some .boolean)) (hk : meth.locks = false) (hK25 : ∀ (x1 : Int32) (M : Mem) (H : Heap) (locs : List Loc) (ls : Array Slot), K25 x1 M → Wd g layX 68 s.heap M H locs → lv_has ls 2 [(0, .ref (ga g 24)), (1, .int x1)] → W p l e (rmOf 0 0) s m args below meth c H locs 0 0 (MQ below (va_Qi Q (PostW g layX 68) (gF g)) args s 0 0 (gF g)) (F0 m 25 ls [])) (h : w_X5_takeFigures_25 Q K25 x1 M) (w : Wd g layX 68 s.heap M H locs) (hl : lv_has ls 2 [(0, .ref (ga g 24)), (1, .int x1)]) : W p l e (rmOf 0 0) s m args below meth c H locs 0 0 (MQ below (va_Qi Q (PostW g layX 68) (gF g)) args s 0 0 (gF g)) (F0 m 25 ls []) := by
  unfold w_X5_takeFigures_25 at h
  refine lv_iload_n C.1.1 C.1.2.1 dX5_takeFigures_25 rfl (lv_at hl 1 rfl) ?_
  refine lv_aload_n C.1.1 C.1.2.1 dX5_takeFigures_26 rfl (lv_at hl 0 rfl) ?_
  refine gi_RX5_21 C w hx_24 lx_24 rfl dX5_takeFigures_27 ?_
  refine lv_icmp_ge (tgt := 74) C.1.1 C.1.2.1 dX5_takeFigures_30 (by decide) (fun hc3 => ?_) (fun hc3 => ?_)
  · replace h := h.1 hc3
    refine lv_iconst (v := 1) C.1.1 C.1.2.1 dX5_takeFigures_74 (by decide) ?_
    exact q_iret C hr hk w rfl h dX5_takeFigures_75
  · replace h := h.2 hc3
    refine lv_iload_n C.1.1 C.1.2.1 dX5_takeFigures_33 rfl (lv_at hl 1 rfl) ?_
    refine lv_aload_n C.1.1 C.1.2.1 dX5_takeFigures_34 rfl (lv_at hl 0 rfl) ?_
    refine gr_RX5_10 C w hx_24 lx_24 rfl dX5_takeFigures_35 ?_
    refine gi_RX5_108 C w hx_22 lx_22 rfl dX5_takeFigures_38 ?_
    refine lv_icmp_ge (tgt := 74) C.1.1 C.1.2.1 dX5_takeFigures_41 (by decide) (fun hc4 => ?_) (fun hc4 => ?_)
    · replace h := h.1 hc4
      refine lv_iconst (v := 1) C.1.1 C.1.2.1 dX5_takeFigures_74 (by decide) ?_
      exact q_iret C hr hk w rfl h dX5_takeFigures_75
    · replace h := h.2 hc4
      refine lv_aload_n C.1.1 C.1.2.1 dX5_takeFigures_44 rfl (lv_at hl 0 rfl) ?_
      refine lv_aload_n C.1.1 C.1.2.1 dX5_takeFigures_45 rfl (lv_at hl 0 rfl) ?_
      refine gi_RX5_81 C w hx_24 lx_24 rfl dX5_takeFigures_46 ?_
      refine lv_bipush (v := 10) C.1.1 C.1.2.1 dX5_takeFigures_49 (by decide) ?_
      refine lv_imul C.1.1 C.1.2.1 dX5_takeFigures_51 ?_
      refine lv_aload_n C.1.1 C.1.2.1 dX5_takeFigures_52 rfl (lv_at hl 0 rfl) ?_
      refine gr_RX5_10 C w hx_24 lx_24 rfl dX5_takeFigures_53 ?_
      refine gr_RX5_117 C w hx_22 lx_22 rfl dX5_takeFigures_56 ?_
      refine lv_iload_n C.1.1 C.1.2.1 dX5_takeFigures_59 rfl (lv_at hl 1 rfl) ?_
      refine q_bal C w hx_23 lx_23 h.1 dX5_takeFigures_60 ?_
      replace h := h.2
      refine lv_iadd C.1.1 C.1.2.1 dX5_takeFigures_61 ?_
      refine lv_bipush (v := 48) C.1.1 C.1.2.1 dX5_takeFigures_62 (by decide) ?_
      refine lv_isub C.1.1 C.1.2.1 dX5_takeFigures_64 ?_
      refine pi_RX5_81 C w hx_24 lx_24 rfl dX5_takeFigures_65 (fun M5 H locs eM5 w => ?_)
      replace h := h M5 eM5
      refine lv_iinc (v := x1 + 1) (lv' := [(1, .int (x1 + 1)), (0, .ref (ga g 24))]) C.1.1 C.1.2.1 dX5_takeFigures_68 hl (k := 1) rfl rfl (by decide) rfl (fun ls hl => ?_)
      refine lv_goto (tgt := 25) C.1.1 C.1.2.1 dX5_takeFigures_71 (by decide) ?_
      exact hK25 _ _ _ _ _ h w (lv_sub hl [1, 0] rfl)
set_option maxHeartbeats 4000000 in
set_option maxRecDepth 100000 in
theorem l_X5_takeFigures_25 {Q : Int32 → Mem → Prop} (C : Cx p s m args c cX5_takeFigures 2 RX5 g) (hr : meth.sig.returnType = (some .boolean)) (hk : meth.locks = false)  : ∀ (n : Nat) (x1 : Int32) (M : Mem) (H : Heap) (locs : List Loc) (ls : Array Slot), fu2 (w_X5_takeFigures_25 Q) n x1 M → Wd g layX 68 s.heap M H locs → lv_has ls 2 [(0, .ref (ga g 24)), (1, .int x1)] → W p l e (rmOf 0 0) s m args below meth c H locs 0 0 (MQ below (va_Qi Q (PostW g layX 68) (gF g)) args s 0 0 (gF g)) (F0 m 25 ls []) := by
  intro n
  induction n with
  | zero => intro x1 M H locs ls h; exact h.elim
  | succ n ih => intro x1 M H locs ls h w hl; exact v_X5_takeFigures_25 C hr hk   ih h w hl
set_option maxHeartbeats 4000000 in
set_option maxRecDepth 100000 in
theorem c_X5_takeFigures {l : Launch} {g : Gt} {M : Mem} {Q : Int32 → Mem → Prop} (h : w_X5_takeFigures M Q) : MI l yX5_takeFigures cX5_takeFigures 2 (some .boolean) 0 0 g layX 68 [.ref (ga g 24)] M Q :=
  m_of (by decide +kernel) (Nat.le_of_ble_eq_true rfl) (fun p e s m args below meth c ls C hr hk w hl => by
    have C : Cx p s m args c cX5_takeFigures 2 RX5 g := C
    have hl : lv_has ls 2 [(0, .ref (ga g 24))] := hl
    unfold w_X5_takeFigures at h
    obtain ⟨H, eH⟩ : ∃ H : Heap, H = s.heap := ⟨_, rfl⟩
    obtain ⟨locs, el⟩ : ∃ locs : List Loc, locs = [] := ⟨_, rfl⟩
    have w : Wd g layX 68 s.heap M H locs := by rw [eH, el]; exact w
    suffices hw : W p l e (rmOf 0 0) s m args below meth c H locs 0 0 (MQ below (va_Qi Q (PostW g layX 68) (gF g)) args s 0 0 (gF g)) (F0 m 0 ls []) by rw [eH, el] at hw; exact hw
    clear eH el
    refine lv_aload_n C.1.1 C.1.2.1 dX5_takeFigures_0 rfl (lv_at hl 0 rfl) ?_
    refine gi_RX5_21 C w hx_24 lx_24 rfl dX5_takeFigures_1 ?_
    refine lv_aload_n C.1.1 C.1.2.1 dX5_takeFigures_4 rfl (lv_at hl 0 rfl) ?_
    refine gi_RX5_105 C w hx_24 lx_24 rfl dX5_takeFigures_5 ?_
    refine lv_isub C.1.1 C.1.2.1 dX5_takeFigures_8 ?_
    refine lv_iconst (v := 2) C.1.1 C.1.2.1 dX5_takeFigures_9 (by decide) ?_
    refine lv_icmp_le (tgt := 15) C.1.1 C.1.2.1 dX5_takeFigures_10 (by decide) (fun hc1 => ?_) (fun hc1 => ?_)
    · replace h := h.1 hc1
      refine lv_aload_n C.1.1 C.1.2.1 dX5_takeFigures_15 rfl (lv_at hl 0 rfl) ?_
      refine lv_iconst (v := 0) C.1.1 C.1.2.1 dX5_takeFigures_16 (by decide) ?_
      refine pi_RX5_81 C w hx_24 lx_24 rfl dX5_takeFigures_17 (fun M2 H locs eM2 w => ?_)
      replace h := h M2 eM2
      refine lv_aload_n C.1.1 C.1.2.1 dX5_takeFigures_20 rfl (lv_at hl 0 rfl) ?_
      refine gi_RX5_105 C w hx_24 lx_24 rfl dX5_takeFigures_21 ?_
      refine lv_istore_n (lv' := [(1, .int (M2 24 2)), (0, .ref (ga g 24))]) C.1.1 C.1.2.1 dX5_takeFigures_24 rfl hl (by decide) rfl (fun ls hl => ?_)
      obtain ⟨n, h⟩ := h
      exact l_X5_takeFigures_25 C hr hk   n _ _ _ _ _ h w (lv_sub hl [1, 0] rfl)
    · replace h := h.2 hc1
      refine lv_iconst (v := 0) C.1.1 C.1.2.1 dX5_takeFigures_13 (by decide) ?_
      exact q_iret C hr hk w rfl h dX5_takeFigures_14)
-- refuse
set_option maxHeartbeats 4000000 in
set_option maxRecDepth 100000 in
theorem c_X5_refuse {l : Launch} {g : Gt} {x1 : Int32} {M : Mem} {Q : Int32 → Mem → Prop} (h : w_X5_refuse x1 M Q) : MI l yX5_refuse cX5_refuse 2 (some .boolean) 0 0 g layX 68 [.ref (ga g 24), .int x1] M Q :=
  m_of (by decide +kernel) (Nat.le_of_ble_eq_true rfl) (fun p e s m args below meth c ls C hr hk w hl => by
    have C : Cx p s m args c cX5_refuse 2 RX5 g := C
    have hl : lv_has ls 2 [(0, .ref (ga g 24)), (1, .int x1)] := hl
    unfold w_X5_refuse at h
    obtain ⟨H, eH⟩ : ∃ H : Heap, H = s.heap := ⟨_, rfl⟩
    obtain ⟨locs, el⟩ : ∃ locs : List Loc, locs = [] := ⟨_, rfl⟩
    have w : Wd g layX 68 s.heap M H locs := by rw [eH, el]; exact w
    suffices hw : W p l e (rmOf 0 0) s m args below meth c H locs 0 0 (MQ below (va_Qi Q (PostW g layX 68) (gF g)) args s 0 0 (gF g)) (F0 m 0 ls []) by rw [eH, el] at hw; exact hw
    clear eH el
    refine lv_aload_n C.1.1 C.1.2.1 dX5_refuse_0 rfl (lv_at hl 0 rfl) ?_
    refine lv_iload_n C.1.1 C.1.2.1 dX5_refuse_1 rfl (lv_at hl 1 rfl) ?_
    refine pi_RX5_28 C w hx_24 lx_24 rfl dX5_refuse_2 (fun M1 H locs eM1 w => ?_)
    replace h := h M1 eM1
    refine lv_aload_n C.1.1 C.1.2.1 dX5_refuse_5 rfl (lv_at hl 0 rfl) ?_
    refine lv_aload_n C.1.1 C.1.2.1 dX5_refuse_6 rfl (lv_at hl 0 rfl) ?_
    refine gi_RX5_105 C w hx_24 lx_24 rfl dX5_refuse_7 ?_
    refine pi_RX5_31 C w hx_24 lx_24 rfl dX5_refuse_10 (fun M2 H locs eM2 w => ?_)
    replace h := h M2 eM2
    refine lv_iconst (v := 0) C.1.1 C.1.2.1 dX5_refuse_13 (by decide) ?_
    exact q_iret C hr hk w rfl h dX5_refuse_14)
-- readToken
set_option maxHeartbeats 4000000 in
set_option maxRecDepth 100000 in
theorem c_X5_readToken {l : Launch} {g : Gt} {M : Mem} {Q : Int32 → Mem → Prop} (h : w_X5_readToken M Q) : MI l yX5_readToken cX5_readToken 1 (some .boolean) 1 24 g layX 68 [.ref (ga g 24)] M Q :=
  m_of (by decide +kernel) (Nat.le_of_ble_eq_true rfl) (fun p e s m args below meth c ls C hr hk w hl => by
    have C : Cx p s m args c cX5_readToken 1 RX5 g := C
    have hl : lv_has ls 1 [(0, .ref (ga g 24))] := hl
    unfold w_X5_readToken at h
    obtain ⟨H, eH⟩ : ∃ H : Heap, H = s.heap := ⟨_, rfl⟩
    obtain ⟨locs, el⟩ : ∃ locs : List Loc, locs = [] := ⟨_, rfl⟩
    have w : Wd g layX 68 s.heap M H locs := by rw [eH, el]; exact w
    suffices hw : W p l e (rmOf 1 24) s m args below meth c H locs 0 0 (MQ below (va_Qi Q (PostW g layX 68) (gF g)) args s 0 0 (gF g)) (F0 m 0 ls []) by rw [eH, el] at hw; exact hw
    clear eH el
    refine lv_aload_n C.1.1 C.1.2.1 dX5_readToken_0 rfl (lv_at hl 0 rfl) ?_
    refine lv_aload_n C.1.1 C.1.2.1 dX5_readToken_1 rfl (lv_at hl 0 rfl) ?_
    refine lv_aload_n C.1.1 C.1.2.1 dX5_readToken_2 rfl (lv_at hl 0 rfl) ?_
    refine gi_RX5_21 C w hx_24 lx_24 rfl dX5_readToken_3 ?_
    refine lv_bipush (v := 32) C.1.1 C.1.2.1 dX5_readToken_6 (by decide) ?_
    refine lv_bipush (v := 32) C.1.1 C.1.2.1 dX5_readToken_8 (by decide) ?_
    refine q_pVi C w [.int (M 24 3), .int 32, .int 32] (c_X5_placeBehindAll  h) kv_X5_placeBehindAll k_27 (rcv C w kc_X5 hx_24 lx_24) rfl hl.1 (Nat.le_of_ble_eq_true rfl) ⟨Nat.le_of_ble_eq_true rfl, Nat.le_of_ble_eq_true rfl⟩ dX5_readToken_10 (fun r1 H locs h w => ?_)
    refine pi_RX5_105 C w hx_24 lx_24 rfl dX5_readToken_13 (fun M2 H locs eM2 w => ?_)
    replace h := h M2 eM2
    refine lv_aload_n C.1.1 C.1.2.1 dX5_readToken_16 rfl (lv_at hl 0 rfl) ?_
    refine gi_RX5_105 C w hx_24 lx_24 rfl dX5_readToken_17 ?_
    refine lv_aload_n C.1.1 C.1.2.1 dX5_readToken_20 rfl (lv_at hl 0 rfl) ?_
    refine gr_RX5_10 C w hx_24 lx_24 rfl dX5_readToken_21 ?_
    refine gi_RX5_108 C w hx_22 lx_22 rfl dX5_readToken_24 ?_
    refine lv_icmp_lt (tgt := 56) C.1.1 C.1.2.1 dX5_readToken_27 (by decide) (fun hc3 => ?_) (fun hc3 => ?_)
    · replace h := h.1 hc3
      refine lv_aload_n C.1.1 C.1.2.1 dX5_readToken_56 rfl (lv_at hl 0 rfl) ?_
      refine gr_RX5_10 C w hx_24 lx_24 rfl dX5_readToken_57 ?_
      refine lv_aload_n C.1.1 C.1.2.1 dX5_readToken_60 rfl (lv_at hl 0 rfl) ?_
      refine gi_RX5_105 C w hx_24 lx_24 rfl dX5_readToken_61 ?_
      refine lv_bipush (v := 97) C.1.1 C.1.2.1 dX5_readToken_64 (by decide) ?_
      refine lv_bipush (v := 122) C.1.1 C.1.2.1 dX5_readToken_66 (by decide) ?_
      refine q_pVi C w [.int (M2 24 2), .int 97, .int 122] (c_X4_isBetween  h) kv_X4_isBetween k_28 (rcv C w kc_X4 hx_22 lx_22) rfl hl.1 (Nat.le_of_ble_eq_true rfl) ⟨Nat.le_of_ble_eq_true rfl, Nat.le_of_ble_eq_true rfl⟩ dX5_readToken_68 (fun r4 H locs h w => ?_)
      refine lv_if_eq (tgt := 97) C.1.1 C.1.2.1 dX5_readToken_71 (by decide) (fun hc5 => ?_) (fun hc5 => ?_)
      · replace h := h.1 hc5
        refine lv_aload_n C.1.1 C.1.2.1 dX5_readToken_97 rfl (lv_at hl 0 rfl) ?_
        refine gr_RX5_10 C w hx_24 lx_24 rfl dX5_readToken_98 ?_
        refine lv_aload_n C.1.1 C.1.2.1 dX5_readToken_101 rfl (lv_at hl 0 rfl) ?_
        refine gi_RX5_105 C w hx_24 lx_24 rfl dX5_readToken_102 ?_
        refine lv_bipush (v := 48) C.1.1 C.1.2.1 dX5_readToken_105 (by decide) ?_
        refine lv_bipush (v := 57) C.1.1 C.1.2.1 dX5_readToken_107 (by decide) ?_
        refine q_pVi C w [.int (M2 24 2), .int 48, .int 57] (c_X4_isBetween  h) kv_X4_isBetween k_28 (rcv C w kc_X4 hx_22 lx_22) rfl hl.1 (Nat.le_of_ble_eq_true rfl) ⟨Nat.le_of_ble_eq_true rfl, Nat.le_of_ble_eq_true rfl⟩ dX5_readToken_109 (fun r6 H locs h w => ?_)
        refine lv_if_eq (tgt := 157) C.1.1 C.1.2.1 dX5_readToken_112 (by decide) (fun hc7 => ?_) (fun hc7 => ?_)
        · replace h := h.1 hc7
          refine lv_aload_n C.1.1 C.1.2.1 dX5_readToken_157 rfl (lv_at hl 0 rfl) ?_
          refine lv_aload_n C.1.1 C.1.2.1 dX5_readToken_158 rfl (lv_at hl 0 rfl) ?_
          refine gi_RX5_105 C w hx_24 lx_24 rfl dX5_readToken_159 ?_
          refine lv_iconst (v := 1) C.1.1 C.1.2.1 dX5_readToken_162 (by decide) ?_
          refine lv_iadd C.1.1 C.1.2.1 dX5_readToken_163 ?_
          refine pi_RX5_21 C w hx_24 lx_24 rfl dX5_readToken_164 (fun M8 H locs eM8 w => ?_)
          replace h := h M8 eM8
          refine lv_aload_n C.1.1 C.1.2.1 dX5_readToken_167 rfl (lv_at hl 0 rfl) ?_
          refine lv_iconst (v := 3) C.1.1 C.1.2.1 dX5_readToken_168 (by decide) ?_
          refine pi_RX5_38 C w hx_24 lx_24 rfl dX5_readToken_169 (fun M9 H locs eM9 w => ?_)
          replace h := h M9 eM9
          refine lv_aload_n C.1.1 C.1.2.1 dX5_readToken_172 rfl (lv_at hl 0 rfl) ?_
          refine gr_RX5_10 C w hx_24 lx_24 rfl dX5_readToken_173 ?_
          refine lv_aload_n C.1.1 C.1.2.1 dX5_readToken_176 rfl (lv_at hl 0 rfl) ?_
          refine gi_RX5_105 C w hx_24 lx_24 rfl dX5_readToken_177 ?_
          refine lv_bipush (v := 59) C.1.1 C.1.2.1 dX5_readToken_180 (by decide) ?_
          refine lv_bipush (v := 59) C.1.1 C.1.2.1 dX5_readToken_182 (by decide) ?_
          refine q_pVi C w [.int (M9 24 2), .int 59, .int 59] (c_X4_isBetween  h) kv_X4_isBetween k_28 (rcv C w kc_X4 hx_22 lx_22) rfl hl.1 (Nat.le_of_ble_eq_true rfl) ⟨Nat.le_of_ble_eq_true rfl, Nat.le_of_ble_eq_true rfl⟩ dX5_readToken_184 (fun r10 H locs h w => ?_)
          refine lv_if_ne (tgt := 198) C.1.1 C.1.2.1 dX5_readToken_187 (by decide) (fun hc11 => ?_) (fun hc11 => ?_)
          · replace h := h.2 hc11
            refine lv_iconst (v := 1) C.1.1 C.1.2.1 dX5_readToken_198 (by decide) ?_
            refine lv_goto (tgt := 203) C.1.1 C.1.2.1 dX5_readToken_199 (by decide) ?_
            exact q_iret C hr hk w rfl h dX5_readToken_203
          · replace h := h.1 hc11
            refine lv_aload_n C.1.1 C.1.2.1 dX5_readToken_190 rfl (lv_at hl 0 rfl) ?_
            refine lv_iconst (v := 1) C.1.1 C.1.2.1 dX5_readToken_191 (by decide) ?_
            refine q_cVi C w [.int 1] (c_X5_refuse  h) kv_X5_refuse k_29 (rcv C w kc_X5 hx_24 lx_24) rfl hl.1 (Nat.le_of_ble_eq_true rfl) ⟨Nat.le_of_ble_eq_true rfl, Nat.le_of_ble_eq_true rfl⟩ dX5_readToken_192 (fun r12 M13 H locs h w => ?_)
            refine lv_if_eq (tgt := 202) C.1.1 C.1.2.1 dX5_readToken_195 (by decide) (fun hc14 => ?_) (fun hc14 => ?_)
            · replace h := h.1 hc14
              refine lv_iconst (v := 0) C.1.1 C.1.2.1 dX5_readToken_202 (by decide) ?_
              exact q_iret C hr hk w rfl h dX5_readToken_203
            · replace h := h.2 hc14
              refine lv_iconst (v := 1) C.1.1 C.1.2.1 dX5_readToken_198 (by decide) ?_
              refine lv_goto (tgt := 203) C.1.1 C.1.2.1 dX5_readToken_199 (by decide) ?_
              exact q_iret C hr hk w rfl h dX5_readToken_203
        · replace h := h.2 hc7
          refine lv_aload_n C.1.1 C.1.2.1 dX5_readToken_115 rfl (lv_at hl 0 rfl) ?_
          refine lv_aload_n C.1.1 C.1.2.1 dX5_readToken_116 rfl (lv_at hl 0 rfl) ?_
          refine lv_aload_n C.1.1 C.1.2.1 dX5_readToken_117 rfl (lv_at hl 0 rfl) ?_
          refine gi_RX5_105 C w hx_24 lx_24 rfl dX5_readToken_118 ?_
          refine lv_bipush (v := 48) C.1.1 C.1.2.1 dX5_readToken_121 (by decide) ?_
          refine lv_bipush (v := 57) C.1.1 C.1.2.1 dX5_readToken_123 (by decide) ?_
          refine q_pVi C w [.int (M2 24 2), .int 48, .int 57] (c_X5_placeBehindAll  h) kv_X5_placeBehindAll k_27 (rcv C w kc_X5 hx_24 lx_24) rfl hl.1 (Nat.le_of_ble_eq_true rfl) ⟨Nat.le_of_ble_eq_true rfl, Nat.le_of_ble_eq_true rfl⟩ dX5_readToken_125 (fun r15 H locs h w => ?_)
          refine pi_RX5_21 C w hx_24 lx_24 rfl dX5_readToken_128 (fun M16 H locs eM16 w => ?_)
          replace h := h M16 eM16
          refine lv_aload_n C.1.1 C.1.2.1 dX5_readToken_131 rfl (lv_at hl 0 rfl) ?_
          refine lv_iconst (v := 2) C.1.1 C.1.2.1 dX5_readToken_132 (by decide) ?_
          refine pi_RX5_38 C w hx_24 lx_24 rfl dX5_readToken_133 (fun M17 H locs eM17 w => ?_)
          replace h := h M17 eM17
          refine lv_aload_n C.1.1 C.1.2.1 dX5_readToken_136 rfl (lv_at hl 0 rfl) ?_
          refine q_cVi C w [] (c_X5_takeFigures  h) kv_X5_takeFigures k_30 (rcv C w kc_X5 hx_24 lx_24) rfl hl.1 (Nat.le_of_ble_eq_true rfl) ⟨Nat.le_of_ble_eq_true rfl, Nat.le_of_ble_eq_true rfl⟩ dX5_readToken_137 (fun r18 M19 H locs h w => ?_)
          refine lv_if_ne (tgt := 151) C.1.1 C.1.2.1 dX5_readToken_140 (by decide) (fun hc20 => ?_) (fun hc20 => ?_)
          · replace h := h.2 hc20
            refine lv_iconst (v := 1) C.1.1 C.1.2.1 dX5_readToken_151 (by decide) ?_
            refine lv_goto (tgt := 156) C.1.1 C.1.2.1 dX5_readToken_152 (by decide) ?_
            exact q_iret C hr hk w rfl h dX5_readToken_156
          · replace h := h.1 hc20
            refine lv_aload_n C.1.1 C.1.2.1 dX5_readToken_143 rfl (lv_at hl 0 rfl) ?_
            refine lv_iconst (v := 1) C.1.1 C.1.2.1 dX5_readToken_144 (by decide) ?_
            refine q_cVi C w [.int 1] (c_X5_refuse  h) kv_X5_refuse k_29 (rcv C w kc_X5 hx_24 lx_24) rfl hl.1 (Nat.le_of_ble_eq_true rfl) ⟨Nat.le_of_ble_eq_true rfl, Nat.le_of_ble_eq_true rfl⟩ dX5_readToken_145 (fun r21 M22 H locs h w => ?_)
            refine lv_if_eq (tgt := 155) C.1.1 C.1.2.1 dX5_readToken_148 (by decide) (fun hc23 => ?_) (fun hc23 => ?_)
            · replace h := h.1 hc23
              refine lv_iconst (v := 0) C.1.1 C.1.2.1 dX5_readToken_155 (by decide) ?_
              exact q_iret C hr hk w rfl h dX5_readToken_156
            · replace h := h.2 hc23
              refine lv_iconst (v := 1) C.1.1 C.1.2.1 dX5_readToken_151 (by decide) ?_
              refine lv_goto (tgt := 156) C.1.1 C.1.2.1 dX5_readToken_152 (by decide) ?_
              exact q_iret C hr hk w rfl h dX5_readToken_156
      · replace h := h.2 hc5
        refine lv_aload_n C.1.1 C.1.2.1 dX5_readToken_74 rfl (lv_at hl 0 rfl) ?_
        refine lv_aload_n C.1.1 C.1.2.1 dX5_readToken_75 rfl (lv_at hl 0 rfl) ?_
        refine lv_aload_n C.1.1 C.1.2.1 dX5_readToken_76 rfl (lv_at hl 0 rfl) ?_
        refine gi_RX5_105 C w hx_24 lx_24 rfl dX5_readToken_77 ?_
        refine lv_bipush (v := 97) C.1.1 C.1.2.1 dX5_readToken_80 (by decide) ?_
        refine lv_bipush (v := 122) C.1.1 C.1.2.1 dX5_readToken_82 (by decide) ?_
        refine q_pVi C w [.int (M2 24 2), .int 97, .int 122] (c_X5_placeBehindAll  h) kv_X5_placeBehindAll k_27 (rcv C w kc_X5 hx_24 lx_24) rfl hl.1 (Nat.le_of_ble_eq_true rfl) ⟨Nat.le_of_ble_eq_true rfl, Nat.le_of_ble_eq_true rfl⟩ dX5_readToken_84 (fun r24 H locs h w => ?_)
        refine pi_RX5_21 C w hx_24 lx_24 rfl dX5_readToken_87 (fun M25 H locs eM25 w => ?_)
        replace h := h M25 eM25
        refine lv_aload_n C.1.1 C.1.2.1 dX5_readToken_90 rfl (lv_at hl 0 rfl) ?_
        refine lv_iconst (v := 1) C.1.1 C.1.2.1 dX5_readToken_91 (by decide) ?_
        refine pi_RX5_38 C w hx_24 lx_24 rfl dX5_readToken_92 (fun M26 H locs eM26 w => ?_)
        replace h := h M26 eM26
        refine lv_iconst (v := 1) C.1.1 C.1.2.1 dX5_readToken_95 (by decide) ?_
        exact q_iret C hr hk w rfl h dX5_readToken_96
    · replace h := h.2 hc3
      refine lv_aload_n C.1.1 C.1.2.1 dX5_readToken_30 rfl (lv_at hl 0 rfl) ?_
      refine lv_aload_n C.1.1 C.1.2.1 dX5_readToken_31 rfl (lv_at hl 0 rfl) ?_
      refine gr_RX5_10 C w hx_24 lx_24 rfl dX5_readToken_32 ?_
      refine gi_RX5_108 C w hx_22 lx_22 rfl dX5_readToken_35 ?_
      refine pi_RX5_105 C w hx_24 lx_24 rfl dX5_readToken_38 (fun M27 H locs eM27 w => ?_)
      replace h := h M27 eM27
      refine lv_aload_n C.1.1 C.1.2.1 dX5_readToken_41 rfl (lv_at hl 0 rfl) ?_
      refine lv_aload_n C.1.1 C.1.2.1 dX5_readToken_42 rfl (lv_at hl 0 rfl) ?_
      refine gi_RX5_105 C w hx_24 lx_24 rfl dX5_readToken_43 ?_
      refine pi_RX5_21 C w hx_24 lx_24 rfl dX5_readToken_46 (fun M28 H locs eM28 w => ?_)
      replace h := h M28 eM28
      refine lv_aload_n C.1.1 C.1.2.1 dX5_readToken_49 rfl (lv_at hl 0 rfl) ?_
      refine lv_iconst (v := 0) C.1.1 C.1.2.1 dX5_readToken_50 (by decide) ?_
      refine pi_RX5_38 C w hx_24 lx_24 rfl dX5_readToken_51 (fun M29 H locs eM29 w => ?_)
      replace h := h M29 eM29
      refine lv_iconst (v := 1) C.1.1 C.1.2.1 dX5_readToken_54 (by decide) ?_
      exact q_iret C hr hk w rfl h dX5_readToken_55)
-- nameOfKind
set_option maxHeartbeats 4000000 in
set_option maxRecDepth 100000 in
theorem c_X5_nameOfKind {l : Launch} {g : Gt} {x0 : Int32} {M : Mem} {Q : Nat → Prop} (h : w_X5_nameOfKind x0 M Q) : MT l yX5_nameOfKind cX5_nameOfKind 1 (some (.object "java/lang/String")) 0 0 g layX 68 [.int x0] M (fun r M9 => M9 = M ∧ Q r) :=
  m_of (by decide +kernel) (Nat.le_of_ble_eq_true rfl) (fun p e s m args below meth c ls C hr hk w hl => by
    have C : Cx p s m args c cX5_nameOfKind 1 RX5 g := C
    have hl : lv_has ls 1 [(0, .int x0)] := hl
    unfold w_X5_nameOfKind at h
    obtain ⟨H, eH⟩ : ∃ H : Heap, H = s.heap := ⟨_, rfl⟩
    obtain ⟨locs, el⟩ : ∃ locs : List Loc, locs = [] := ⟨_, rfl⟩
    have w : Wd g layX 68 s.heap M H locs := by rw [eH, el]; exact w
    suffices hw : W p l e (rmOf 0 0) s m args below meth c H locs 0 0 (MQ below (va_Qr (fun u : Nat × Mem => (fun r M9 => M9 = M ∧ Q r) u.1 u.2) (fun u a t => a = gK g u.1 ∧ PostW g layX 68 u.2 t) (gF g)) args s 0 0 (gF g)) (F0 m 0 ls []) by rw [eH, el] at hw; exact hw
    clear eH el
    refine lv_iload_n C.1.1 C.1.2.1 dX5_nameOfKind_0 rfl (lv_at hl 0 rfl) ?_
    by_cases hc1 : x0 = 0
    · replace h := h.1 hc1
      refine q_tin C (off := 27) (tgt := 28) dX5_nameOfKind_1 hc1 (by decide) (by decide) (by decide) (by decide) ?_
      refine q_ldS C (i := 0) C.2.2.2.1 dX5_nameOfKind_28 ?_
      exact q_tret (Q := (fun r M9 => M9 = M ∧ Q r)) C hr hk w ⟨rfl, h⟩ dX5_nameOfKind_30
    replace h := h.2 hc1
    by_cases hc2 : x0 = 1
    · replace h := h.1 hc2
      refine q_tin C (off := 30) (tgt := 31) dX5_nameOfKind_1 hc2 (by decide) (by decide) (by decide) (by decide) ?_
      refine q_ldS C (i := 1) C.2.2.2.2.1 dX5_nameOfKind_31 ?_
      exact q_tret (Q := (fun r M9 => M9 = M ∧ Q r)) C hr hk w ⟨rfl, h⟩ dX5_nameOfKind_33
    replace h := h.2 hc2
    by_cases hc3 : x0 = 2
    · replace h := h.1 hc3
      refine q_tin C (off := 33) (tgt := 34) dX5_nameOfKind_1 hc3 (by decide) (by decide) (by decide) (by decide) ?_
      refine q_ldS C (i := 2) C.2.2.2.2.2.1 dX5_nameOfKind_34 ?_
      exact q_tret (Q := (fun r M9 => M9 = M ∧ Q r)) C hr hk w ⟨rfl, h⟩ dX5_nameOfKind_36
    replace h := h.2 hc3
    have nhc1 : ¬ x0.toInt = 0 := lv_neT hc1 (by decide)
    have nhc2 : ¬ x0.toInt = 1 := lv_neT hc2 (by decide)
    have nhc3 : ¬ x0.toInt = 2 := lv_neT hc3 (by decide)
    refine q_tout C (tgt := 37) dX5_nameOfKind_1 (by omega) (by decide) ?_
    refine q_ldS C (i := 3) C.2.2.2.2.2.2.1 dX5_nameOfKind_37 ?_
    exact q_tret (Q := (fun r M9 => M9 = M ∧ Q r)) C hr hk w ⟨rfl, h⟩ dX5_nameOfKind_39)
-- isName
set_option maxHeartbeats 4000000 in
set_option maxRecDepth 100000 in
theorem v_X5_isName_28 {i : Nat} {x2 : Int32} {M : Mem} {K28 : Int32 → Prop} {Q : Int32 → Prop} {H : Heap} {locs : List Loc} {ls : Array Slot} (C : Cx p s m args c cX5_isName 3 RX5 g) (hr : meth.sig.returnType = (some .boolean)) (hk : meth.locks = false) (hI : i < 6) (hK28 : ∀ (x2 : Int32) (H : Heap) (locs : List Loc) (ls : Array Slot), K28 x2 → Wd g layX 68 s.heap M H locs → lv_has ls 3 [(0, .ref (ga g 24)), (1, .ref (gK g i)), (2, .int x2)] → W p l e (rmOf 4 85) s m args below meth c H locs 0 0 (MQ below (va_Qi (fun r M9 => M9 = M ∧ Q r) (PostW g layX 68) (gF g)) args s 0 0 (gF g)) (F0 m 28 ls [])) (h : w_X5_isName_28 i M Q K28 x2) (w : Wd g layX 68 s.heap M H locs) (hl : lv_has ls 3 [(0, .ref (ga g 24)), (1, .ref (gK g i)), (2, .int x2)]) : W p l e (rmOf 4 85) s m args below meth c H locs 0 0 (MQ below (va_Qi (fun r M9 => M9 = M ∧ Q r) (PostW g layX 68) (gF g)) args s 0 0 (gF g)) (F0 m 28 ls []) := by
  unfold w_X5_isName_28 at h
  refine lv_iload_n C.1.1 C.1.2.1 dX5_isName_28 rfl (lv_at hl 2 rfl) ?_
  refine lv_aload_n C.1.1 C.1.2.1 dX5_isName_29 rfl (lv_at hl 1 rfl) ?_
  refine q_pVi C w [] (c_J0_length_8abf5 hI h) kv_J0_length_8abf5 k_31 (rcvT C w hI) rfl hl.1 (Nat.le_of_ble_eq_true rfl) ⟨Nat.le_of_ble_eq_true rfl, Nat.le_of_ble_eq_true rfl⟩ dX5_isName_30 (fun r4 H locs h w => ?_)
  refine lv_icmp_ge (tgt := 70) C.1.1 C.1.2.1 dX5_isName_33 (by decide) (fun hc5 => ?_) (fun hc5 => ?_)
  · replace h := h.1 hc5
    refine lv_iconst (v := 1) C.1.1 C.1.2.1 dX5_isName_70 (by decide) ?_
    exact q_iret C hr hk w rfl ⟨rfl, h⟩ dX5_isName_71
  · replace h := h.2 hc5
    refine lv_aload_n C.1.1 C.1.2.1 dX5_isName_36 rfl (lv_at hl 0 rfl) ?_
    refine gr_RX5_10 C w hx_24 lx_24 rfl dX5_isName_37 ?_
    refine lv_aload_n C.1.1 C.1.2.1 dX5_isName_40 rfl (lv_at hl 0 rfl) ?_
    refine gi_RX5_105 C w hx_24 lx_24 rfl dX5_isName_41 ?_
    refine lv_iload_n C.1.1 C.1.2.1 dX5_isName_44 rfl (lv_at hl 2 rfl) ?_
    refine lv_iadd C.1.1 C.1.2.1 dX5_isName_45 ?_
    refine lv_aload_n C.1.1 C.1.2.1 dX5_isName_46 rfl (lv_at hl 1 rfl) ?_
    refine lv_iload_n C.1.1 C.1.2.1 dX5_isName_47 rfl (lv_at hl 2 rfl) ?_
    refine q_pVi C w [.int x2] (c_J0_charAt_5068e hI h) kv_J0_charAt_5068e k_32 (rcvT C w hI) rfl hl.1 (Nat.le_of_ble_eq_true rfl) ⟨Nat.le_of_ble_eq_true rfl, Nat.le_of_ble_eq_true rfl⟩ dX5_isName_48 (fun r6 H locs h w => ?_)
    refine lv_aload_n C.1.1 C.1.2.1 dX5_isName_51 rfl (lv_at hl 1 rfl) ?_
    refine lv_iload_n C.1.1 C.1.2.1 dX5_isName_52 rfl (lv_at hl 2 rfl) ?_
    refine q_pVi C w [.int x2] (c_J0_charAt_5068e hI h) kv_J0_charAt_5068e k_32 (rcvT C w hI) rfl hl.1 (Nat.le_of_ble_eq_true rfl) ⟨Nat.le_of_ble_eq_true rfl, Nat.le_of_ble_eq_true rfl⟩ dX5_isName_53 (fun r7 H locs h w => ?_)
    refine q_pVi C w [.int ((M 24 2) + x2), .int r6, .int r7] (c_X4_isBetween  h) kv_X4_isBetween k_28 (rcv C w kc_X4 hx_22 lx_22) rfl hl.1 (Nat.le_of_ble_eq_true rfl) ⟨Nat.le_of_ble_eq_true rfl, Nat.le_of_ble_eq_true rfl⟩ dX5_isName_56 (fun r8 H locs h w => ?_)
    refine lv_if_ne (tgt := 64) C.1.1 C.1.2.1 dX5_isName_59 (by decide) (fun hc9 => ?_) (fun hc9 => ?_)
    · replace h := h.2 hc9
      refine lv_iinc (v := x2 + 1) (lv' := [(2, .int (x2 + 1)), (0, .ref (ga g 24)), (1, .ref (gK g i))]) C.1.1 C.1.2.1 dX5_isName_64 hl (k := 2) rfl rfl (by decide) rfl (fun ls hl => ?_)
      refine lv_goto (tgt := 28) C.1.1 C.1.2.1 dX5_isName_67 (by decide) ?_
      exact hK28 _ _ _ _ h w (lv_sub hl [1, 2, 0] rfl)
    · replace h := h.1 hc9
      refine lv_iconst (v := 0) C.1.1 C.1.2.1 dX5_isName_62 (by decide) ?_
      exact q_iret C hr hk w rfl ⟨rfl, h⟩ dX5_isName_63
set_option maxHeartbeats 4000000 in
set_option maxRecDepth 100000 in
theorem l_X5_isName_28 {i : Nat} {M : Mem} {Q : Int32 → Prop} (C : Cx p s m args c cX5_isName 3 RX5 g) (hr : meth.sig.returnType = (some .boolean)) (hk : meth.locks = false) (hI : i < 6)  : ∀ (n : Nat) (x2 : Int32) (H : Heap) (locs : List Loc) (ls : Array Slot), fu1 (w_X5_isName_28 i M Q) n x2 → Wd g layX 68 s.heap M H locs → lv_has ls 3 [(0, .ref (ga g 24)), (1, .ref (gK g i)), (2, .int x2)] → W p l e (rmOf 4 85) s m args below meth c H locs 0 0 (MQ below (va_Qi (fun r M9 => M9 = M ∧ Q r) (PostW g layX 68) (gF g)) args s 0 0 (gF g)) (F0 m 28 ls []) := by
  intro n
  induction n with
  | zero => intro x2 H locs ls h; exact h.elim
  | succ n ih => intro x2 H locs ls h w hl; exact v_X5_isName_28 C hr hk hI  ih h w hl
set_option maxHeartbeats 4000000 in
set_option maxRecDepth 100000 in
theorem c_X5_isName {l : Launch} {g : Gt} {i : Nat} {M : Mem} {Q : Int32 → Prop} (hI : i < 6) (h : w_X5_isName i M Q) : MI l yX5_isName cX5_isName 3 (some .boolean) 4 85 g layX 68 [.ref (ga g 24), .ref (gK g i)] M (fun r M9 => M9 = M ∧ Q r) :=
  m_of (by decide +kernel) (Nat.le_of_ble_eq_true rfl) (fun p e s m args below meth c ls C hr hk w hl => by
    have C : Cx p s m args c cX5_isName 3 RX5 g := C
    have hl : lv_has ls 3 [(0, .ref (ga g 24)), (1, .ref (gK g i))] := hl
    unfold w_X5_isName at h
    obtain ⟨H, eH⟩ : ∃ H : Heap, H = s.heap := ⟨_, rfl⟩
    obtain ⟨locs, el⟩ : ∃ locs : List Loc, locs = [] := ⟨_, rfl⟩
    have w : Wd g layX 68 s.heap M H locs := by rw [eH, el]; exact w
    suffices hw : W p l e (rmOf 4 85) s m args below meth c H locs 0 0 (MQ below (va_Qi (fun r M9 => M9 = M ∧ Q r) (PostW g layX 68) (gF g)) args s 0 0 (gF g)) (F0 m 0 ls []) by rw [eH, el] at hw; exact hw
    clear eH el
    refine lv_aload_n C.1.1 C.1.2.1 dX5_isName_0 rfl (lv_at hl 0 rfl) ?_
    refine gi_RX5_38 C w hx_24 lx_24 rfl dX5_isName_1 ?_
    refine lv_iconst (v := 1) C.1.1 C.1.2.1 dX5_isName_4 (by decide) ?_
    refine lv_icmp_ne (tgt := 24) C.1.1 C.1.2.1 dX5_isName_5 (by decide) (fun hc1 => ?_) (fun hc1 => ?_)
    · replace h := h.2 hc1
      refine lv_iconst (v := 0) C.1.1 C.1.2.1 dX5_isName_24 (by decide) ?_
      exact q_iret C hr hk w rfl ⟨rfl, h⟩ dX5_isName_25
    · replace h := h.1 hc1
      refine lv_aload_n C.1.1 C.1.2.1 dX5_isName_8 rfl (lv_at hl 0 rfl) ?_
      refine gi_RX5_21 C w hx_24 lx_24 rfl dX5_isName_9 ?_
      refine lv_aload_n C.1.1 C.1.2.1 dX5_isName_12 rfl (lv_at hl 0 rfl) ?_
      refine gi_RX5_105 C w hx_24 lx_24 rfl dX5_isName_13 ?_
      refine lv_isub C.1.1 C.1.2.1 dX5_isName_16 ?_
      refine lv_aload_n C.1.1 C.1.2.1 dX5_isName_17 rfl (lv_at hl 1 rfl) ?_
      refine q_pVi C w [] (c_J0_length_8abf5 hI h) kv_J0_length_8abf5 k_31 (rcvT C w hI) rfl hl.1 (Nat.le_of_ble_eq_true rfl) ⟨Nat.le_of_ble_eq_true rfl, Nat.le_of_ble_eq_true rfl⟩ dX5_isName_18 (fun r2 H locs h w => ?_)
      refine lv_icmp_eq (tgt := 26) C.1.1 C.1.2.1 dX5_isName_21 (by decide) (fun hc3 => ?_) (fun hc3 => ?_)
      · replace h := h.1 hc3
        refine lv_iconst (v := 0) C.1.1 C.1.2.1 dX5_isName_26 (by decide) ?_
        refine lv_istore_n (lv' := [(2, .int 0), (0, .ref (ga g 24)), (1, .ref (gK g i))]) C.1.1 C.1.2.1 dX5_isName_27 rfl hl (by decide) rfl (fun ls hl => ?_)
        obtain ⟨n, h⟩ := h
        exact l_X5_isName_28 C hr hk hI  n _ _ _ _ h w (lv_sub hl [1, 2, 0] rfl)
      · replace h := h.2 hc3
        refine lv_iconst (v := 0) C.1.1 C.1.2.1 dX5_isName_24 (by decide) ?_
        exact q_iret C hr hk w rfl ⟨rfl, h⟩ dX5_isName_25)
-- readNumber
set_option maxHeartbeats 4000000 in
set_option maxRecDepth 100000 in
theorem v_X5_readNumber_39 {M : Mem} {Q : Int32 → Mem → Prop} {H : Heap} {locs : List Loc} {ls : Array Slot} (C : Cx p s m args c cX5_readNumber 3 RX5 g) (hr : meth.sig.returnType = (some .boolean)) (hk : meth.locks = false)  (h : w_X5_readNumber_39 M Q) (w : Wd g layX 68 s.heap M H locs) (hl : lv_has ls 3 [(0, .ref (ga g 24))]) : W p l e (rmOf 2 44) s m args below meth c H locs 0 0 (MQ below (va_Qi Q (PostW g layX 68) (gF g)) args s 0 0 (gF g)) (F0 m 39 ls []) := by
  unfold w_X5_readNumber_39 at h
  refine lv_aload_n C.1.1 C.1.2.1 dX5_readNumber_39 rfl (lv_at hl 0 rfl) ?_
  refine lv_iconst (v := 3) C.1.1 C.1.2.1 dX5_readNumber_40 (by decide) ?_
  refine q_cVi C w [.int 3] (c_X5_refuse  h) kv_X5_refuse k_29 (rcv C w kc_X5 hx_24 lx_24) rfl hl.1 (Nat.le_of_ble_eq_true rfl) ⟨Nat.le_of_ble_eq_true rfl, Nat.le_of_ble_eq_true rfl⟩ dX5_readNumber_41 (fun r6 M7 H locs h w => ?_)
  refine lv_if_eq (tgt := 51) C.1.1 C.1.2.1 dX5_readNumber_44 (by decide) (fun hc8 => ?_) (fun hc8 => ?_)
  · replace h := h.1 hc8
    refine lv_iconst (v := 0) C.1.1 C.1.2.1 dX5_readNumber_51 (by decide) ?_
    exact q_iret C hr hk w rfl h dX5_readNumber_52
  · replace h := h.2 hc8
    refine lv_iconst (v := 1) C.1.1 C.1.2.1 dX5_readNumber_47 (by decide) ?_
    refine lv_goto (tgt := 52) C.1.1 C.1.2.1 dX5_readNumber_48 (by decide) ?_
    exact q_iret C hr hk w rfl h dX5_readNumber_52
set_option maxHeartbeats 4000000 in
set_option maxRecDepth 100000 in
theorem c_X5_readNumber {l : Launch} {g : Gt} {x1 : Int32} {x2 : Int32} {M : Mem} {Q : Int32 → Mem → Prop} (h : w_X5_readNumber x1 x2 M Q) : MI l yX5_readNumber cX5_readNumber 3 (some .boolean) 2 44 g layX 68 [.ref (ga g 24), .int x1, .int x2] M Q :=
  m_of (by decide +kernel) (Nat.le_of_ble_eq_true rfl) (fun p e s m args below meth c ls C hr hk w hl => by
    have C : Cx p s m args c cX5_readNumber 3 RX5 g := C
    have hl : lv_has ls 3 [(0, .ref (ga g 24)), (1, .int x1), (2, .int x2)] := hl
    unfold w_X5_readNumber at h
    obtain ⟨H, eH⟩ : ∃ H : Heap, H = s.heap := ⟨_, rfl⟩
    obtain ⟨locs, el⟩ : ∃ locs : List Loc, locs = [] := ⟨_, rfl⟩
    have w : Wd g layX 68 s.heap M H locs := by rw [eH, el]; exact w
    suffices hw : W p l e (rmOf 2 44) s m args below meth c H locs 0 0 (MQ below (va_Qi Q (PostW g layX 68) (gF g)) args s 0 0 (gF g)) (F0 m 0 ls []) by rw [eH, el] at hw; exact hw
    clear eH el
    refine lv_aload_n C.1.1 C.1.2.1 dX5_readNumber_0 rfl (lv_at hl 0 rfl) ?_
    refine q_cVi C w [] (c_X5_readToken  h) kv_X5_readToken k_33 (rcv C w kc_X5 hx_24 lx_24) rfl hl.1 (Nat.le_of_ble_eq_true rfl) ⟨Nat.le_of_ble_eq_true rfl, Nat.le_of_ble_eq_true rfl⟩ dX5_readNumber_1 (fun r1 M2 H locs h w => ?_)
    refine lv_if_ne (tgt := 9) C.1.1 C.1.2.1 dX5_readNumber_4 (by decide) (fun hc3 => ?_) (fun hc3 => ?_)
    · replace h := h.2 hc3
      refine lv_aload_n C.1.1 C.1.2.1 dX5_readNumber_9 rfl (lv_at hl 0 rfl) ?_
      refine gi_RX5_38 C w hx_24 lx_24 rfl dX5_readNumber_10 ?_
      refine lv_iconst (v := 2) C.1.1 C.1.2.1 dX5_readNumber_13 (by decide) ?_
      refine lv_icmp_eq (tgt := 23) C.1.1 C.1.2.1 dX5_readNumber_14 (by decide) (fun hc4 => ?_) (fun hc4 => ?_)
      · replace h := h.1 hc4
        refine lv_aload_n C.1.1 C.1.2.1 dX5_readNumber_23 rfl (lv_at hl 0 rfl) ?_
        refine gi_RX5_81 C w hx_24 lx_24 rfl dX5_readNumber_24 ?_
        refine lv_iload_n C.1.1 C.1.2.1 dX5_readNumber_27 rfl (lv_at hl 1 rfl) ?_
        refine lv_icmp_lt (tgt := 39) C.1.1 C.1.2.1 dX5_readNumber_28 (by decide) (fun hc5 => ?_) (fun hc5 => ?_)
        · replace h := h.1 hc5
          exact v_X5_readNumber_39 C hr hk   h w (lv_sub hl [0] rfl)
        · replace h := h.2 hc5
          refine lv_aload_n C.1.1 C.1.2.1 dX5_readNumber_31 rfl (lv_at hl 0 rfl) ?_
          refine gi_RX5_81 C w hx_24 lx_24 rfl dX5_readNumber_32 ?_
          refine lv_iload_n C.1.1 C.1.2.1 dX5_readNumber_35 rfl (lv_at hl 2 rfl) ?_
          refine lv_icmp_le (tgt := 47) C.1.1 C.1.2.1 dX5_readNumber_36 (by decide) (fun hc9 => ?_) (fun hc9 => ?_)
          · replace h := h.1 hc9
            refine lv_iconst (v := 1) C.1.1 C.1.2.1 dX5_readNumber_47 (by decide) ?_
            refine lv_goto (tgt := 52) C.1.1 C.1.2.1 dX5_readNumber_48 (by decide) ?_
            exact q_iret C hr hk w rfl h dX5_readNumber_52
          · replace h := h.2 hc9
            exact v_X5_readNumber_39 C hr hk   h w (lv_sub hl [0] rfl)
      · replace h := h.2 hc4
        refine lv_aload_n C.1.1 C.1.2.1 dX5_readNumber_17 rfl (lv_at hl 0 rfl) ?_
        refine lv_iconst (v := 2) C.1.1 C.1.2.1 dX5_readNumber_18 (by decide) ?_
        refine q_cVi C w [.int 2] (c_X5_refuse  h) kv_X5_refuse k_29 (rcv C w kc_X5 hx_24 lx_24) rfl hl.1 (Nat.le_of_ble_eq_true rfl) ⟨Nat.le_of_ble_eq_true rfl, Nat.le_of_ble_eq_true rfl⟩ dX5_readNumber_19 (fun r10 M11 H locs h w => ?_)
        exact q_iret C hr hk w h.1 h.2 dX5_readNumber_22
    · replace h := h.1 hc3
      refine lv_iconst (v := 0) C.1.1 C.1.2.1 dX5_readNumber_7 (by decide) ?_
      exact q_iret C hr hk w rfl h dX5_readNumber_8)
-- readSemicolonBehind
set_option maxHeartbeats 4000000 in
set_option maxRecDepth 100000 in
theorem c_X5_readSemicolonBehind {l : Launch} {g : Gt} {M : Mem} {Q : Int32 → Mem → Prop} (h : w_X5_readSemicolonBehind M Q) : MI l yX5_readSemicolonBehind cX5_readSemicolonBehind 1 (some .boolean) 2 44 g layX 68 [.ref (ga g 24)] M Q :=
  m_of (by decide +kernel) (Nat.le_of_ble_eq_true rfl) (fun p e s m args below meth c ls C hr hk w hl => by
    have C : Cx p s m args c cX5_readSemicolonBehind 1 RX5 g := C
    have hl : lv_has ls 1 [(0, .ref (ga g 24))] := hl
    unfold w_X5_readSemicolonBehind at h
    obtain ⟨H, eH⟩ : ∃ H : Heap, H = s.heap := ⟨_, rfl⟩
    obtain ⟨locs, el⟩ : ∃ locs : List Loc, locs = [] := ⟨_, rfl⟩
    have w : Wd g layX 68 s.heap M H locs := by rw [eH, el]; exact w
    suffices hw : W p l e (rmOf 2 44) s m args below meth c H locs 0 0 (MQ below (va_Qi Q (PostW g layX 68) (gF g)) args s 0 0 (gF g)) (F0 m 0 ls []) by rw [eH, el] at hw; exact hw
    clear eH el
    refine lv_aload_n C.1.1 C.1.2.1 dX5_readSemicolonBehind_0 rfl (lv_at hl 0 rfl) ?_
    refine q_cVi C w [] (c_X5_readToken  h) kv_X5_readToken k_33 (rcv C w kc_X5 hx_24 lx_24) rfl hl.1 (Nat.le_of_ble_eq_true rfl) ⟨Nat.le_of_ble_eq_true rfl, Nat.le_of_ble_eq_true rfl⟩ dX5_readSemicolonBehind_1 (fun r1 M2 H locs h w => ?_)
    refine lv_if_ne (tgt := 9) C.1.1 C.1.2.1 dX5_readSemicolonBehind_4 (by decide) (fun hc3 => ?_) (fun hc3 => ?_)
    · replace h := h.2 hc3
      refine lv_aload_n C.1.1 C.1.2.1 dX5_readSemicolonBehind_9 rfl (lv_at hl 0 rfl) ?_
      refine gi_RX5_38 C w hx_24 lx_24 rfl dX5_readSemicolonBehind_10 ?_
      refine lv_iconst (v := 3) C.1.1 C.1.2.1 dX5_readSemicolonBehind_13 (by decide) ?_
      refine lv_icmp_eq (tgt := 25) C.1.1 C.1.2.1 dX5_readSemicolonBehind_14 (by decide) (fun hc4 => ?_) (fun hc4 => ?_)
      · replace h := h.1 hc4
        refine lv_iconst (v := 1) C.1.1 C.1.2.1 dX5_readSemicolonBehind_25 (by decide) ?_
        refine lv_goto (tgt := 30) C.1.1 C.1.2.1 dX5_readSemicolonBehind_26 (by decide) ?_
        exact q_iret C hr hk w rfl h dX5_readSemicolonBehind_30
      · replace h := h.2 hc4
        refine lv_aload_n C.1.1 C.1.2.1 dX5_readSemicolonBehind_17 rfl (lv_at hl 0 rfl) ?_
        refine lv_iconst (v := 2) C.1.1 C.1.2.1 dX5_readSemicolonBehind_18 (by decide) ?_
        refine q_cVi C w [.int 2] (c_X5_refuse  h) kv_X5_refuse k_29 (rcv C w kc_X5 hx_24 lx_24) rfl hl.1 (Nat.le_of_ble_eq_true rfl) ⟨Nat.le_of_ble_eq_true rfl, Nat.le_of_ble_eq_true rfl⟩ dX5_readSemicolonBehind_19 (fun r5 M6 H locs h w => ?_)
        refine lv_if_eq (tgt := 29) C.1.1 C.1.2.1 dX5_readSemicolonBehind_22 (by decide) (fun hc7 => ?_) (fun hc7 => ?_)
        · replace h := h.1 hc7
          refine lv_iconst (v := 0) C.1.1 C.1.2.1 dX5_readSemicolonBehind_29 (by decide) ?_
          exact q_iret C hr hk w rfl h dX5_readSemicolonBehind_30
        · replace h := h.2 hc7
          refine lv_iconst (v := 1) C.1.1 C.1.2.1 dX5_readSemicolonBehind_25 (by decide) ?_
          refine lv_goto (tgt := 30) C.1.1 C.1.2.1 dX5_readSemicolonBehind_26 (by decide) ?_
          exact q_iret C hr hk w rfl h dX5_readSemicolonBehind_30
    · replace h := h.1 hc3
      refine lv_iconst (v := 0) C.1.1 C.1.2.1 dX5_readSemicolonBehind_7 (by decide) ?_
      exact q_iret C hr hk w rfl h dX5_readSemicolonBehind_8)
-- readTaker
set_option maxHeartbeats 4000000 in
set_option maxRecDepth 100000 in
theorem c_X5_readTaker {l : Launch} {g : Gt} {x2 : Int32} {M : Mem} {Q : Int32 → Mem → Prop} (h : w_X5_readTaker x2 M Q) : MI l yX5_readTaker cX5_readTaker 3 (some .boolean) 3 66 g layX 68 [.ref (ga g 24), .ref (ga g 12), .int x2] M Q :=
  m_of (by decide +kernel) (Nat.le_of_ble_eq_true rfl) (fun p e s m args below meth c ls C hr hk w hl => by
    have C : Cx p s m args c cX5_readTaker 3 RX5 g := C
    have hl : lv_has ls 3 [(0, .ref (ga g 24)), (1, .ref (ga g 12)), (2, .int x2)] := hl
    unfold w_X5_readTaker at h
    obtain ⟨H, eH⟩ : ∃ H : Heap, H = s.heap := ⟨_, rfl⟩
    obtain ⟨locs, el⟩ : ∃ locs : List Loc, locs = [] := ⟨_, rfl⟩
    have w : Wd g layX 68 s.heap M H locs := by rw [eH, el]; exact w
    suffices hw : W p l e (rmOf 3 66) s m args below meth c H locs 0 0 (MQ below (va_Qi Q (PostW g layX 68) (gF g)) args s 0 0 (gF g)) (F0 m 0 ls []) by rw [eH, el] at hw; exact hw
    clear eH el
    refine lv_aload_n C.1.1 C.1.2.1 dX5_readTaker_0 rfl (lv_at hl 1 rfl) ?_
    refine gi_RX5_71 C w hx_12 lx_12 rfl dX5_readTaker_1 ?_
    refine lv_iconst (v := 5) C.1.1 C.1.2.1 dX5_readTaker_4 (by decide) ?_
    refine lv_icmp_lt (tgt := 14) C.1.1 C.1.2.1 dX5_readTaker_5 (by decide) (fun hc1 => ?_) (fun hc1 => ?_)
    · replace h := h.1 hc1
      refine lv_aload_n C.1.1 C.1.2.1 dX5_readTaker_14 rfl (lv_at hl 0 rfl) ?_
      refine lv_iconst (v := 0) C.1.1 C.1.2.1 dX5_readTaker_15 (by decide) ?_
      refine lv_iconst (v := 5) C.1.1 C.1.2.1 dX5_readTaker_16 (by decide) ?_
      refine q_cVi C w [.int 0, .int 5] (c_X5_readNumber  h) kv_X5_readNumber k_34 (rcv C w kc_X5 hx_24 lx_24) rfl hl.1 (Nat.le_of_ble_eq_true rfl) ⟨Nat.le_of_ble_eq_true rfl, Nat.le_of_ble_eq_true rfl⟩ dX5_readTaker_17 (fun r2 M3 H locs h w => ?_)
      refine lv_if_ne (tgt := 25) C.1.1 C.1.2.1 dX5_readTaker_20 (by decide) (fun hc4 => ?_) (fun hc4 => ?_)
      · replace h := h.2 hc4
        refine lv_aload_n C.1.1 C.1.2.1 dX5_readTaker_25 rfl (lv_at hl 0 rfl) ?_
        refine q_cVi C w [] (c_X5_readSemicolonBehind  h) kv_X5_readSemicolonBehind k_35 (rcv C w kc_X5 hx_24 lx_24) rfl hl.1 (Nat.le_of_ble_eq_true rfl) ⟨Nat.le_of_ble_eq_true rfl, Nat.le_of_ble_eq_true rfl⟩ dX5_readTaker_26 (fun r5 M6 H locs h w => ?_)
        refine lv_if_eq (tgt := 48) C.1.1 C.1.2.1 dX5_readTaker_29 (by decide) (fun hc7 => ?_) (fun hc7 => ?_)
        · replace h := h.1 hc7
          refine lv_iconst (v := 0) C.1.1 C.1.2.1 dX5_readTaker_48 (by decide) ?_
          exact q_iret C hr hk w rfl h dX5_readTaker_49
        · replace h := h.2 hc7
          refine lv_aload_n C.1.1 C.1.2.1 dX5_readTaker_32 rfl (lv_at hl 1 rfl) ?_
          refine lv_iload_n C.1.1 C.1.2.1 dX5_readTaker_33 rfl (lv_at hl 2 rfl) ?_
          refine lv_aload_n C.1.1 C.1.2.1 dX5_readTaker_34 rfl (lv_at hl 0 rfl) ?_
          refine gi_RX5_81 C w hx_24 lx_24 rfl dX5_readTaker_35 ?_
          refine q_cVi C w [.int x2, .int (M6 24 4)] (c_X0_addTaker isE_12 h) kv_X0_addTaker k_36 (rcv C w kc_X0 hx_12 lx_12) rfl hl.1 (Nat.le_of_ble_eq_true rfl) ⟨Nat.le_of_ble_eq_true rfl, Nat.le_of_ble_eq_true rfl⟩ dX5_readTaker_38 (fun r8 M9 H locs h w => ?_)
          refine lv_if_eq (tgt := 48) C.1.1 C.1.2.1 dX5_readTaker_41 (by decide) (fun hc10 => ?_) (fun hc10 => ?_)
          · replace h := h.1 hc10
            refine lv_iconst (v := 0) C.1.1 C.1.2.1 dX5_readTaker_48 (by decide) ?_
            exact q_iret C hr hk w rfl h dX5_readTaker_49
          · replace h := h.2 hc10
            refine lv_iconst (v := 1) C.1.1 C.1.2.1 dX5_readTaker_44 (by decide) ?_
            refine lv_goto (tgt := 49) C.1.1 C.1.2.1 dX5_readTaker_45 (by decide) ?_
            exact q_iret C hr hk w rfl h dX5_readTaker_49
      · replace h := h.1 hc4
        refine lv_iconst (v := 0) C.1.1 C.1.2.1 dX5_readTaker_23 (by decide) ?_
        exact q_iret C hr hk w rfl h dX5_readTaker_24
    · replace h := h.2 hc1
      refine lv_aload_n C.1.1 C.1.2.1 dX5_readTaker_8 rfl (lv_at hl 0 rfl) ?_
      refine lv_iconst (v := 5) C.1.1 C.1.2.1 dX5_readTaker_9 (by decide) ?_
      refine q_cVi C w [.int 5] (c_X5_refuse  h) kv_X5_refuse k_29 (rcv C w kc_X5 hx_24 lx_24) rfl hl.1 (Nat.le_of_ble_eq_true rfl) ⟨Nat.le_of_ble_eq_true rfl, Nat.le_of_ble_eq_true rfl⟩ dX5_readTaker_10 (fun r11 M12 H locs h w => ?_)
      exact q_iret C hr hk w h.1 h.2 dX5_readTaker_13)
-- readKeeper
set_option maxHeartbeats 4000000 in
set_option maxRecDepth 100000 in
theorem c_X5_readKeeper {l : Launch} {g : Gt} {M : Mem} {Q : Int32 → Mem → Prop} (h : w_X5_readKeeper M Q) : MI l yX5_readKeeper cX5_readKeeper 4 (some .boolean) 3 66 g layX 68 [.ref (ga g 24), .ref (ga g 12)] M Q :=
  m_of (by decide +kernel) (Nat.le_of_ble_eq_true rfl) (fun p e s m args below meth c ls C hr hk w hl => by
    have C : Cx p s m args c cX5_readKeeper 4 RX5 g := C
    have hl : lv_has ls 4 [(0, .ref (ga g 24)), (1, .ref (ga g 12))] := hl
    unfold w_X5_readKeeper at h
    obtain ⟨H, eH⟩ : ∃ H : Heap, H = s.heap := ⟨_, rfl⟩
    obtain ⟨locs, el⟩ : ∃ locs : List Loc, locs = [] := ⟨_, rfl⟩
    have w : Wd g layX 68 s.heap M H locs := by rw [eH, el]; exact w
    suffices hw : W p l e (rmOf 3 66) s m args below meth c H locs 0 0 (MQ below (va_Qi Q (PostW g layX 68) (gF g)) args s 0 0 (gF g)) (F0 m 0 ls []) by rw [eH, el] at hw; exact hw
    clear eH el
    refine lv_aload_n C.1.1 C.1.2.1 dX5_readKeeper_0 rfl (lv_at hl 1 rfl) ?_
    refine gi_RX5_87 C w hx_12 lx_12 rfl dX5_readKeeper_1 ?_
    refine lv_iconst (v := 3) C.1.1 C.1.2.1 dX5_readKeeper_4 (by decide) ?_
    refine lv_icmp_lt (tgt := 14) C.1.1 C.1.2.1 dX5_readKeeper_5 (by decide) (fun hc1 => ?_) (fun hc1 => ?_)
    · replace h := h.1 hc1
      refine lv_aload_n C.1.1 C.1.2.1 dX5_readKeeper_14 rfl (lv_at hl 0 rfl) ?_
      refine lv_iconst (v := 0) C.1.1 C.1.2.1 dX5_readKeeper_15 (by decide) ?_
      refine lv_iconst (v := 5) C.1.1 C.1.2.1 dX5_readKeeper_16 (by decide) ?_
      refine q_cVi C w [.int 0, .int 5] (c_X5_readNumber  h) kv_X5_readNumber k_34 (rcv C w kc_X5 hx_24 lx_24) rfl hl.1 (Nat.le_of_ble_eq_true rfl) ⟨Nat.le_of_ble_eq_true rfl, Nat.le_of_ble_eq_true rfl⟩ dX5_readKeeper_17 (fun r2 M3 H locs h w => ?_)
      refine lv_if_ne (tgt := 25) C.1.1 C.1.2.1 dX5_readKeeper_20 (by decide) (fun hc4 => ?_) (fun hc4 => ?_)
      · replace h := h.2 hc4
        refine lv_aload_n C.1.1 C.1.2.1 dX5_readKeeper_25 rfl (lv_at hl 0 rfl) ?_
        refine gi_RX5_81 C w hx_24 lx_24 rfl dX5_readKeeper_26 ?_
        refine lv_istore_n (lv' := [(2, .int (M3 24 4)), (0, .ref (ga g 24)), (1, .ref (ga g 12))]) C.1.1 C.1.2.1 dX5_readKeeper_29 rfl hl (by decide) rfl (fun ls hl => ?_)
        refine lv_aload_n C.1.1 C.1.2.1 dX5_readKeeper_30 rfl (lv_at hl 1 rfl) ?_
        refine lv_iconst (v := 0) C.1.1 C.1.2.1 dX5_readKeeper_31 (by decide) ?_
        refine lv_iconst (v := 5) C.1.1 C.1.2.1 dX5_readKeeper_32 (by decide) ?_
        refine q_cVi C w [.int 0, .int 5] (c_X5_readNumber  h) kv_X5_readNumber k_34 (rcv C w kc_X5 hx_24 lx_24) rfl hl.1 (Nat.le_of_ble_eq_true rfl) ⟨Nat.le_of_ble_eq_true rfl, Nat.le_of_ble_eq_true rfl⟩ dX5_readKeeper_33 (fun r5 M6 H locs h w => ?_)
        refine lv_if_ne (tgt := 41) C.1.1 C.1.2.1 dX5_readKeeper_36 (by decide) (fun hc7 => ?_) (fun hc7 => ?_)
        · replace h := h.2 hc7
          refine lv_aload_n C.1.1 C.1.2.1 dX5_readKeeper_41 rfl (lv_at hl 1 rfl) ?_
          refine gi_RX5_81 C w hx_24 lx_24 rfl dX5_readKeeper_42 ?_
          refine lv_istore_n (lv' := [(3, .int (M6 24 4)), (2, .int (M3 24 4)), (0, .ref (ga g 24)), (1, .ref (ga g 12))]) C.1.1 C.1.2.1 dX5_readKeeper_45 rfl hl (by decide) rfl (fun ls hl => ?_)
          refine lv_aload_n C.1.1 C.1.2.1 dX5_readKeeper_46 rfl (lv_at hl 2 rfl) ?_
          refine lv_iconst (v := 1) C.1.1 C.1.2.1 dX5_readKeeper_47 (by decide) ?_
          refine lv_bipush (v := 9) C.1.1 C.1.2.1 dX5_readKeeper_48 (by decide) ?_
          refine q_cVi C w [.int 1, .int 9] (c_X5_readNumber  h) kv_X5_readNumber k_34 (rcv C w kc_X5 hx_24 lx_24) rfl hl.1 (Nat.le_of_ble_eq_true rfl) ⟨Nat.le_of_ble_eq_true rfl, Nat.le_of_ble_eq_true rfl⟩ dX5_readKeeper_50 (fun r8 M9 H locs h w => ?_)
          refine lv_if_ne (tgt := 58) C.1.1 C.1.2.1 dX5_readKeeper_53 (by decide) (fun hc10 => ?_) (fun hc10 => ?_)
          · replace h := h.2 hc10
            refine lv_aload_n C.1.1 C.1.2.1 dX5_readKeeper_58 rfl (lv_at hl 2 rfl) ?_
            refine q_cVi C w [] (c_X5_readSemicolonBehind  h) kv_X5_readSemicolonBehind k_35 (rcv C w kc_X5 hx_24 lx_24) rfl hl.1 (Nat.le_of_ble_eq_true rfl) ⟨Nat.le_of_ble_eq_true rfl, Nat.le_of_ble_eq_true rfl⟩ dX5_readKeeper_59 (fun r11 M12 H locs h w => ?_)
            refine lv_if_eq (tgt := 82) C.1.1 C.1.2.1 dX5_readKeeper_62 (by decide) (fun hc13 => ?_) (fun hc13 => ?_)
            · replace h := h.1 hc13
              refine lv_iconst (v := 0) C.1.1 C.1.2.1 dX5_readKeeper_82 (by decide) ?_
              exact q_iret C hr hk w rfl h dX5_readKeeper_83
            · replace h := h.2 hc13
              refine lv_aload_n C.1.1 C.1.2.1 dX5_readKeeper_65 rfl (lv_at hl 3 rfl) ?_
              refine lv_iload_n C.1.1 C.1.2.1 dX5_readKeeper_66 rfl (lv_at hl 1 rfl) ?_
              refine lv_iload_n C.1.1 C.1.2.1 dX5_readKeeper_67 rfl (lv_at hl 0 rfl) ?_
              refine lv_aload_n C.1.1 C.1.2.1 dX5_readKeeper_68 rfl (lv_at hl 2 rfl) ?_
              refine gi_RX5_81 C w hx_24 lx_24 rfl dX5_readKeeper_69 ?_
              refine q_cVi C w [.int (M3 24 4), .int (M6 24 4), .int (M12 24 4)] (c_X0_addKeeper isE_12 h) kv_X0_addKeeper k_37 (rcv C w kc_X0 hx_12 lx_12) rfl hl.1 (Nat.le_of_ble_eq_true rfl) ⟨Nat.le_of_ble_eq_true rfl, Nat.le_of_ble_eq_true rfl⟩ dX5_readKeeper_72 (fun r14 M15 H locs h w => ?_)
              refine lv_if_eq (tgt := 82) C.1.1 C.1.2.1 dX5_readKeeper_75 (by decide) (fun hc16 => ?_) (fun hc16 => ?_)
              · replace h := h.1 hc16
                refine lv_iconst (v := 0) C.1.1 C.1.2.1 dX5_readKeeper_82 (by decide) ?_
                exact q_iret C hr hk w rfl h dX5_readKeeper_83
              · replace h := h.2 hc16
                refine lv_iconst (v := 1) C.1.1 C.1.2.1 dX5_readKeeper_78 (by decide) ?_
                refine lv_goto (tgt := 83) C.1.1 C.1.2.1 dX5_readKeeper_79 (by decide) ?_
                exact q_iret C hr hk w rfl h dX5_readKeeper_83
          · replace h := h.1 hc10
            refine lv_iconst (v := 0) C.1.1 C.1.2.1 dX5_readKeeper_56 (by decide) ?_
            exact q_iret C hr hk w rfl h dX5_readKeeper_57
        · replace h := h.1 hc7
          refine lv_iconst (v := 0) C.1.1 C.1.2.1 dX5_readKeeper_39 (by decide) ?_
          exact q_iret C hr hk w rfl h dX5_readKeeper_40
      · replace h := h.1 hc4
        refine lv_iconst (v := 0) C.1.1 C.1.2.1 dX5_readKeeper_23 (by decide) ?_
        exact q_iret C hr hk w rfl h dX5_readKeeper_24
    · replace h := h.2 hc1
      refine lv_aload_n C.1.1 C.1.2.1 dX5_readKeeper_8 rfl (lv_at hl 0 rfl) ?_
      refine lv_iconst (v := 5) C.1.1 C.1.2.1 dX5_readKeeper_9 (by decide) ?_
      refine q_cVi C w [.int 5] (c_X5_refuse  h) kv_X5_refuse k_29 (rcv C w kc_X5 hx_24 lx_24) rfl hl.1 (Nat.le_of_ble_eq_true rfl) ⟨Nat.le_of_ble_eq_true rfl, Nat.le_of_ble_eq_true rfl⟩ dX5_readKeeper_10 (fun r17 M18 H locs h w => ?_)
      exact q_iret C hr hk w h.1 h.2 dX5_readKeeper_13)
-- readGate
set_option maxHeartbeats 4000000 in
set_option maxRecDepth 100000 in
theorem c_X5_readGate {l : Launch} {g : Gt} {M : Mem} {Q : Int32 → Mem → Prop} (h : w_X5_readGate M Q) : MI l yX5_readGate cX5_readGate 3 (some .boolean) 3 66 g layX 68 [.ref (ga g 24), .ref (ga g 12)] M Q :=
  m_of (by decide +kernel) (Nat.le_of_ble_eq_true rfl) (fun p e s m args below meth c ls C hr hk w hl => by
    have C : Cx p s m args c cX5_readGate 3 RX5 g := C
    have hl : lv_has ls 3 [(0, .ref (ga g 24)), (1, .ref (ga g 12))] := hl
    unfold w_X5_readGate at h
    obtain ⟨H, eH⟩ : ∃ H : Heap, H = s.heap := ⟨_, rfl⟩
    obtain ⟨locs, el⟩ : ∃ locs : List Loc, locs = [] := ⟨_, rfl⟩
    have w : Wd g layX 68 s.heap M H locs := by rw [eH, el]; exact w
    suffices hw : W p l e (rmOf 3 66) s m args below meth c H locs 0 0 (MQ below (va_Qi Q (PostW g layX 68) (gF g)) args s 0 0 (gF g)) (F0 m 0 ls []) by rw [eH, el] at hw; exact hw
    clear eH el
    refine lv_aload_n C.1.1 C.1.2.1 dX5_readGate_0 rfl (lv_at hl 0 rfl) ?_
    refine lv_iconst (v := 0) C.1.1 C.1.2.1 dX5_readGate_1 (by decide) ?_
    refine lv_iconst (v := 5) C.1.1 C.1.2.1 dX5_readGate_2 (by decide) ?_
    refine q_cVi C w [.int 0, .int 5] (c_X5_readNumber  h) kv_X5_readNumber k_34 (rcv C w kc_X5 hx_24 lx_24) rfl hl.1 (Nat.le_of_ble_eq_true rfl) ⟨Nat.le_of_ble_eq_true rfl, Nat.le_of_ble_eq_true rfl⟩ dX5_readGate_3 (fun r1 M2 H locs h w => ?_)
    refine lv_if_ne (tgt := 11) C.1.1 C.1.2.1 dX5_readGate_6 (by decide) (fun hc3 => ?_) (fun hc3 => ?_)
    · replace h := h.2 hc3
      refine lv_aload_n C.1.1 C.1.2.1 dX5_readGate_11 rfl (lv_at hl 0 rfl) ?_
      refine gi_RX5_81 C w hx_24 lx_24 rfl dX5_readGate_12 ?_
      refine lv_istore_n (lv' := [(2, .int (M2 24 4)), (0, .ref (ga g 24)), (1, .ref (ga g 12))]) C.1.1 C.1.2.1 dX5_readGate_15 rfl hl (by decide) rfl (fun ls hl => ?_)
      refine lv_aload_n C.1.1 C.1.2.1 dX5_readGate_16 rfl (lv_at hl 1 rfl) ?_
      refine gi_RX5_25 C w hx_24 lx_24 rfl dX5_readGate_17 ?_
      refine lv_iload_n C.1.1 C.1.2.1 dX5_readGate_20 rfl (lv_at hl 0 rfl) ?_
      refine q_ishr C dX5_readGate_21 ?_
      refine lv_iconst (v := 1) C.1.1 C.1.2.1 dX5_readGate_22 (by decide) ?_
      refine lv_iand C.1.1 C.1.2.1 dX5_readGate_23 ?_
      refine lv_iconst (v := 1) C.1.1 C.1.2.1 dX5_readGate_24 (by decide) ?_
      refine lv_icmp_ne (tgt := 34) C.1.1 C.1.2.1 dX5_readGate_25 (by decide) (fun hc4 => ?_) (fun hc4 => ?_)
      · replace h := h.2 hc4
        refine lv_aload_n C.1.1 C.1.2.1 dX5_readGate_34 rfl (lv_at hl 1 rfl) ?_
        refine lv_dup C.1.1 C.1.2.1 dX5_readGate_35 rfl ?_
        refine gi_RX5_25 C w hx_24 lx_24 rfl dX5_readGate_36 ?_
        refine lv_iconst (v := 1) C.1.1 C.1.2.1 dX5_readGate_39 (by decide) ?_
        refine lv_iload_n C.1.1 C.1.2.1 dX5_readGate_40 rfl (lv_at hl 0 rfl) ?_
        refine q_ishl C dX5_readGate_41 ?_
        refine lv_ior C.1.1 C.1.2.1 dX5_readGate_42 ?_
        refine pi_RX5_25 C w hx_24 lx_24 rfl dX5_readGate_43 (fun M5 H locs eM5 w => ?_)
        replace h := h M5 eM5
        refine lv_aload_n C.1.1 C.1.2.1 dX5_readGate_46 rfl (lv_at hl 1 rfl) ?_
        refine lv_iconst (v := 0) C.1.1 C.1.2.1 dX5_readGate_47 (by decide) ?_
        refine lv_bipush (v := 60) C.1.1 C.1.2.1 dX5_readGate_48 (by decide) ?_
        refine q_cVi C w [.int 0, .int 60] (c_X5_readNumber  h) kv_X5_readNumber k_34 (rcv C w kc_X5 hx_24 lx_24) rfl hl.1 (Nat.le_of_ble_eq_true rfl) ⟨Nat.le_of_ble_eq_true rfl, Nat.le_of_ble_eq_true rfl⟩ dX5_readGate_50 (fun r6 M7 H locs h w => ?_)
        refine lv_if_ne (tgt := 58) C.1.1 C.1.2.1 dX5_readGate_53 (by decide) (fun hc8 => ?_) (fun hc8 => ?_)
        · replace h := h.2 hc8
          refine lv_aload_n C.1.1 C.1.2.1 dX5_readGate_58 rfl (lv_at hl 2 rfl) ?_
          refine gr_RX5_94 C w hx_12 lx_12 rfl dX5_readGate_59 ?_
          refine lv_iload_n C.1.1 C.1.2.1 dX5_readGate_62 rfl (lv_at hl 0 rfl) ?_
          refine lv_aload_n C.1.1 C.1.2.1 dX5_readGate_63 rfl (lv_at hl 1 rfl) ?_
          refine gi_RX5_81 C w hx_24 lx_24 rfl dX5_readGate_64 ?_
          refine q_ias C w hx_13 lx_13 h.1 dX5_readGate_67 (fun M9 H locs eM9 w => ?_)
          replace h := h.2 M9 eM9
          refine lv_aload_n C.1.1 C.1.2.1 dX5_readGate_68 rfl (lv_at hl 1 rfl) ?_
          refine lv_iconst (v := 0) C.1.1 C.1.2.1 dX5_readGate_69 (by decide) ?_
          refine lv_bipush (v := 9) C.1.1 C.1.2.1 dX5_readGate_70 (by decide) ?_
          refine q_cVi C w [.int 0, .int 9] (c_X5_readNumber  h) kv_X5_readNumber k_34 (rcv C w kc_X5 hx_24 lx_24) rfl hl.1 (Nat.le_of_ble_eq_true rfl) ⟨Nat.le_of_ble_eq_true rfl, Nat.le_of_ble_eq_true rfl⟩ dX5_readGate_72 (fun r10 M11 H locs h w => ?_)
          refine lv_if_ne (tgt := 80) C.1.1 C.1.2.1 dX5_readGate_75 (by decide) (fun hc12 => ?_) (fun hc12 => ?_)
          · replace h := h.2 hc12
            refine lv_aload_n C.1.1 C.1.2.1 dX5_readGate_80 rfl (lv_at hl 2 rfl) ?_
            refine gr_RX5_98 C w hx_12 lx_12 rfl dX5_readGate_81 ?_
            refine lv_iload_n C.1.1 C.1.2.1 dX5_readGate_84 rfl (lv_at hl 0 rfl) ?_
            refine lv_aload_n C.1.1 C.1.2.1 dX5_readGate_85 rfl (lv_at hl 1 rfl) ?_
            refine gi_RX5_81 C w hx_24 lx_24 rfl dX5_readGate_86 ?_
            refine q_ias C w hx_14 lx_14 h.1 dX5_readGate_89 (fun M13 H locs eM13 w => ?_)
            replace h := h.2 M13 eM13
            refine lv_aload_n C.1.1 C.1.2.1 dX5_readGate_90 rfl (lv_at hl 1 rfl) ?_
            refine q_cVi C w [] (c_X5_readSemicolonBehind  h) kv_X5_readSemicolonBehind k_35 (rcv C w kc_X5 hx_24 lx_24) rfl hl.1 (Nat.le_of_ble_eq_true rfl) ⟨Nat.le_of_ble_eq_true rfl, Nat.le_of_ble_eq_true rfl⟩ dX5_readGate_91 (fun r14 M15 H locs h w => ?_)
            exact q_iret C hr hk w h.1 h.2 dX5_readGate_94
          · replace h := h.1 hc12
            refine lv_iconst (v := 0) C.1.1 C.1.2.1 dX5_readGate_78 (by decide) ?_
            exact q_iret C hr hk w rfl h dX5_readGate_79
        · replace h := h.1 hc8
          refine lv_iconst (v := 0) C.1.1 C.1.2.1 dX5_readGate_56 (by decide) ?_
          exact q_iret C hr hk w rfl h dX5_readGate_57
      · replace h := h.1 hc4
        refine lv_aload_n C.1.1 C.1.2.1 dX5_readGate_28 rfl (lv_at hl 1 rfl) ?_
        refine lv_iconst (v := 4) C.1.1 C.1.2.1 dX5_readGate_29 (by decide) ?_
        refine q_cVi C w [.int 4] (c_X5_refuse  h) kv_X5_refuse k_29 (rcv C w kc_X5 hx_24 lx_24) rfl hl.1 (Nat.le_of_ble_eq_true rfl) ⟨Nat.le_of_ble_eq_true rfl, Nat.le_of_ble_eq_true rfl⟩ dX5_readGate_30 (fun r16 M17 H locs h w => ?_)
        exact q_iret C hr hk w h.1 h.2 dX5_readGate_33
    · replace h := h.1 hc3
      refine lv_iconst (v := 0) C.1.1 C.1.2.1 dX5_readGate_9 (by decide) ?_
      exact q_iret C hr hk w rfl h dX5_readGate_10)
-- readLine
set_option maxHeartbeats 4000000 in
set_option maxRecDepth 100000 in
theorem v_X5_readLine_31 {M : Mem} {Q : Int32 → Mem → Prop} {H : Heap} {locs : List Loc} {ls : Array Slot} (C : Cx p s m args c cX5_readLine 3 RX5 g) (hr : meth.sig.returnType = (some .boolean)) (hk : meth.locks = false)  (h : w_X5_readLine_31 M Q) (w : Wd g layX 68 s.heap M H locs) (hl : lv_has ls 3 [(0, .ref (ga g 24)), (1, .ref (ga g 12))]) : W p l e (rmOf 5 107) s m args below meth c H locs 0 0 (MQ below (va_Qi Q (PostW g layX 68) (gF g)) args s 0 0 (gF g)) (F0 m 31 ls []) := by
  unfold w_X5_readLine_31 at h
  refine lv_aload_n C.1.1 C.1.2.1 dX5_readLine_31 rfl (lv_at hl 0 rfl) ?_
  refine q_ldS C (i := 4) C.2.2.2.2.2.2.2.1 dX5_readLine_32 ?_
  refine q_pVi C w [.ref (gK g 4)] (c_X5_isName (by decide) h) kv_X5_isName k_38 (rcv C w kc_X5 hx_24 lx_24) rfl hl.1 (Nat.le_of_ble_eq_true rfl) ⟨Nat.le_of_ble_eq_true rfl, Nat.le_of_ble_eq_true rfl⟩ dX5_readLine_34 (fun r2 H locs h w => ?_)
  refine lv_if_eq (tgt := 46) C.1.1 C.1.2.1 dX5_readLine_37 (by decide) (fun hc3 => ?_) (fun hc3 => ?_)
  · replace h := h.1 hc3
    refine lv_aload_n C.1.1 C.1.2.1 dX5_readLine_46 rfl (lv_at hl 0 rfl) ?_
    refine q_ldS C (i := 5) C.2.2.2.2.2.2.2.2 dX5_readLine_47 ?_
    refine q_pVi C w [.ref (gK g 5)] (c_X5_isName (by decide) h) kv_X5_isName k_38 (rcv C w kc_X5 hx_24 lx_24) rfl hl.1 (Nat.le_of_ble_eq_true rfl) ⟨Nat.le_of_ble_eq_true rfl, Nat.le_of_ble_eq_true rfl⟩ dX5_readLine_49 (fun r4 H locs h w => ?_)
    refine lv_if_eq (tgt := 63) C.1.1 C.1.2.1 dX5_readLine_52 (by decide) (fun hc5 => ?_) (fun hc5 => ?_)
    · replace h := h.1 hc5
      refine lv_aload_n C.1.1 C.1.2.1 dX5_readLine_63 rfl (lv_at hl 0 rfl) ?_
      refine lv_iconst (v := 2) C.1.1 C.1.2.1 dX5_readLine_64 (by decide) ?_
      refine q_cVi C w [.int 2] (c_X5_refuse  h) kv_X5_refuse k_29 (rcv C w kc_X5 hx_24 lx_24) rfl hl.1 (Nat.le_of_ble_eq_true rfl) ⟨Nat.le_of_ble_eq_true rfl, Nat.le_of_ble_eq_true rfl⟩ dX5_readLine_65 (fun r6 M7 H locs h w => ?_)
      exact q_iret C hr hk w h.1 h.2 dX5_readLine_68
    · replace h := h.2 hc5
      refine lv_aload_n C.1.1 C.1.2.1 dX5_readLine_55 rfl (lv_at hl 0 rfl) ?_
      refine lv_aload_n C.1.1 C.1.2.1 dX5_readLine_56 rfl (lv_at hl 1 rfl) ?_
      refine q_cVi C w [.ref (ga g 12)] (c_X5_readGate  h) kv_X5_readGate k_39 (rcv C w kc_X5 hx_24 lx_24) rfl hl.1 (Nat.le_of_ble_eq_true rfl) ⟨Nat.le_of_ble_eq_true rfl, Nat.le_of_ble_eq_true rfl⟩ dX5_readLine_57 (fun r8 M9 H locs h w => ?_)
      refine lv_goto (tgt := 68) C.1.1 C.1.2.1 dX5_readLine_60 (by decide) ?_
      exact q_iret C hr hk w h.1 h.2 dX5_readLine_68
  · replace h := h.2 hc3
    refine lv_aload_n C.1.1 C.1.2.1 dX5_readLine_40 rfl (lv_at hl 0 rfl) ?_
    refine lv_aload_n C.1.1 C.1.2.1 dX5_readLine_41 rfl (lv_at hl 1 rfl) ?_
    refine q_cVi C w [.ref (ga g 12)] (c_X5_readKeeper  h) kv_X5_readKeeper k_40 (rcv C w kc_X5 hx_24 lx_24) rfl hl.1 (Nat.le_of_ble_eq_true rfl) ⟨Nat.le_of_ble_eq_true rfl, Nat.le_of_ble_eq_true rfl⟩ dX5_readLine_42 (fun r10 M11 H locs h w => ?_)
    exact q_iret C hr hk w h.1 h.2 dX5_readLine_45
set_option maxHeartbeats 4000000 in
set_option maxRecDepth 100000 in
theorem v_X5_readLine_18 {x2 : Int32} {M : Mem} {Q : Int32 → Mem → Prop} {H : Heap} {locs : List Loc} {ls : Array Slot} (C : Cx p s m args c cX5_readLine 3 RX5 g) (hr : meth.sig.returnType = (some .boolean)) (hk : meth.locks = false)  (h : w_X5_readLine_18 x2 M Q) (w : Wd g layX 68 s.heap M H locs) (hl : lv_has ls 3 [(0, .ref (ga g 24)), (1, .ref (ga g 12)), (2, .int x2)]) : W p l e (rmOf 5 107) s m args below meth c H locs 0 0 (MQ below (va_Qi Q (PostW g layX 68) (gF g)) args s 0 0 (gF g)) (F0 m 18 ls []) := by
  unfold w_X5_readLine_18 at h
  refine lv_aload_n C.1.1 C.1.2.1 dX5_readLine_18 rfl (lv_at hl 0 rfl) ?_
  refine lv_aload_n C.1.1 C.1.2.1 dX5_readLine_19 rfl (lv_at hl 1 rfl) ?_
  refine lv_iload_n C.1.1 C.1.2.1 dX5_readLine_20 rfl (lv_at hl 2 rfl) ?_
  refine q_cVi C w [.ref (ga g 12), .int x2] (c_X5_readTaker  h) kv_X5_readTaker k_42 (rcv C w kc_X5 hx_24 lx_24) rfl hl.1 (Nat.le_of_ble_eq_true rfl) ⟨Nat.le_of_ble_eq_true rfl, Nat.le_of_ble_eq_true rfl⟩ dX5_readLine_21 (fun r15 M16 H locs h w => ?_)
  exact q_iret C hr hk w h.1 h.2 dX5_readLine_24
set_option maxHeartbeats 4000000 in
set_option maxRecDepth 100000 in
theorem v_X5_readLine_2 {x2 : Int32} {M : Mem} {K2 : Int32 → Prop} {Q : Int32 → Mem → Prop} {H : Heap} {locs : List Loc} {ls : Array Slot} (C : Cx p s m args c cX5_readLine 3 RX5 g) (hr : meth.sig.returnType = (some .boolean)) (hk : meth.locks = false) (hK2 : ∀ (x2 : Int32) (H : Heap) (locs : List Loc) (ls : Array Slot), K2 x2 → Wd g layX 68 s.heap M H locs → lv_has ls 3 [(0, .ref (ga g 24)), (1, .ref (ga g 12)), (2, .int x2)] → W p l e (rmOf 5 107) s m args below meth c H locs 0 0 (MQ below (va_Qi Q (PostW g layX 68) (gF g)) args s 0 0 (gF g)) (F0 m 2 ls [])) (h : w_X5_readLine_2 M Q K2 x2) (w : Wd g layX 68 s.heap M H locs) (hl : lv_has ls 3 [(0, .ref (ga g 24)), (1, .ref (ga g 12)), (2, .int x2)]) : W p l e (rmOf 5 107) s m args below meth c H locs 0 0 (MQ below (va_Qi Q (PostW g layX 68) (gF g)) args s 0 0 (gF g)) (F0 m 2 ls []) := by
  unfold w_X5_readLine_2 at h
  refine lv_iload_n C.1.1 C.1.2.1 dX5_readLine_2 rfl (lv_at hl 2 rfl) ?_
  refine lv_iconst (v := 4) C.1.1 C.1.2.1 dX5_readLine_3 (by decide) ?_
  refine lv_icmp_ge (tgt := 31) C.1.1 C.1.2.1 dX5_readLine_4 (by decide) (fun hc1 => ?_) (fun hc1 => ?_)
  · replace h := h.1 hc1
    exact v_X5_readLine_31 C hr hk   h w (lv_sub hl [0, 1] rfl)
  · replace h := h.2 hc1
    refine lv_aload_n C.1.1 C.1.2.1 dX5_readLine_7 rfl (lv_at hl 0 rfl) ?_
    refine lv_iload_n C.1.1 C.1.2.1 dX5_readLine_8 rfl (lv_at hl 2 rfl) ?_
    refine q_pSt C w [.int x2] (c_X5_nameOfKind  h) ks_X5_nameOfKind k_41  rfl hl.1 (Nat.le_of_ble_eq_true rfl) ⟨Nat.le_of_ble_eq_true rfl, Nat.le_of_ble_eq_true rfl⟩ dX5_readLine_9 (fun r12 H locs h w => ?_)
    have hr12 := h.1
    replace h := h.2
    refine q_pVi C w [.ref (gK g r12)] (c_X5_isName hr12 h) kv_X5_isName k_38 (rcv C w kc_X5 hx_24 lx_24) rfl hl.1 (Nat.le_of_ble_eq_true rfl) ⟨Nat.le_of_ble_eq_true rfl, Nat.le_of_ble_eq_true rfl⟩ dX5_readLine_12 (fun r13 H locs h w => ?_)
    refine lv_if_eq (tgt := 25) C.1.1 C.1.2.1 dX5_readLine_15 (by decide) (fun hc14 => ?_) (fun hc14 => ?_)
    · replace h := h.1 hc14
      refine lv_iinc (v := x2 + 1) (lv' := [(2, .int (x2 + 1)), (0, .ref (ga g 24)), (1, .ref (ga g 12))]) C.1.1 C.1.2.1 dX5_readLine_25 hl (k := 2) rfl rfl (by decide) rfl (fun ls hl => ?_)
      refine lv_goto (tgt := 2) C.1.1 C.1.2.1 dX5_readLine_28 (by decide) ?_
      exact hK2 _ _ _ _ h w (lv_sub hl [1, 2, 0] rfl)
    · replace h := h.2 hc14
      exact v_X5_readLine_18 C hr hk   h w (lv_sub hl [0, 1, 2] rfl)
set_option maxHeartbeats 4000000 in
set_option maxRecDepth 100000 in
theorem l_X5_readLine_2 {M : Mem} {Q : Int32 → Mem → Prop} (C : Cx p s m args c cX5_readLine 3 RX5 g) (hr : meth.sig.returnType = (some .boolean)) (hk : meth.locks = false)  : ∀ (n : Nat) (x2 : Int32) (H : Heap) (locs : List Loc) (ls : Array Slot), fu1 (w_X5_readLine_2 M Q) n x2 → Wd g layX 68 s.heap M H locs → lv_has ls 3 [(0, .ref (ga g 24)), (1, .ref (ga g 12)), (2, .int x2)] → W p l e (rmOf 5 107) s m args below meth c H locs 0 0 (MQ below (va_Qi Q (PostW g layX 68) (gF g)) args s 0 0 (gF g)) (F0 m 2 ls []) := by
  intro n
  induction n with
  | zero => intro x2 H locs ls h; exact h.elim
  | succ n ih => intro x2 H locs ls h w hl; exact v_X5_readLine_2 C hr hk   ih h w hl
set_option maxHeartbeats 4000000 in
set_option maxRecDepth 100000 in
theorem c_X5_readLine {l : Launch} {g : Gt} {M : Mem} {Q : Int32 → Mem → Prop} (h : w_X5_readLine M Q) : MI l yX5_readLine cX5_readLine 3 (some .boolean) 5 107 g layX 68 [.ref (ga g 24), .ref (ga g 12)] M Q :=
  m_of (by decide +kernel) (Nat.le_of_ble_eq_true rfl) (fun p e s m args below meth c ls C hr hk w hl => by
    have C : Cx p s m args c cX5_readLine 3 RX5 g := C
    have hl : lv_has ls 3 [(0, .ref (ga g 24)), (1, .ref (ga g 12))] := hl
    unfold w_X5_readLine at h
    obtain ⟨H, eH⟩ : ∃ H : Heap, H = s.heap := ⟨_, rfl⟩
    obtain ⟨locs, el⟩ : ∃ locs : List Loc, locs = [] := ⟨_, rfl⟩
    have w : Wd g layX 68 s.heap M H locs := by rw [eH, el]; exact w
    suffices hw : W p l e (rmOf 5 107) s m args below meth c H locs 0 0 (MQ below (va_Qi Q (PostW g layX 68) (gF g)) args s 0 0 (gF g)) (F0 m 0 ls []) by rw [eH, el] at hw; exact hw
    clear eH el
    refine lv_iconst (v := 0) C.1.1 C.1.2.1 dX5_readLine_0 (by decide) ?_
    refine lv_istore_n (lv' := [(2, .int 0), (0, .ref (ga g 24)), (1, .ref (ga g 12))]) C.1.1 C.1.2.1 dX5_readLine_1 rfl hl (by decide) rfl (fun ls hl => ?_)
    obtain ⟨n, h⟩ := h
    exact l_X5_readLine_2 C hr hk   n _ _ _ _ h w (lv_sub hl [1, 2, 0] rfl))
-- readLines
set_option maxHeartbeats 4000000 in
set_option maxRecDepth 100000 in
theorem v_X5_readLines_28 {x2 : Int32} {x3 : Int32} {M : Mem} {K28 : Int32 → Int32 → Mem → Prop} {Q : Int32 → Mem → Prop} {H : Heap} {locs : List Loc} {ls : Array Slot} (C : Cx p s m args c cX5_readLines 4 RX5 g) (hr : meth.sig.returnType = (some .int)) (hk : meth.locks = false) (hK28 : ∀ (x2 : Int32) (x3 : Int32) (M : Mem) (H : Heap) (locs : List Loc) (ls : Array Slot), K28 x2 x3 M → Wd g layX 68 s.heap M H locs → lv_has ls 4 [(0, .ref (ga g 24)), (1, .ref (ga g 12)), (2, .int x2), (3, .int x3)] → W p l e (rmOf 6 129) s m args below meth c H locs 0 0 (MQ below (va_Qi Q (PostW g layX 68) (gF g)) args s 0 0 (gF g)) (F0 m 28 ls [])) (h : w_X5_readLines_28 Q K28 x2 x3 M) (w : Wd g layX 68 s.heap M H locs) (hl : lv_has ls 4 [(0, .ref (ga g 24)), (1, .ref (ga g 12)), (2, .int x2), (3, .int x3)]) : W p l e (rmOf 6 129) s m args below meth c H locs 0 0 (MQ below (va_Qi Q (PostW g layX 68) (gF g)) args s 0 0 (gF g)) (F0 m 28 ls []) := by
  unfold w_X5_readLines_28 at h
  refine lv_iload_n C.1.1 C.1.2.1 dX5_readLines_28 rfl (lv_at hl 3 rfl) ?_
  refine lv_sipush (v := 160) C.1.1 C.1.2.1 dX5_readLines_29 (by decide) ?_
  refine lv_icmp_gt (tgt := 69) C.1.1 C.1.2.1 dX5_readLines_32 (by decide) (fun hc7 => ?_) (fun hc7 => ?_)
  · replace h := h.1 hc7
    refine lv_iload_n C.1.1 C.1.2.1 dX5_readLines_69 rfl (lv_at hl 2 rfl) ?_
    exact q_iret C hr hk w rfl h dX5_readLines_70
  · replace h := h.2 hc7
    refine lv_aload_n C.1.1 C.1.2.1 dX5_readLines_35 rfl (lv_at hl 0 rfl) ?_
    refine q_cVi C w [] (c_X5_readToken  h) kv_X5_readToken k_33 (rcv C w kc_X5 hx_24 lx_24) rfl hl.1 (Nat.le_of_ble_eq_true rfl) ⟨Nat.le_of_ble_eq_true rfl, Nat.le_of_ble_eq_true rfl⟩ dX5_readLines_36 (fun r8 M9 H locs h w => ?_)
    refine lv_if_eq (tgt := 69) C.1.1 C.1.2.1 dX5_readLines_39 (by decide) (fun hc10 => ?_) (fun hc10 => ?_)
    · replace h := h.1 hc10
      refine lv_iload_n C.1.1 C.1.2.1 dX5_readLines_69 rfl (lv_at hl 2 rfl) ?_
      exact q_iret C hr hk w rfl h dX5_readLines_70
    · replace h := h.2 hc10
      refine lv_aload_n C.1.1 C.1.2.1 dX5_readLines_42 rfl (lv_at hl 0 rfl) ?_
      refine gi_RX5_38 C w hx_24 lx_24 rfl dX5_readLines_43 ?_
      refine lv_if_eq (tgt := 69) C.1.1 C.1.2.1 dX5_readLines_46 (by decide) (fun hc11 => ?_) (fun hc11 => ?_)
      · replace h := h.1 hc11
        refine lv_iload_n C.1.1 C.1.2.1 dX5_readLines_69 rfl (lv_at hl 2 rfl) ?_
        exact q_iret C hr hk w rfl h dX5_readLines_70
      · replace h := h.2 hc11
        refine lv_aload_n C.1.1 C.1.2.1 dX5_readLines_49 rfl (lv_at hl 0 rfl) ?_
        refine lv_aload_n C.1.1 C.1.2.1 dX5_readLines_50 rfl (lv_at hl 1 rfl) ?_
        refine q_cVi C w [.ref (ga g 12)] (c_X5_readLine  h) kv_X5_readLine k_44 (rcv C w kc_X5 hx_24 lx_24) rfl hl.1 (Nat.le_of_ble_eq_true rfl) ⟨Nat.le_of_ble_eq_true rfl, Nat.le_of_ble_eq_true rfl⟩ dX5_readLines_51 (fun r12 M13 H locs h w => ?_)
        refine lv_if_ne (tgt := 60) C.1.1 C.1.2.1 dX5_readLines_54 (by decide) (fun hc14 => ?_) (fun hc14 => ?_)
        · replace h := h.2 hc14
          refine lv_iinc (v := x2 + 1) (lv' := [(2, .int (x2 + 1)), (0, .ref (ga g 24)), (1, .ref (ga g 12)), (3, .int x3)]) C.1.1 C.1.2.1 dX5_readLines_60 hl (k := 2) rfl rfl (by decide) rfl (fun ls hl => ?_)
          refine lv_iinc (v := x3 + 1) (lv' := [(3, .int (x3 + 1)), (2, .int (x2 + 1)), (0, .ref (ga g 24)), (1, .ref (ga g 12))]) C.1.1 C.1.2.1 dX5_readLines_63 hl (k := 3) rfl rfl (by decide) rfl (fun ls hl => ?_)
          refine lv_goto (tgt := 28) C.1.1 C.1.2.1 dX5_readLines_66 (by decide) ?_
          exact hK28 _ _ _ _ _ _ h w (lv_sub hl [2, 3, 1, 0] rfl)
        · replace h := h.1 hc14
          refine lv_goto (tgt := 69) C.1.1 C.1.2.1 dX5_readLines_57 (by decide) ?_
          refine lv_iload_n C.1.1 C.1.2.1 dX5_readLines_69 rfl (lv_at hl 2 rfl) ?_
          exact q_iret C hr hk w rfl h dX5_readLines_70
set_option maxHeartbeats 4000000 in
set_option maxRecDepth 100000 in
theorem l_X5_readLines_28 {Q : Int32 → Mem → Prop} (C : Cx p s m args c cX5_readLines 4 RX5 g) (hr : meth.sig.returnType = (some .int)) (hk : meth.locks = false)  : ∀ (n : Nat) (x2 : Int32) (x3 : Int32) (M : Mem) (H : Heap) (locs : List Loc) (ls : Array Slot), fu3 (w_X5_readLines_28 Q) n x2 x3 M → Wd g layX 68 s.heap M H locs → lv_has ls 4 [(0, .ref (ga g 24)), (1, .ref (ga g 12)), (2, .int x2), (3, .int x3)] → W p l e (rmOf 6 129) s m args below meth c H locs 0 0 (MQ below (va_Qi Q (PostW g layX 68) (gF g)) args s 0 0 (gF g)) (F0 m 28 ls []) := by
  intro n
  induction n with
  | zero => intro x2 x3 M H locs ls h; exact h.elim
  | succ n ih => intro x2 x3 M H locs ls h w hl; exact v_X5_readLines_28 C hr hk   ih h w hl
set_option maxHeartbeats 4000000 in
set_option maxRecDepth 100000 in
theorem c_X5_readLines {l : Launch} {g : Gt} {M : Mem} {Q : Int32 → Mem → Prop} (h : w_X5_readLines M Q) : MI l yX5_readLines cX5_readLines 4 (some .int) 6 129 g layX 68 [.ref (ga g 24), .ref (ga g 12)] M Q :=
  m_of (by decide +kernel) (Nat.le_of_ble_eq_true rfl) (fun p e s m args below meth c ls C hr hk w hl => by
    have C : Cx p s m args c cX5_readLines 4 RX5 g := C
    have hl : lv_has ls 4 [(0, .ref (ga g 24)), (1, .ref (ga g 12))] := hl
    unfold w_X5_readLines at h
    obtain ⟨H, eH⟩ : ∃ H : Heap, H = s.heap := ⟨_, rfl⟩
    obtain ⟨locs, el⟩ : ∃ locs : List Loc, locs = [] := ⟨_, rfl⟩
    have w : Wd g layX 68 s.heap M H locs := by rw [eH, el]; exact w
    suffices hw : W p l e (rmOf 6 129) s m args below meth c H locs 0 0 (MQ below (va_Qi Q (PostW g layX 68) (gF g)) args s 0 0 (gF g)) (F0 m 0 ls []) by rw [eH, el] at hw; exact hw
    clear eH el
    refine lv_aload_n C.1.1 C.1.2.1 dX5_readLines_0 rfl (lv_at hl 1 rfl) ?_
    refine q_cVv C w [] (c_X0_clear isE_12 h) kv_X0_clear k_43 (rcv C w kc_X0 hx_12 lx_12) rfl hl.1 (Nat.le_of_ble_eq_true rfl) ⟨Nat.le_of_ble_eq_true rfl, Nat.le_of_ble_eq_true rfl⟩ dX5_readLines_1 (fun M2 H locs h w => ?_)
    refine lv_aload_n C.1.1 C.1.2.1 dX5_readLines_4 rfl (lv_at hl 0 rfl) ?_
    refine lv_iconst (v := 0) C.1.1 C.1.2.1 dX5_readLines_5 (by decide) ?_
    refine pi_RX5_21 C w hx_24 lx_24 rfl dX5_readLines_6 (fun M3 H locs eM3 w => ?_)
    replace h := h M3 eM3
    refine lv_aload_n C.1.1 C.1.2.1 dX5_readLines_9 rfl (lv_at hl 0 rfl) ?_
    refine lv_iconst (v := 0) C.1.1 C.1.2.1 dX5_readLines_10 (by decide) ?_
    refine pi_RX5_25 C w hx_24 lx_24 rfl dX5_readLines_11 (fun M4 H locs eM4 w => ?_)
    replace h := h M4 eM4
    refine lv_aload_n C.1.1 C.1.2.1 dX5_readLines_14 rfl (lv_at hl 0 rfl) ?_
    refine lv_iconst (v := 0) C.1.1 C.1.2.1 dX5_readLines_15 (by decide) ?_
    refine pi_RX5_28 C w hx_24 lx_24 rfl dX5_readLines_16 (fun M5 H locs eM5 w => ?_)
    replace h := h M5 eM5
    refine lv_aload_n C.1.1 C.1.2.1 dX5_readLines_19 rfl (lv_at hl 0 rfl) ?_
    refine lv_iconst (v := 0) C.1.1 C.1.2.1 dX5_readLines_20 (by decide) ?_
    refine pi_RX5_31 C w hx_24 lx_24 rfl dX5_readLines_21 (fun M6 H locs eM6 w => ?_)
    replace h := h M6 eM6
    refine lv_iconst (v := 0) C.1.1 C.1.2.1 dX5_readLines_24 (by decide) ?_
    refine lv_istore_n (lv' := [(2, .int 0), (0, .ref (ga g 24)), (1, .ref (ga g 12))]) C.1.1 C.1.2.1 dX5_readLines_25 rfl hl (by decide) rfl (fun ls hl => ?_)
    refine lv_iconst (v := 0) C.1.1 C.1.2.1 dX5_readLines_26 (by decide) ?_
    refine lv_istore_n (lv' := [(3, .int 0), (2, .int 0), (0, .ref (ga g 24)), (1, .ref (ga g 12))]) C.1.1 C.1.2.1 dX5_readLines_27 rfl hl (by decide) rfl (fun ls hl => ?_)
    obtain ⟨n, h⟩ := h
    exact l_X5_readLines_28 C hr hk   n _ _ _ _ _ _ h w (lv_sub hl [2, 3, 1, 0] rfl))
end
