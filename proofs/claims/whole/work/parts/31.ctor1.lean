section
variable {p : Program} {l : Launch} {e : Env} {s : State} {m : MethodId} {args : Array Value} {below : List Frame} {meth : Method} {c : Code} {g : Gt}
set_option maxHeartbeats 4000000 in
set_option maxRecDepth 100000 in
theorem vZ_X0_clear_29 {o : Nat} {M : Mem} {Q : Mem → Prop} {H : Heap} {locs : List Loc} {ls : Array Slot} (C : Cx p s m args c cX0_clear 2 RX0 g) (hr : meth.sig.returnType = none) (hk : meth.locks = false) (hE : isZ o)  (h : w_X0_clear_29 o M Q) (w : Wd g layE 10 s.heap M H locs) (hl : lv_has ls 2 [(0, .ref (ga g o))]) : W p l e (rmOf 0 0) s m args below meth c H locs 0 0 (MQ below (va_Qv Q (PostW g layE 10) (gF g)) args s 0 0 (gF g)) (F0 m 29 ls []) := by
  unfold w_X0_clear_29 at h
  refine lv_aload_n C.1.1 C.1.2.1 dX0_clear_29 rfl (lv_at hl 0 rfl) ?_
  refine lv_iconst (v := 0) C.1.1 C.1.2.1 dX0_clear_30 (by decide) ?_
  refine pi_RX0_40 C w (zO hE) (zL hE) rfl dX0_clear_31 (fun M2 H locs eM2 w => ?_)
  replace h := h M2 eM2
  refine lv_aload_n C.1.1 C.1.2.1 dX0_clear_34 rfl (lv_at hl 0 rfl) ?_
  refine lv_iconst (v := 0) C.1.1 C.1.2.1 dX0_clear_35 (by decide) ?_
  refine pi_RX0_44 C w (zO hE) (zL hE) rfl dX0_clear_36 (fun M3 H locs eM3 w => ?_)
  replace h := h M3 eM3
  refine lv_aload_n C.1.1 C.1.2.1 dX0_clear_39 rfl (lv_at hl 0 rfl) ?_
  refine lv_iconst (v := 0) C.1.1 C.1.2.1 dX0_clear_40 (by decide) ?_
  refine pi_RX0_47 C w (zO hE) (zL hE) rfl dX0_clear_41 (fun M4 H locs eM4 w => ?_)
  replace h := h M4 eM4
  refine lv_aload_n C.1.1 C.1.2.1 dX0_clear_44 rfl (lv_at hl 0 rfl) ?_
  refine lv_iconst (v := 0) C.1.1 C.1.2.1 dX0_clear_45 (by decide) ?_
  refine pi_RX0_50 C w (zO hE) (zL hE) rfl dX0_clear_46 (fun M5 H locs eM5 w => ?_)
  replace h := h M5 eM5
  exact q_vret C hr hk w h dX0_clear_49
set_option maxHeartbeats 4000000 in
set_option maxRecDepth 100000 in
theorem vZ_X0_clear_2 {o : Nat} {x1 : Int32} {M : Mem} {K2 : Int32 → Mem → Prop} {Q : Mem → Prop} {H : Heap} {locs : List Loc} {ls : Array Slot} (C : Cx p s m args c cX0_clear 2 RX0 g) (hr : meth.sig.returnType = none) (hk : meth.locks = false) (hE : isZ o) (hK2 : ∀ (x1 : Int32) (M : Mem) (H : Heap) (locs : List Loc) (ls : Array Slot), K2 x1 M → Wd g layE 10 s.heap M H locs → lv_has ls 2 [(0, .ref (ga g o)), (1, .int x1)] → W p l e (rmOf 0 0) s m args below meth c H locs 0 0 (MQ below (va_Qv Q (PostW g layE 10) (gF g)) args s 0 0 (gF g)) (F0 m 2 ls [])) (h : w_X0_clear_2 o Q K2 x1 M) (w : Wd g layE 10 s.heap M H locs) (hl : lv_has ls 2 [(0, .ref (ga g o)), (1, .int x1)]) : W p l e (rmOf 0 0) s m args below meth c H locs 0 0 (MQ below (va_Qv Q (PostW g layE 10) (gF g)) args s 0 0 (gF g)) (F0 m 2 ls []) := by
  unfold w_X0_clear_2 at h
  refine lv_iload_n C.1.1 C.1.2.1 dX0_clear_2 rfl (lv_at hl 1 rfl) ?_
  refine lv_bipush (v := 6) C.1.1 C.1.2.1 dX0_clear_3 (by decide) ?_
  refine lv_icmp_ge (tgt := 29) C.1.1 C.1.2.1 dX0_clear_5 (by decide) (fun hc1 => ?_) (fun hc1 => ?_)
  · replace h := h.1 hc1
    exact vZ_X0_clear_29 C hr hk hE  h w (lv_sub hl [0] rfl)
  · replace h := h.2 hc1
    refine lv_aload_n C.1.1 C.1.2.1 dX0_clear_8 rfl (lv_at hl 0 rfl) ?_
    refine gr_RX0_9 C w (zO hE) (zL hE) rfl dX0_clear_9 ?_
    refine lv_iload_n C.1.1 C.1.2.1 dX0_clear_12 rfl (lv_at hl 1 rfl) ?_
    refine lv_bipush (v := 30) C.1.1 C.1.2.1 dX0_clear_13 (by decide) ?_
    refine q_ias C w (zA0 hE).1 (zA0 hE).2 h.1 dX0_clear_15 (fun M6 H locs eM6 w => ?_)
    replace h := h.2 M6 eM6
    refine lv_aload_n C.1.1 C.1.2.1 dX0_clear_16 rfl (lv_at hl 0 rfl) ?_
    refine gr_RX0_13 C w (zO hE) (zL hE) rfl dX0_clear_17 ?_
    refine lv_iload_n C.1.1 C.1.2.1 dX0_clear_20 rfl (lv_at hl 1 rfl) ?_
    refine lv_iconst (v := 2) C.1.1 C.1.2.1 dX0_clear_21 (by decide) ?_
    refine q_ias C w (zA1 hE).1 (zA1 hE).2 h.1 dX0_clear_22 (fun M7 H locs eM7 w => ?_)
    replace h := h.2 M7 eM7
    refine lv_iinc (v := x1 + 1) (lv' := [(1, .int (x1 + 1)), (0, .ref (ga g o))]) C.1.1 C.1.2.1 dX0_clear_23 hl (k := 1) rfl rfl (by decide) rfl (fun ls hl => ?_)
    refine lv_goto (tgt := 2) C.1.1 C.1.2.1 dX0_clear_26 (by decide) ?_
    exact hK2 _ _ _ _ _ h w (lv_sub hl [1, 0] rfl)
set_option maxHeartbeats 4000000 in
set_option maxRecDepth 100000 in
theorem lZ_X0_clear_2 {o : Nat} {Q : Mem → Prop} (C : Cx p s m args c cX0_clear 2 RX0 g) (hr : meth.sig.returnType = none) (hk : meth.locks = false) (hE : isZ o)  : ∀ (n : Nat) (x1 : Int32) (M : Mem) (H : Heap) (locs : List Loc) (ls : Array Slot), fu2 (w_X0_clear_2 o Q) n x1 M → Wd g layE 10 s.heap M H locs → lv_has ls 2 [(0, .ref (ga g o)), (1, .int x1)] → W p l e (rmOf 0 0) s m args below meth c H locs 0 0 (MQ below (va_Qv Q (PostW g layE 10) (gF g)) args s 0 0 (gF g)) (F0 m 2 ls []) := by
  intro n
  induction n with
  | zero => intro x1 M H locs ls h; exact h.elim
  | succ n ih => intro x1 M H locs ls h w hl; exact vZ_X0_clear_2 C hr hk hE  ih h w hl
set_option maxHeartbeats 4000000 in
set_option maxRecDepth 100000 in
theorem cZ_X0_clear {l : Launch} {g : Gt} {o : Nat} {M : Mem} {Q : Mem → Prop} (hE : isZ o) (h : w_X0_clear o M Q) : MV l yX0_clear cX0_clear 2 none 0 0 g layE 10 [.ref (ga g o)] M Q :=
  m_of (by decide +kernel) (Nat.le_of_ble_eq_true rfl) (fun p e s m args below meth c ls C hr hk w hl => by
    have C : Cx p s m args c cX0_clear 2 RX0 g := C
    have hl : lv_has ls 2 [(0, .ref (ga g o))] := hl
    unfold w_X0_clear at h
    obtain ⟨H, eH⟩ : ∃ H : Heap, H = s.heap := ⟨_, rfl⟩
    obtain ⟨locs, el⟩ : ∃ locs : List Loc, locs = [] := ⟨_, rfl⟩
    have w : Wd g layE 10 s.heap M H locs := by rw [eH, el]; exact w
    suffices hw : W p l e (rmOf 0 0) s m args below meth c H locs 0 0 (MQ below (va_Qv Q (PostW g layE 10) (gF g)) args s 0 0 (gF g)) (F0 m 0 ls []) by rw [eH, el] at hw; exact hw
    clear eH el
    refine lv_iconst (v := 0) C.1.1 C.1.2.1 dX0_clear_0 (by decide) ?_
    refine lv_istore_n (lv' := [(1, .int 0), (0, .ref (ga g o))]) C.1.1 C.1.2.1 dX0_clear_1 rfl hl (by decide) rfl (fun ls hl => ?_)
    obtain ⟨n, h⟩ := h
    exact lZ_X0_clear_2 C hr hk hE  n _ _ _ _ _ h w (lv_sub hl [1, 0] rfl))
end
