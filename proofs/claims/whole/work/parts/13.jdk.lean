theorem kj_RJ0_38 : Cond.fieldLink RJ0 38 "java/lang/String" "COMPACT_STRINGS" "Z" ∈ ALL := aw2 102 (by decide +kernel) rfl
theorem kj_RJ0_15 : Cond.fieldLink RJ0 15 "java/lang/String" "coder" "B" ∈ ALL := aw5 207 (by decide +kernel) rfl
theorem kj_RJ0_9 : Cond.fieldLink RJ0 9 "java/lang/String" "value" "[B" ∈ ALL := aw5 206 (by decide +kernel) rfl
theorem kj_RJ0_1053 : Cond.fieldLink RJ0 1053 "jdk/internal/util/Preconditions" "SIOOBE_FORMATTER" "Ljava/util/function/BiFunction;" ∈ ALL := aw2 118 (by decide +kernel) rfl
theorem kj_RJ0_335 : Cond.methodLink RJ0 335 yJ0_coder_7d493 ∈ ALL := aw2 98 (by decide +kernel) rfl
theorem kj_RJ0_1059 : Cond.methodLink RJ0 1059 yJ3_checkIndex_8e157 ∈ ALL := aw2 120 (by decide +kernel) rfl
theorem kj_RJ1_9 : Cond.methodLink RJ1 9 yJ0_checkIndex_df160 ∈ ALL := aw2 115 (by decide +kernel) rfl
theorem kj_RJ0_492 : Cond.methodLink RJ0 492 yJ0_isLatin1_aae02 ∈ ALL := aw2 108 (by decide +kernel) rfl
theorem kj_RJ0_495 : Cond.methodLink RJ0 495 yJ1_charAt_3b067 ∈ ALL := aw2 112 (by decide +kernel) rfl
theorem kv_J0_coder_7d493 : Kv RJ0 yJ0_coder_7d493 cJ0_coder_7d493 1 (some .byte) 0 := ⟨⟨aw2 99 (by decide +kernel) rfl, aw2 100 (by decide +kernel) rfl, aw1 10 (by decide +kernel) rfl, aw2 101 (by decide +kernel) rfl⟩, by decide +kernel⟩
theorem kv_J0_isLatin1_aae02 : Kv RJ0 yJ0_isLatin1_aae02 cJ0_isLatin1_aae02 1 (some .boolean) 0 := ⟨⟨aw2 109 (by decide +kernel) rfl, aw2 110 (by decide +kernel) rfl, aw1 10 (by decide +kernel) rfl, aw2 111 (by decide +kernel) rfl⟩, by decide +kernel⟩
theorem ks_J1_charAt_3b067 : Ks yJ1_charAt_3b067 cJ1_charAt_3b067 2 (some .char) 2 := ⟨⟨aw2 113 (by decide +kernel) rfl, aw1 11 (by decide +kernel) rfl, aw2 114 (by decide +kernel) rfl⟩, by decide +kernel⟩
theorem ks_J0_checkIndex_df160 : Ks yJ0_checkIndex_df160 cJ0_checkIndex_df160 2 none 2 := ⟨⟨aw2 116 (by decide +kernel) rfl, aw1 10 (by decide +kernel) rfl, aw2 117 (by decide +kernel) rfl⟩, by decide +kernel⟩
theorem ks_J3_checkIndex_8e157 : Ks yJ3_checkIndex_8e157 cJ3_checkIndex_8e157 3 (some .int) 3 := ⟨⟨aw2 121 (by decide +kernel) rfl, aw1 12 (by decide +kernel) rfl, aw2 122 (by decide +kernel) rfl⟩, by decide +kernel⟩
section JR
variable {p : Program} {l : Launch} {e : Env} {R : Room} {s : State} {m : MethodId} {args : Array Value} {below : List Frame} {meth : Method} {c : Code} {H : Heap} {locs : List Loc} {Qs : State → Prop}
variable {cc : ByteArray} {pc nL i : Nat} {ls : Array Slot} {rest : List Value} {g : Gt} {lay : Nat → Lay} {N : Nat} {M : Mem}
theorem q_gsC (C : Cx p s m args c cc nL RJ0 g) (w : Wd g lay N s.heap M H locs) (hdg : decode cc pc = .ok (.getstatic 38, 3))
    (kk : W p l e R s m args below meth c H locs 0 0 Qs (F0 m (pc + 3) ls (.int 1 :: rest))) : W p l e R s m args below meth c H locs 0 0 Qs (F0 m pc ls rest) :=
  va_gets C.1.1 C.1.2.1 C.2.2.1.2.2.2.2.2.1 w.2.2 C.1.2.2.2.1 (C.1.2.2.2.2 _ kj_RJ0_38) (fun _ h => h) hdg kk
theorem q_tc (C : Cx p s m args c cc nL RJ0 g) (w : Wd g lay N s.heap M H locs) (hi : i < 6) (hdg : decode cc pc = .ok (.getfield 15, 3))
    (kk : W p l e R s m args below meth c H locs 0 0 Qs (F0 m (pc + 3) ls (.int 0 :: rest))) : W p l e R s m args below meth c H locs 0 0 Qs (F0 m pc ls (.ref (gK g i) :: rest)) :=
  vk_getf C.1.1 C.1.2.1 (C.2.2.1.2.2.2.2.1.1 i hi).2.1 w.2.2 C.1.2.2.2.1 (C.1.2.2.2.2 _ kj_RJ0_15) (fun _ h => h) hdg kk
theorem q_tv (C : Cx p s m args c cc nL RJ0 g) (w : Wd g lay N s.heap M H locs) (hi : i < 6) (hdg : decode cc pc = .ok (.getfield 9, 3))
    (kk : W p l e R s m args below meth c H locs 0 0 Qs (F0 m (pc + 3) ls (.ref (gV g i) :: rest))) : W p l e R s m args below meth c H locs 0 0 Qs (F0 m pc ls (.ref (gK g i) :: rest)) :=
  vk_getf C.1.1 C.1.2.1 (C.2.2.1.2.2.2.2.1.1 i hi).2.2.1 w.2.2 C.1.2.2.2.1 (C.1.2.2.2.2 _ kj_RJ0_9) (fun _ h => h) hdg kk
theorem q_tl {own : String} (C : Cx p s m args c cc nL own g) (w : Wd g lay N s.heap M H locs) (hi : i < 6) (hdg : decode cc pc = .ok (.arraylength, 1))
    (kk : W p l e R s m args below meth c H locs 0 0 Qs (F0 m (pc + 1) ls (.int (nI (txLen.getD i 0)) :: rest))) : W p l e R s m args below meth c H locs 0 0 Qs (F0 m pc ls (.ref (gV g i) :: rest)) :=
  va_tlen C.1.1 C.1.2.1 (C.2.2.1.2.2.2.2.1.1 i hi).2.2.2 w.2.2 rfl hdg kk
theorem q_tb {own : String} (C : Cx p s m args c cc nL own g) (w : Wd g lay N s.heap M H locs) (hi : i < 6) {k : Int32} (hin : vp_in k (txLen.getD i 0)) (hdg : decode cc pc = .ok (.baload, 1))
    (kk : W p l e R s m args below meth c H locs 0 0 Qs (F0 m (pc + 1) ls (.int ((txByt.getD i []).getD k.toNatClampNeg 0) :: rest))) : W p l e R s m args below meth c H locs 0 0 Qs (F0 m pc ls (.int k :: .ref (gV g i) :: rest)) :=
  va_tb C.1.1 C.1.2.1 (C.2.2.1.2.2.2.2.1.1 i hi).2.2.2 w.2.2 hin rfl hdg kk
end JR
set_option maxHeartbeats 4000000 in
set_option maxRecDepth 100000 in
theorem c_J0_coder_7d493 {l : Launch} {g : Gt} {i : Nat} {M : Mem} {Q : Int32 → Prop} (hI : i < 6) (h : Q 0) : MI l yJ0_coder_7d493 cJ0_coder_7d493 1 (some .byte) 0 0 g layX 68 [.ref (gK g i)] M (fun r M9 => M9 = M ∧ Q r) :=
  m_of (by decide +kernel) (Nat.le_of_ble_eq_true rfl) (fun p e s m args below meth c ls C hr hk w hl => by
    have C : Cx p s m args c cJ0_coder_7d493 1 RJ0 g := C
    have hl : lv_has ls 1 [(0, .ref (gK g i))] := hl
    obtain ⟨H, eH⟩ : ∃ H : Heap, H = s.heap := ⟨_, rfl⟩
    obtain ⟨locs, el⟩ : ∃ locs : List Loc, locs = [] := ⟨_, rfl⟩
    have w : Wd g layX 68 s.heap M H locs := by rw [eH, el]; exact w
    suffices hw : W p l e (rmOf 0 0) s m args below meth c H locs 0 0 (MQ below (va_Qi (fun r M9 => M9 = M ∧ Q r) (PostW g layX 68) (gF g)) args s 0 0 (gF g)) (F0 m 0 ls []) by rw [eH, el] at hw; exact hw
    clear eH el
    refine q_gsC C w dJ0_coder_7d493_0 ?_
    refine lv_if_eq (tgt := 13) C.1.1 C.1.2.1 dJ0_coder_7d493_3 (by decide) (fun hc => absurd hc (by decide)) (fun _ => ?_)
    refine lv_aload_n C.1.1 C.1.2.1 dJ0_coder_7d493_6 rfl (lv_at hl 0 rfl) ?_
    refine q_tc C w hI dJ0_coder_7d493_7 ?_
    refine lv_goto (tgt := 14) C.1.1 C.1.2.1 dJ0_coder_7d493_10 (by decide) ?_
    exact q_iret C hr hk w rfl ⟨rfl, h⟩ dJ0_coder_7d493_14)
set_option maxHeartbeats 4000000 in
set_option maxRecDepth 100000 in
theorem c_J0_isLatin1_aae02 {l : Launch} {g : Gt} {i : Nat} {M : Mem} {Q : Int32 → Prop} (hI : i < 6) (h : Q 1) : MI l yJ0_isLatin1_aae02 cJ0_isLatin1_aae02 1 (some .boolean) 0 0 g layX 68 [.ref (gK g i)] M (fun r M9 => M9 = M ∧ Q r) :=
  m_of (by decide +kernel) (Nat.le_of_ble_eq_true rfl) (fun p e s m args below meth c ls C hr hk w hl => by
    have C : Cx p s m args c cJ0_isLatin1_aae02 1 RJ0 g := C
    have hl : lv_has ls 1 [(0, .ref (gK g i))] := hl
    obtain ⟨H, eH⟩ : ∃ H : Heap, H = s.heap := ⟨_, rfl⟩
    obtain ⟨locs, el⟩ : ∃ locs : List Loc, locs = [] := ⟨_, rfl⟩
    have w : Wd g layX 68 s.heap M H locs := by rw [eH, el]; exact w
    suffices hw : W p l e (rmOf 0 0) s m args below meth c H locs 0 0 (MQ below (va_Qi (fun r M9 => M9 = M ∧ Q r) (PostW g layX 68) (gF g)) args s 0 0 (gF g)) (F0 m 0 ls []) by rw [eH, el] at hw; exact hw
    clear eH el
    refine q_gsC C w dJ0_isLatin1_aae02_0 ?_
    refine lv_if_eq (tgt := 17) C.1.1 C.1.2.1 dJ0_isLatin1_aae02_3 (by decide) (fun hc => absurd hc (by decide)) (fun _ => ?_)
    refine lv_aload_n C.1.1 C.1.2.1 dJ0_isLatin1_aae02_6 rfl (lv_at hl 0 rfl) ?_
    refine q_tc C w hI dJ0_isLatin1_aae02_7 ?_
    refine lv_if_ne (tgt := 17) C.1.1 C.1.2.1 dJ0_isLatin1_aae02_10 (by decide) (fun hc => absurd rfl hc) (fun _ => ?_)
    refine lv_iconst (v := 1) C.1.1 C.1.2.1 dJ0_isLatin1_aae02_13 (by decide) ?_
    refine lv_goto (tgt := 18) C.1.1 C.1.2.1 dJ0_isLatin1_aae02_14 (by decide) ?_
    exact q_iret C hr hk w rfl ⟨rfl, h⟩ dJ0_isLatin1_aae02_18)
def w_J0_length_8abf5 (i : Nat) (M : Mem) (Q : Int32 → Prop) : Prop := Q (sr (nI (txLen.getD i 0)) 0)
set_option maxHeartbeats 4000000 in
set_option maxRecDepth 100000 in
theorem c_J0_length_8abf5 {l : Launch} {g : Gt} {i : Nat} {M : Mem} {Q : Int32 → Prop} (hI : i < 6) (h : w_J0_length_8abf5 i M Q) : MI l yJ0_length_8abf5 cJ0_length_8abf5 1 (some .int) 1 20 g layX 68 [.ref (gK g i)] M (fun r M9 => M9 = M ∧ Q r) :=
  m_of (by decide +kernel) (Nat.le_of_ble_eq_true rfl) (fun p e s m args below meth c ls C hr hk w hl => by
    have C : Cx p s m args c cJ0_length_8abf5 1 RJ0 g := C
    have hl : lv_has ls 1 [(0, .ref (gK g i))] := hl
    obtain ⟨H, eH⟩ : ∃ H : Heap, H = s.heap := ⟨_, rfl⟩
    obtain ⟨locs, el⟩ : ∃ locs : List Loc, locs = [] := ⟨_, rfl⟩
    have w : Wd g layX 68 s.heap M H locs := by rw [eH, el]; exact w
    suffices hw : W p l e (rmOf 1 20) s m args below meth c H locs 0 0 (MQ below (va_Qi (fun r M9 => M9 = M ∧ Q r) (PostW g layX 68) (gF g)) args s 0 0 (gF g)) (F0 m 0 ls []) by rw [eH, el] at hw; exact hw
    clear eH el
    refine lv_aload_n C.1.1 C.1.2.1 dJ0_length_8abf5_0 rfl (lv_at hl 0 rfl) ?_
    refine q_tv C w hI dJ0_length_8abf5_1 ?_
    refine q_tl C w hI dJ0_length_8abf5_4 ?_
    refine lv_aload_n C.1.1 C.1.2.1 dJ0_length_8abf5_5 rfl (lv_at hl 0 rfl) ?_
    refine q_pVi C w [] (c_J0_coder_7d493 (Q := fun r => r = 0) hI rfl) kv_J0_coder_7d493 kj_RJ0_335 (rcvT C w hI) rfl hl.1 (Nat.le_of_ble_eq_true rfl) ⟨Nat.le_of_ble_eq_true rfl, Nat.le_of_ble_eq_true rfl⟩ dJ0_length_8abf5_6 (fun r H locs hq w => ?_)
    subst hq
    refine q_ishr C dJ0_length_8abf5_9 ?_
    exact q_iret C hr hk w rfl ⟨rfl, h⟩ dJ0_length_8abf5_10)
set_option maxHeartbeats 4000000 in
set_option maxRecDepth 100000 in
theorem c_J3_checkIndex_8e157 {l : Launch} {g : Gt} {x0 x1 : Int32} {fv : Value} {M : Mem} {Q : Int32 → Prop} (hf : (lg_sl [.int x0, .int x1, fv]).length ≤ 3) (hv : lv_args 0 [.int x0, .int x1, fv] = [(0, .int x0), (1, .int x1), (2, fv)]) (h0 : ¬ x0 < 0) (h1 : x0 < x1) (h : Q x0) : MI l yJ3_checkIndex_8e157 cJ3_checkIndex_8e157 3 (some .int) 0 0 g layX 68 [.int x0, .int x1, fv] M (fun r M9 => M9 = M ∧ Q r) :=
  m_of (by decide +kernel) hf (fun p e s m args below meth c ls C hr hk w hl => by
    have C : Cx p s m args c cJ3_checkIndex_8e157 3 RJ3 g := C
    have hl : lv_has ls 3 [(0, .int x0), (1, .int x1), (2, fv)] := by rw [← hv]; exact hl
    obtain ⟨H, eH⟩ : ∃ H : Heap, H = s.heap := ⟨_, rfl⟩
    obtain ⟨locs, el⟩ : ∃ locs : List Loc, locs = [] := ⟨_, rfl⟩
    have w : Wd g layX 68 s.heap M H locs := by rw [eH, el]; exact w
    suffices hw : W p l e (rmOf 0 0) s m args below meth c H locs 0 0 (MQ below (va_Qi (fun r M9 => M9 = M ∧ Q r) (PostW g layX 68) (gF g)) args s 0 0 (gF g)) (F0 m 0 ls []) by rw [eH, el] at hw; exact hw
    clear eH el
    refine lv_iload_n C.1.1 C.1.2.1 dJ3_checkIndex_8e157_0 rfl (lv_at hl 0 rfl) ?_
    refine lv_if_lt (tgt := 9) C.1.1 C.1.2.1 dJ3_checkIndex_8e157_1 (by decide) (fun hc => absurd hc h0) (fun _ => ?_)
    refine lv_iload_n C.1.1 C.1.2.1 dJ3_checkIndex_8e157_4 rfl (lv_at hl 0 rfl) ?_
    refine lv_iload_n C.1.1 C.1.2.1 dJ3_checkIndex_8e157_5 rfl (lv_at hl 1 rfl) ?_
    refine lv_icmp_lt (tgt := 16) C.1.1 C.1.2.1 dJ3_checkIndex_8e157_6 (by decide) (fun _ => ?_) (fun hc => absurd h1 hc)
    refine lv_iload_n C.1.1 C.1.2.1 dJ3_checkIndex_8e157_16 rfl (lv_at hl 0 rfl) ?_
    exact q_iret C hr hk w rfl ⟨rfl, h⟩ dJ3_checkIndex_8e157_17)
set_option maxHeartbeats 4000000 in
set_option maxRecDepth 100000 in
theorem c_J0_checkIndex_df160 {l : Launch} {g : Gt} {x0 x1 : Int32} {M : Mem} {Q : Mem → Prop} (h0 : ¬ x0 < 0) (h1 : x0 < x1) (h : Q M) : MV l yJ0_checkIndex_df160 cJ0_checkIndex_df160 2 none 1 22 g layX 68 [.int x0, .int x1] M Q :=
  m_of (by decide +kernel) (Nat.le_of_ble_eq_true rfl) (fun p e s m args below meth c ls C hr hk w hl => by
    have C : Cx p s m args c cJ0_checkIndex_df160 2 RJ0 g := C
    have hl : lv_has ls 2 [(0, .int x0), (1, .int x1)] := hl
    obtain ⟨H, eH⟩ : ∃ H : Heap, H = s.heap := ⟨_, rfl⟩
    obtain ⟨locs, el⟩ : ∃ locs : List Loc, locs = [] := ⟨_, rfl⟩
    have w : Wd g layX 68 s.heap M H locs := by rw [eH, el]; exact w
    suffices hw : W p l e (rmOf 1 22) s m args below meth c H locs 0 0 (MQ below (va_Qv Q (PostW g layX 68) (gF g)) args s 0 0 (gF g)) (F0 m 0 ls []) by rw [eH, el] at hw; exact hw
    clear eH el
    refine lv_iload_n C.1.1 C.1.2.1 dJ0_checkIndex_df160_0 rfl (lv_at hl 0 rfl) ?_
    refine lv_iload_n C.1.1 C.1.2.1 dJ0_checkIndex_df160_1 rfl (lv_at hl 1 rfl) ?_
    rcases C.2.2.1.2.2.2.2.2.2 with hz | ⟨t, hz⟩
    · refine va_gets C.1.1 C.1.2.1 hz w.2.2 C.1.2.2.2.1 (C.1.2.2.2.2 _ kj_RJ0_1053) (fun _ h => h) dJ0_checkIndex_df160_2 ?_
      refine q_pSi C w [.int x0, .int x1, .null] (c_J3_checkIndex_8e157 (Q := fun r => r = x0) (Nat.le_of_ble_eq_true rfl) rfl h0 h1 rfl) ks_J3_checkIndex_8e157 kj_RJ0_1059 rfl hl.1 (Nat.le_of_ble_eq_true rfl) ⟨Nat.le_of_ble_eq_true rfl, Nat.le_of_ble_eq_true rfl⟩ dJ0_checkIndex_df160_5 (fun r H locs hq w => ?_)
      refine lv_pop C.1.1 C.1.2.1 dJ0_checkIndex_df160_8 rfl ?_
      exact q_vret C hr hk w h dJ0_checkIndex_df160_9
    · refine va_gets C.1.1 C.1.2.1 hz w.2.2 C.1.2.2.2.1 (C.1.2.2.2.2 _ kj_RJ0_1053) (fun _ h => h) dJ0_checkIndex_df160_2 ?_
      refine q_pSi C w [.int x0, .int x1, .ref t] (c_J3_checkIndex_8e157 (Q := fun r => r = x0) (Nat.le_of_ble_eq_true rfl) rfl h0 h1 rfl) ks_J3_checkIndex_8e157 kj_RJ0_1059 rfl hl.1 (Nat.le_of_ble_eq_true rfl) ⟨Nat.le_of_ble_eq_true rfl, Nat.le_of_ble_eq_true rfl⟩ dJ0_checkIndex_df160_5 (fun r H locs hq w => ?_)
      refine lv_pop C.1.1 C.1.2.1 dJ0_checkIndex_df160_8 rfl ?_
      exact q_vret C hr hk w h dJ0_checkIndex_df160_9)
/-- a text's char -/
def chT (i k : Nat) : Int32 := ((((txByt.getD i []).getD k 0) &&& 255).toUInt32 % 65536).toInt32
set_option maxHeartbeats 4000000 in
set_option maxRecDepth 100000 in
theorem c_J1_charAt_3b067 {l : Launch} {g : Gt} {i : Nat} {x1 : Int32} {M : Mem} {Q : Int32 → Prop} (hI : i < 6) (hin : vp_in x1 (txLen.getD i 0)) (h0 : ¬ x1 < 0) (h1 : x1 < nI (txLen.getD i 0)) (h : Q (chT i x1.toNatClampNeg)) : MI l yJ1_charAt_3b067 cJ1_charAt_3b067 2 (some .char) 2 43 g layX 68 [.ref (gV g i), .int x1] M (fun r M9 => M9 = M ∧ Q r) :=
  m_of (by decide +kernel) (Nat.le_of_ble_eq_true rfl) (fun p e s m args below meth c ls C hr hk w hl => by
    have C : Cx p s m args c cJ1_charAt_3b067 2 RJ1 g := C
    have hl : lv_has ls 2 [(0, .ref (gV g i)), (1, .int x1)] := hl
    obtain ⟨H, eH⟩ : ∃ H : Heap, H = s.heap := ⟨_, rfl⟩
    obtain ⟨locs, el⟩ : ∃ locs : List Loc, locs = [] := ⟨_, rfl⟩
    have w : Wd g layX 68 s.heap M H locs := by rw [eH, el]; exact w
    suffices hw : W p l e (rmOf 2 43) s m args below meth c H locs 0 0 (MQ below (va_Qi (fun r M9 => M9 = M ∧ Q r) (PostW g layX 68) (gF g)) args s 0 0 (gF g)) (F0 m 0 ls []) by rw [eH, el] at hw; exact hw
    clear eH el
    refine lv_iload_n C.1.1 C.1.2.1 dJ1_charAt_3b067_0 rfl (lv_at hl 1 rfl) ?_
    refine lv_aload_n C.1.1 C.1.2.1 dJ1_charAt_3b067_1 rfl (lv_at hl 0 rfl) ?_
    refine q_tl C w hI dJ1_charAt_3b067_2 ?_
    refine q_cSv C w [.int x1, .int (nI (txLen.getD i 0))] (c_J0_checkIndex_df160 (Q := fun M1 => M1 = M) h0 h1 rfl) ks_J0_checkIndex_df160 kj_RJ1_9 rfl hl.1 (Nat.le_of_ble_eq_true rfl) ⟨Nat.le_of_ble_eq_true rfl, Nat.le_of_ble_eq_true rfl⟩ dJ1_charAt_3b067_3 (fun M1 H locs hq w => ?_)
    rw [hq] at w
    refine lv_aload_n C.1.1 C.1.2.1 dJ1_charAt_3b067_6 rfl (lv_at hl 0 rfl) ?_
    refine lv_iload_n C.1.1 C.1.2.1 dJ1_charAt_3b067_7 rfl (lv_at hl 1 rfl) ?_
    refine q_tb C w hI hin dJ1_charAt_3b067_8 ?_
    refine lv_sipush (v := 255) C.1.1 C.1.2.1 dJ1_charAt_3b067_9 (by decide) ?_
    refine lv_iand C.1.1 C.1.2.1 dJ1_charAt_3b067_12 ?_
    refine lv_i2c C.1.1 C.1.2.1 dJ1_charAt_3b067_13 rfl ?_
    exact q_iret C hr hk w (pk_nc _) ⟨rfl, h⟩ dJ1_charAt_3b067_14)
def w_J0_charAt_5068e (i : Nat) (x1 : Int32) (M : Mem) (Q : Int32 → Prop) : Prop := vp_in x1 (txLen.getD i 0) ∧ Q (chT i x1.toNatClampNeg)
theorem txLen_lt : ∀ i, i < 6 → txLen.getD i 0 < 7 := by decide
set_option maxHeartbeats 4000000 in
set_option maxRecDepth 100000 in
theorem c_J0_charAt_5068e {l : Launch} {g : Gt} {i : Nat} {x1 : Int32} {M : Mem} {Q : Int32 → Prop} (hI : i < 6) (h : w_J0_charAt_5068e i x1 M Q) : MI l yJ0_charAt_5068e cJ0_charAt_5068e 2 (some .char) 3 64 g layX 68 [.ref (gK g i), .int x1] M (fun r M9 => M9 = M ∧ Q r) :=
  m_of (by decide +kernel) (Nat.le_of_ble_eq_true rfl) (fun p e s m args below meth c ls C hr hk w hl => by
    have C : Cx p s m args c cJ0_charAt_5068e 2 RJ0 g := C
    have hl : lv_has ls 2 [(0, .ref (gK g i)), (1, .int x1)] := hl
    obtain ⟨H, eH⟩ : ∃ H : Heap, H = s.heap := ⟨_, rfl⟩
    obtain ⟨locs, el⟩ : ∃ locs : List Loc, locs = [] := ⟨_, rfl⟩
    have w : Wd g layX 68 s.heap M H locs := by rw [eH, el]; exact w
    suffices hw : W p l e (rmOf 3 64) s m args below meth c H locs 0 0 (MQ below (va_Qi (fun r M9 => M9 = M ∧ Q r) (PostW g layX 68) (gF g)) args s 0 0 (gF g)) (F0 m 0 ls []) by rw [eH, el] at hw; exact hw
    clear eH el
    obtain ⟨hin, h⟩ := h
    have h7 := txLen_lt i hI
    obtain ⟨j, hj, ej⟩ := vp_in_of hin (by omega)
    have h0 : ¬ x1 < 0 := by rw [ej]; exact nI_pos (by omega)
    have h1 : x1 < nI (txLen.getD i 0) := by rw [ej]; exact nI_lt hj (by omega)
    refine lv_aload_n C.1.1 C.1.2.1 dJ0_charAt_5068e_0 rfl (lv_at hl 0 rfl) ?_
    refine q_pVi C w [] (c_J0_isLatin1_aae02 (Q := fun r => r = 1) hI rfl) kv_J0_isLatin1_aae02 kj_RJ0_492 (rcvT C w hI) rfl hl.1 (Nat.le_of_ble_eq_true rfl) ⟨Nat.le_of_ble_eq_true rfl, Nat.le_of_ble_eq_true rfl⟩ dJ0_charAt_5068e_1 (fun r H locs hq w => ?_)
    subst hq
    refine lv_if_eq (tgt := 16) C.1.1 C.1.2.1 dJ0_charAt_5068e_4 (by decide) (fun hc => absurd hc (by decide)) (fun _ => ?_)
    refine lv_aload_n C.1.1 C.1.2.1 dJ0_charAt_5068e_7 rfl (lv_at hl 0 rfl) ?_
    refine q_tv C w hI dJ0_charAt_5068e_8 ?_
    refine lv_iload_n C.1.1 C.1.2.1 dJ0_charAt_5068e_11 rfl (lv_at hl 1 rfl) ?_
    refine q_pSi C w [.ref (gV g i), .int x1] (c_J1_charAt_3b067 (Q := fun r => r = chT i x1.toNatClampNeg) hI hin h0 h1 rfl) ks_J1_charAt_3b067 kj_RJ0_495 rfl hl.1 (Nat.le_of_ble_eq_true rfl) ⟨Nat.le_of_ble_eq_true rfl, Nat.le_of_ble_eq_true rfl⟩ dJ0_charAt_5068e_12 (fun r H locs hq w => ?_)
    subst hq
    exact q_iret C hr hk w (pk_nc _) ⟨rfl, h⟩ dJ0_charAt_5068e_15)
