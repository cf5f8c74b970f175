theorem fa_lt' (a b : Int32) : a < b ↔ a.toInt < b.toInt := Int32.lt_iff_toInt_lt
theorem law_sub {L : Nat} (h : L ≤ 320) : (nI L - nI 5).toInt = (L : Int) - 5 := pk_sub_toInt (by omega) (by omega)
section
variable {p : Program} {l : Launch} {e : Env} {s : State} {m : MethodId} {below : List Frame} {meth : Method} {c : Code} {b L : Nat} {xs : Nat → Int32} {gX gM : Gt} {Rel : Mem → Mem → Prop} {X M : Mem}
set_option maxHeartbeats 8000000 in
set_option maxRecDepth 200000 in
theorem law_loop (hO : Ops Rel) (C : LC p s m c b L xs gX gM) (hr : meth.sig.returnType = ret) (hlk : meth.locks = false) (hL : L ≤ 320) : ∀ (n i : Nat) (X M : Mem) (H : Heap) (locs : List Loc) (ls : Array Slot), L + 5 < n + i → i ≤ L + 5 → Rel X M → LW s gX gM X M H locs → lv_has ls 4 [(0, .ref b), (1, .ref (ga gX 0)), (2, .ref (ga gM 0)), (3, .int (nI i))] → W p l e room_1 s m #[Value.ref b] below meth c H locs 600000 7302250 (lw_Z below #[Value.ref b] s) (F0 m 18 ls []) := by
  intro n
  induction n with
  | zero => intro i X M H locs ls hn hi; omega
  | succ n ih =>
    intro i X M H locs ls hn hi5 hR w hl
    refine lv_iload_n C.1.1.1 C.1.1.2.1 dL_law_18 rfl (lv_at hl 3 rfl) ?_
    refine lv_aload_n C.1.1.1 C.1.1.2.1 dL_law_19 rfl (lv_at hl 0 rfl) ?_
    refine va_slen C.1.1.1 C.1.1.2.1 C.2.2.1 C.2.2.2.1 (Nat.not_le.mpr C.2.2.2.1) w.2.2.2.2 dL_law_20 ?_
    refine lv_iconst (v := 5) C.1.1.1 C.1.1.2.1 dL_law_21 (by decide) ?_
    refine lv_isub C.1.1.1 C.1.1.2.1 dL_law_22 ?_
    refine lv_icmp_gt (tgt := 1583) C.1.1.1 C.1.1.2.1 dL_law_23 (by decide) (fun hc => ?_) (fun hc => ?_)
    · refine lv_iconst (v := 1) C.1.1.1 C.1.1.2.1 dL_law_1583 (by decide) ?_
      refine va_forget (fun q hq => w.2.2.2.2.2.2 q hq) ?_
      exact lw_ret C.1.1.1 C.1.1.2.1 hr hlk dL_law_1584
    · have hi : i + 5 ≤ L := by
        rcases Nat.lt_or_ge L (i + 5) with q | q
        · refine absurd ?_ hc
          show nI L - nI 5 < nI i
          rw [fa_lt', law_sub (by omega), nI_toInt (by omega)]
          omega
        · exact q
      refine lv_aload_n C.1.1.1 C.1.1.2.1 dL_law_26 rfl (lv_at hl 0 rfl) ?_
      refine lv_iload_n C.1.1.1 C.1.1.2.1 dL_law_27 rfl (lv_at hl 3 rfl) ?_
      refine va_sld C.1.1.1 C.1.1.2.1 C.2.2.1 C.2.2.2.1 (Nat.not_le.mpr C.2.2.2.1) w.2.2.2.2 (vp_in_nI (by omega) (by omega)) dL_law_28 ?_
      refine lv_bipush (v := 63) C.1.1.1 C.1.1.2.1 dL_law_29 (by decide) ?_
      refine lv_iand C.1.1.1 C.1.1.2.1 dL_law_31 ?_
      have hnext : ∀ (X M : Mem) (H : Heap) (locs : List Loc) (ls : Array Slot), Rel X M → LW s gX gM X M H locs → lv_has ls 4 [(0, .ref b), (1, .ref (ga gX 0)), (2, .ref (ga gM 0)), (3, .int (nI i))] → W p l e room_1 s m #[Value.ref b] below meth c H locs 600000 7302250 (lw_Z below #[Value.ref b] s) (F0 m 1577 ls []) := by
        intro X M H locs ls hR w hl
        refine lv_iinc (v := nI (i + 5)) (lv' := [(3, .int (nI (i + 5))), (0, .ref b), (1, .ref (ga gX 0)), (2, .ref (ga gM 0))]) C.1.1.1 C.1.1.2.1 dL_law_1577 hl (k := 3) rfl (nI_add i 5) (by decide) rfl (fun ls hl => ?_)
        refine lv_goto (tgt := 18) C.1.1.1 C.1.1.2.1 dL_law_1580 (by decide) ?_
        exact ih (i + 5) X M H locs ls (by omega) (by omega) hR w (lv_sub hl [1, 2, 3, 0] rfl)
      obtain ⟨j, hj, ej⟩ := pk_andE (xs (nI i).toNatClampNeg) (m := 63) 6 (by decide)
      generalize hx : xs (nI i).toNatClampNeg &&& 63 = x at ej ⊢
      match j, hj, ej with
      | 0, _, ej => exact (fun (ex : x = nI 0) => lv_tableIn (off := 180) (tgt := 212) C.1.1.1 C.1.1.2.1 dL_law_32 (by rw [ex]; decide) (by rw [ex]; decide) (by rw [ex]; decide) (by decide) (law_0 hO.1 C hL hi hnext hR w hl)) ej
      | 1, _, ej => exact (fun (ex : x = nI 1) => lv_tableIn (off := 203) (tgt := 235) C.1.1.1 C.1.1.2.1 dL_law_32 (by rw [ex]; decide) (by rw [ex]; decide) (by rw [ex]; decide) (by decide) (law_1 hO.2.1 C hL hi hnext hR w hl)) ej
      | 2, _, ej => exact (fun (ex : x = nI 2) => lv_tableIn (off := 226) (tgt := 258) C.1.1.1 C.1.1.2.1 dL_law_32 (by rw [ex]; decide) (by rw [ex]; decide) (by rw [ex]; decide) (by decide) (law_2 hO.2.2.1 C hL hi hnext hR w hl)) ej
      | 3, _, ej => exact (fun (ex : x = nI 3) => lv_tableIn (off := 239) (tgt := 271) C.1.1.1 C.1.1.2.1 dL_law_32 (by rw [ex]; decide) (by rw [ex]; decide) (by rw [ex]; decide) (by decide) (law_3 hO.2.2.2.1 C hL hi hnext hR w hl)) ej
      | 4, _, ej => exact (fun (ex : x = nI 4) => lv_tableIn (off := 252) (tgt := 284) C.1.1.1 C.1.1.2.1 dL_law_32 (by rw [ex]; decide) (by rw [ex]; decide) (by rw [ex]; decide) (by decide) (law_4 hO.2.2.2.2.1 C hL hi hnext hR w hl)) ej
      | 5, _, ej => exact (fun (ex : x = nI 5) => lv_tableIn (off := 275) (tgt := 307) C.1.1.1 C.1.1.2.1 dL_law_32 (by rw [ex]; decide) (by rw [ex]; decide) (by rw [ex]; decide) (by decide) (law_5 hO.2.2.2.2.2.1 C hL hi hnext hR w hl)) ej
      | 6, _, ej => exact (fun (ex : x = nI 6) => lv_tableIn (off := 308) (tgt := 340) C.1.1.1 C.1.1.2.1 dL_law_32 (by rw [ex]; decide) (by rw [ex]; decide) (by rw [ex]; decide) (by decide) (law_6 hO.2.2.2.2.2.2.1 C hL hi hnext hR w hl)) ej
      | 7, _, ej => exact (fun (ex : x = nI 7) => lv_tableIn (off := 341) (tgt := 373) C.1.1.1 C.1.1.2.1 dL_law_32 (by rw [ex]; decide) (by rw [ex]; decide) (by rw [ex]; decide) (by decide) (law_7 hO.2.2.2.2.2.2.2.1 C hL hi hnext hR w hl)) ej
      | 8, _, ej => exact (fun (ex : x = nI 8) => lv_tableIn (off := 374) (tgt := 406) C.1.1.1 C.1.1.2.1 dL_law_32 (by rw [ex]; decide) (by rw [ex]; decide) (by rw [ex]; decide) (by decide) (law_8 hO.2.2.2.2.2.2.2.2.1 C hL hi hnext hR w hl)) ej
      | 9, _, ej => exact (fun (ex : x = nI 9) => lv_tableIn (off := 417) (tgt := 449) C.1.1.1 C.1.1.2.1 dL_law_32 (by rw [ex]; decide) (by rw [ex]; decide) (by rw [ex]; decide) (by decide) (law_9 hO.2.2.2.2.2.2.2.2.2.1 C hL hi hnext hR w hl)) ej
      | 10, _, ej => exact (fun (ex : x = nI 10) => lv_tableIn (off := 460) (tgt := 492) C.1.1.1 C.1.1.2.1 dL_law_32 (by rw [ex]; decide) (by rw [ex]; decide) (by rw [ex]; decide) (by decide) (law_10 hO.2.2.2.2.2.2.2.2.2.2.1 C hL hi hnext hR w hl)) ej
      | 11, _, ej => exact (fun (ex : x = nI 11) => lv_tableIn (off := 503) (tgt := 535) C.1.1.1 C.1.1.2.1 dL_law_32 (by rw [ex]; decide) (by rw [ex]; decide) (by rw [ex]; decide) (by decide) (law_11 hO.2.2.2.2.2.2.2.2.2.2.2.1 C hL hi hnext hR w hl)) ej
      | 12, _, ej => exact (fun (ex : x = nI 12) => lv_tableIn (off := 526) (tgt := 558) C.1.1.1 C.1.1.2.1 dL_law_32 (by rw [ex]; decide) (by rw [ex]; decide) (by rw [ex]; decide) (by decide) (law_12 hO.2.2.2.2.2.2.2.2.2.2.2.2.1 C hL hi hnext hR w hl)) ej
      | 13, _, ej => exact (fun (ex : x = nI 13) => lv_tableIn (off := 569) (tgt := 601) C.1.1.1 C.1.1.2.1 dL_law_32 (by rw [ex]; decide) (by rw [ex]; decide) (by rw [ex]; decide) (by decide) (law_13 hO.2.2.2.2.2.2.2.2.2.2.2.2.2.1 C hL hi hnext hR w hl)) ej
      | 14, _, ej => exact (fun (ex : x = nI 14) => lv_tableIn (off := 592) (tgt := 624) C.1.1.1 C.1.1.2.1 dL_law_32 (by rw [ex]; decide) (by rw [ex]; decide) (by rw [ex]; decide) (by decide) (law_14 hO.2.2.2.2.2.2.2.2.2.2.2.2.2.2.1 C hL hi hnext hR w hl)) ej
      | 15, _, ej => exact (fun (ex : x = nI 15) => lv_tableIn (off := 615) (tgt := 647) C.1.1.1 C.1.1.2.1 dL_law_32 (by rw [ex]; decide) (by rw [ex]; decide) (by rw [ex]; decide) (by decide) (law_15 hO.2.2.2.2.2.2.2.2.2.2.2.2.2.2.2.1 C hL hi hnext hR w hl)) ej
      | 16, _, ej => exact (fun (ex : x = nI 16) => lv_tableIn (off := 648) (tgt := 680) C.1.1.1 C.1.1.2.1 dL_law_32 (by rw [ex]; decide) (by rw [ex]; decide) (by rw [ex]; decide) (by decide) (law_16 hO.2.2.2.2.2.2.2.2.2.2.2.2.2.2.2.2.1 C hL hi hnext hR w hl)) ej
      | 17, _, ej => exact (fun (ex : x = nI 17) => lv_tableIn (off := 691) (tgt := 723) C.1.1.1 C.1.1.2.1 dL_law_32 (by rw [ex]; decide) (by rw [ex]; decide) (by rw [ex]; decide) (by decide) (law_17 hO.2.2.2.2.2.2.2.2.2.2.2.2.2.2.2.2.2.1 C hL hi hnext hR w hl)) ej
      | 18, _, ej => exact (fun (ex : x = nI 18) => lv_tableIn (off := 724) (tgt := 756) C.1.1.1 C.1.1.2.1 dL_law_32 (by rw [ex]; decide) (by rw [ex]; decide) (by rw [ex]; decide) (by decide) (law_18 hO.2.2.2.2.2.2.2.2.2.2.2.2.2.2.2.2.2.2.1 C hL hi hnext hR w hl)) ej
      | 19, _, ej => exact (fun (ex : x = nI 19) => lv_tableIn (off := 747) (tgt := 779) C.1.1.1 C.1.1.2.1 dL_law_32 (by rw [ex]; decide) (by rw [ex]; decide) (by rw [ex]; decide) (by decide) (law_19 hO.2.2.2.2.2.2.2.2.2.2.2.2.2.2.2.2.2.2.2.1 C hL hi hnext hR w hl)) ej
      | 20, _, ej => exact (fun (ex : x = nI 20) => lv_tableIn (off := 790) (tgt := 822) C.1.1.1 C.1.1.2.1 dL_law_32 (by rw [ex]; decide) (by rw [ex]; decide) (by rw [ex]; decide) (by decide) (law_20 hO.2.2.2.2.2.2.2.2.2.2.2.2.2.2.2.2.2.2.2.2.1 C hL hi hnext hR w hl)) ej
      | 21, _, ej => exact (fun (ex : x = nI 21) => lv_tableIn (off := 833) (tgt := 865) C.1.1.1 C.1.1.2.1 dL_law_32 (by rw [ex]; decide) (by rw [ex]; decide) (by rw [ex]; decide) (by decide) (law_21 hO.2.2.2.2.2.2.2.2.2.2.2.2.2.2.2.2.2.2.2.2.2.1 C hL hi hnext hR w hl)) ej
      | 22, _, ej => exact (fun (ex : x = nI 22) => lv_tableIn (off := 866) (tgt := 898) C.1.1.1 C.1.1.2.1 dL_law_32 (by rw [ex]; decide) (by rw [ex]; decide) (by rw [ex]; decide) (by decide) (law_22 hO.2.2.2.2.2.2.2.2.2.2.2.2.2.2.2.2.2.2.2.2.2.2.1 C hL hi hnext hR w hl)) ej
      | 23, _, ej => exact (fun (ex : x = nI 23) => lv_tableIn (off := 909) (tgt := 941) C.1.1.1 C.1.1.2.1 dL_law_32 (by rw [ex]; decide) (by rw [ex]; decide) (by rw [ex]; decide) (by decide) (law_23 hO.2.2.2.2.2.2.2.2.2.2.2.2.2.2.2.2.2.2.2.2.2.2.2.1 C hL hi hnext hR w hl)) ej
      | 24, _, ej => exact (fun (ex : x = nI 24) => lv_tableIn (off := 952) (tgt := 984) C.1.1.1 C.1.1.2.1 dL_law_32 (by rw [ex]; decide) (by rw [ex]; decide) (by rw [ex]; decide) (by decide) (law_24 hO.2.2.2.2.2.2.2.2.2.2.2.2.2.2.2.2.2.2.2.2.2.2.2.2.1 C hL hi hnext hR w hl)) ej
      | 25, _, ej => exact (fun (ex : x = nI 25) => lv_tableIn (off := 995) (tgt := 1027) C.1.1.1 C.1.1.2.1 dL_law_32 (by rw [ex]; decide) (by rw [ex]; decide) (by rw [ex]; decide) (by decide) (law_25 hO.2.2.2.2.2.2.2.2.2.2.2.2.2.2.2.2.2.2.2.2.2.2.2.2.2.1 C hL hi hnext hR w hl)) ej
      | 26, _, ej => exact (fun (ex : x = nI 26) => lv_tableIn (off := 1038) (tgt := 1070) C.1.1.1 C.1.1.2.1 dL_law_32 (by rw [ex]; decide) (by rw [ex]; decide) (by rw [ex]; decide) (by decide) (law_26 hO.2.2.2.2.2.2.2.2.2.2.2.2.2.2.2.2.2.2.2.2.2.2.2.2.2.2.1 C hL hi hnext hR w hl)) ej
      | 27, _, ej => exact (fun (ex : x = nI 27) => lv_tableIn (off := 1092) (tgt := 1124) C.1.1.1 C.1.1.2.1 dL_law_32 (by rw [ex]; decide) (by rw [ex]; decide) (by rw [ex]; decide) (by decide) (law_27 hO.2.2.2.2.2.2.2.2.2.2.2.2.2.2.2.2.2.2.2.2.2.2.2.2.2.2.2.1 C hL hi hnext hR w hl)) ej
      | 28, _, ej => exact (fun (ex : x = nI 28) => lv_tableIn (off := 1136) (tgt := 1168) C.1.1.1 C.1.1.2.1 dL_law_32 (by rw [ex]; decide) (by rw [ex]; decide) (by rw [ex]; decide) (by decide) (law_28 hO.2.2.2.2.2.2.2.2.2.2.2.2.2.2.2.2.2.2.2.2.2.2.2.2.2.2.2.2.1 C hL hi hnext hR w hl)) ej
      | 29, _, ej => exact (fun (ex : x = nI 29) => lv_tableIn (off := 1179) (tgt := 1211) C.1.1.1 C.1.1.2.1 dL_law_32 (by rw [ex]; decide) (by rw [ex]; decide) (by rw [ex]; decide) (by decide) (law_29 hO.2.2.2.2.2.2.2.2.2.2.2.2.2.2.2.2.2.2.2.2.2.2.2.2.2.2.2.2.2.1 C hL hi hnext hR w hl)) ej
      | 30, _, ej => exact (fun (ex : x = nI 30) => lv_tableIn (off := 1202) (tgt := 1234) C.1.1.1 C.1.1.2.1 dL_law_32 (by rw [ex]; decide) (by rw [ex]; decide) (by rw [ex]; decide) (by decide) (law_30 hO.2.2.2.2.2.2.2.2.2.2.2.2.2.2.2.2.2.2.2.2.2.2.2.2.2.2.2.2.2.2.1 C hL hi hnext hR w hl)) ej
      | 31, _, ej => exact (fun (ex : x = nI 31) => lv_tableIn (off := 1225) (tgt := 1257) C.1.1.1 C.1.1.2.1 dL_law_32 (by rw [ex]; decide) (by rw [ex]; decide) (by rw [ex]; decide) (by decide) (law_31 hO.2.2.2.2.2.2.2.2.2.2.2.2.2.2.2.2.2.2.2.2.2.2.2.2.2.2.2.2.2.2.2.1 C hL hi hnext hR w hl)) ej
      | 32, _, ej => exact (fun (ex : x = nI 32) => lv_tableIn (off := 1248) (tgt := 1280) C.1.1.1 C.1.1.2.1 dL_law_32 (by rw [ex]; decide) (by rw [ex]; decide) (by rw [ex]; decide) (by decide) (law_32 hO.2.2.2.2.2.2.2.2.2.2.2.2.2.2.2.2.2.2.2.2.2.2.2.2.2.2.2.2.2.2.2.2.1 C hL hi hnext hR w hl)) ej
      | 33, _, ej => exact (fun (ex : x = nI 33) => lv_tableIn (off := 1281) (tgt := 1313) C.1.1.1 C.1.1.2.1 dL_law_32 (by rw [ex]; decide) (by rw [ex]; decide) (by rw [ex]; decide) (by decide) (law_33 hO.2.2.2.2.2.2.2.2.2.2.2.2.2.2.2.2.2.2.2.2.2.2.2.2.2.2.2.2.2.2.2.2.2.1 C hL hi hnext hR w hl)) ej
      | 34, _, ej => exact (fun (ex : x = nI 34) => lv_tableIn (off := 1324) (tgt := 1356) C.1.1.1 C.1.1.2.1 dL_law_32 (by rw [ex]; decide) (by rw [ex]; decide) (by rw [ex]; decide) (by decide) (law_34 hO.2.2.2.2.2.2.2.2.2.2.2.2.2.2.2.2.2.2.2.2.2.2.2.2.2.2.2.2.2.2.2.2.2.2.1 C hL hi hnext hR w hl)) ej
      | 35, _, ej => exact (fun (ex : x = nI 35) => lv_tableIn (off := 1347) (tgt := 1379) C.1.1.1 C.1.1.2.1 dL_law_32 (by rw [ex]; decide) (by rw [ex]; decide) (by rw [ex]; decide) (by decide) (law_35 hO.2.2.2.2.2.2.2.2.2.2.2.2.2.2.2.2.2.2.2.2.2.2.2.2.2.2.2.2.2.2.2.2.2.2.2.1 C hL hi hnext hR w hl)) ej
      | 36, _, ej => exact (fun (ex : x = nI 36) => lv_tableIn (off := 1370) (tgt := 1402) C.1.1.1 C.1.1.2.1 dL_law_32 (by rw [ex]; decide) (by rw [ex]; decide) (by rw [ex]; decide) (by decide) (law_36 hO.2.2.2.2.2.2.2.2.2.2.2.2.2.2.2.2.2.2.2.2.2.2.2.2.2.2.2.2.2.2.2.2.2.2.2.2.1 C hL hi hnext hR w hl)) ej
      | 37, _, ej => exact (fun (ex : x = nI 37) => lv_tableIn (off := 1413) (tgt := 1445) C.1.1.1 C.1.1.2.1 dL_law_32 (by rw [ex]; decide) (by rw [ex]; decide) (by rw [ex]; decide) (by decide) (law_37 hO.2.2.2.2.2.2.2.2.2.2.2.2.2.2.2.2.2.2.2.2.2.2.2.2.2.2.2.2.2.2.2.2.2.2.2.2.2.1 C hL hi hnext hR w hl)) ej
      | 38, _, ej => exact (fun (ex : x = nI 38) => lv_tableIn (off := 1456) (tgt := 1488) C.1.1.1 C.1.1.2.1 dL_law_32 (by rw [ex]; decide) (by rw [ex]; decide) (by rw [ex]; decide) (by decide) (law_38 hO.2.2.2.2.2.2.2.2.2.2.2.2.2.2.2.2.2.2.2.2.2.2.2.2.2.2.2.2.2.2.2.2.2.2.2.2.2.2.1 C hL hi hnext hR w hl)) ej
      | 39, _, ej => exact (fun (ex : x = nI 39) => lv_tableIn (off := 1509) (tgt := 1541) C.1.1.1 C.1.1.2.1 dL_law_32 (by rw [ex]; decide) (by rw [ex]; decide) (by rw [ex]; decide) (by decide) (law_39 hO.2.2.2.2.2.2.2.2.2.2.2.2.2.2.2.2.2.2.2.2.2.2.2.2.2.2.2.2.2.2.2.2.2.2.2.2.2.2.2.1 C hL hi hnext hR w hl)) ej
      | 40, _, ej => exact (fun (ex : x = nI 40) => lv_tableIn (off := 1522) (tgt := 1554) C.1.1.1 C.1.1.2.1 dL_law_32 (by rw [ex]; decide) (by rw [ex]; decide) (by rw [ex]; decide) (by decide) (law_40 hO.2.2.2.2.2.2.2.2.2.2.2.2.2.2.2.2.2.2.2.2.2.2.2.2.2.2.2.2.2.2.2.2.2.2.2.2.2.2.2.2 C hL hi hnext hR w hl)) ej
      | j + 41, hj, ej => exact lv_tableOut (tgt := 1577) C.1.1.1 C.1.1.2.1 dL_law_32 (Or.inr (by rw [ej, nI_toInt (by omega)]; omega)) (by decide) (hnext X M H locs ls hR w hl)
end
