theorem kObj_ok : kObj := ⟨aw1 23 (by decide +kernel) rfl, aw1 24 (by decide +kernel) rfl⟩
theorem ki_X0_init : Ki yX0_init cX0_init 1 0 := ⟨⟨aw1 28 (by decide +kernel) rfl, aw1 2 (by decide +kernel) rfl, aw1 29 (by decide +kernel) rfl⟩, rfl, by decide +kernel⟩
theorem ki_X1_init : Ki yX1_init cX1_init 1 0 := ⟨⟨aw1 207 (by decide +kernel) rfl, aw1 7 (by decide +kernel) rfl, aw1 208 (by decide +kernel) rfl⟩, rfl, by decide +kernel⟩
theorem ki_X2_init : Ki yX2_init cX2_init 1 0 := ⟨⟨aw1 225 (by decide +kernel) rfl, aw1 8 (by decide +kernel) rfl, aw1 226 (by decide +kernel) rfl⟩, rfl, by decide +kernel⟩
theorem ki_X3_init : Ki yX3_init cX3_init 1 0 := ⟨⟨aw1 187 (by decide +kernel) rfl, aw1 6 (by decide +kernel) rfl, aw1 188 (by decide +kernel) rfl⟩, rfl, by decide +kernel⟩
theorem ki_X4_init : Ki yX4_init cX4_init 1 0 := ⟨⟨aw1 142 (by decide +kernel) rfl, aw1 5 (by decide +kernel) rfl, aw1 143 (by decide +kernel) rfl⟩, rfl, by decide +kernel⟩
theorem ki_X5_init : Ki yX5_init cX5_init 1 0 := ⟨⟨aw1 136 (by decide +kernel) rfl, aw1 4 (by decide +kernel) rfl, aw1 137 (by decide +kernel) rfl⟩, rfl, by decide +kernel⟩
theorem ki_X6_init : Ki yX6_init cX6_init 1 0 := ⟨⟨aw1 102 (by decide +kernel) rfl, aw1 3 (by decide +kernel) rfl, aw1 103 (by decide +kernel) rfl⟩, rfl, by decide +kernel⟩
theorem ki_X7_init : Ki yX7_init cX7_init 2 0 := ⟨⟨aw1 20 (by decide +kernel) rfl, aw1 1 (by decide +kernel) rfl, aw1 21 (by decide +kernel) rfl⟩, rfl, by decide +kernel⟩
theorem ki_X8_init : Ki yX8_init cX8_init 1 0 := ⟨⟨aw4 62 (by decide +kernel) rfl, aw1 9 (by decide +kernel) rfl, aw4 63 (by decide +kernel) rfl⟩, rfl, by decide +kernel⟩
theorem kd_X0 : ∀ j, j < 14 → defaultValue (tyX0 j) = vp_V [.null, .null, .null, .null, .null, .null, .null, .null, .null, .int 0, .int 0, .int 0, .int 0, .int 0] j := by decide +kernel
theorem kd_X1 : ∀ j, j < 2 → defaultValue (tyX1 j) = vp_V [.null, .int 0] j := by decide +kernel
theorem kd_X2 : ∀ j, j < 3 → defaultValue (tyX2 j) = vp_V [.null, .int 0, .int 0] j := by decide +kernel
theorem kd_X3 : ∀ j, j < 4 → defaultValue (tyX3 j) = vp_V [.null, .null, .null, .int 0] j := by decide +kernel
theorem kd_X4 : ∀ j, j < 2 → defaultValue (tyX4 j) = vp_V [.null, .int 0] j := by decide +kernel
theorem kd_X5 : ∀ j, j < 8 → defaultValue (tyX5 j) = vp_V [.null, .int 0, .int 0, .int 0, .int 0, .int 0, .int 0, .int 0] j := by decide +kernel
theorem kd_X6 : ∀ j, j < 6 → defaultValue (tyX6 j) = vp_V [.null, .int 0, .int 0, .int 0, .int 0, .int 0] j := by decide +kernel
theorem kd_X7 : ∀ j, j < 11 → defaultValue (tyX7 j) = vp_V [.null, .null, .null, .null, .null, .null, .null, .null, .null, .int 0, .int 0] j := by decide +kernel
theorem kd_X8 : ∀ j, j < 28 → defaultValue (tyX8 j) = vp_V [.null, .int 0, .null, .int 0, .int 0, .null, .int 0, .int 0, .int 0, .int 0, .int 0, .int 0, .int 0, .int 0, .null, .null, .int 0, .int 0, .int 0, .int 0, .null, .int 0, .null, .null, .null, .null, .null, .int 0] j := by decide +kernel
theorem kn_0 : Cond.methodLink RX4 1 objectInit ∈ ALL := aw1 144 (by decide +kernel) rfl
theorem kn_1 : Cond.arrayClass .byte ∈ ALL := aw1 155 (by decide +kernel) rfl
theorem kn_2 : Cond.fieldLink RX4 9 "EveningPoach$Tape" "bytes" "[B" ∈ ALL := aw1 145 (by decide +kernel) rfl
theorem kn_3 : Cond.methodLink RX5 1 objectInit ∈ ALL := aw1 138 (by decide +kernel) rfl
theorem kn_4 : Cond.classLink RX5 7 RX4 ∈ ALL := aw1 139 (by decide +kernel) rfl
theorem kn_5 : Cond.instantiable RX4 2 ∈ ALL := aw1 140 (by decide +kernel) rfl
theorem kn_6 : Cond.initialized RX4 ∈ ALL := aw1 5 (by decide +kernel) rfl
theorem kn_7 : Cond.fieldLink RX5 10 "EveningPoach$TapeReader" "tape" "LEveningPoach$Tape;" ∈ ALL := aw1 156 (by decide +kernel) rfl
theorem kn_8 : Cond.methodLink RX3 1 objectInit ∈ ALL := aw1 189 (by decide +kernel) rfl
theorem kn_9 : Cond.arrayClass .int ∈ ALL := aw1 98 (by decide +kernel) rfl
theorem kn_10 : Cond.fieldLink RX3 9 "EveningPoach$Sightings" "night" "[I" ∈ ALL := aw1 190 (by decide +kernel) rfl
theorem kn_11 : Cond.fieldLink RX3 13 "EveningPoach$Sightings" "place" "[I" ∈ ALL := aw1 191 (by decide +kernel) rfl
theorem kn_12 : Cond.fieldLink RX3 16 "EveningPoach$Sightings" "light" "[I" ∈ ALL := aw1 192 (by decide +kernel) rfl
theorem kn_13 : Cond.methodLink RX2 1 objectInit ∈ ALL := aw1 227 (by decide +kernel) rfl
theorem kn_14 : Cond.fieldLink RX2 9 "EveningPoach$Sheet" "cells" "[I" ∈ ALL := aw1 228 (by decide +kernel) rfl
theorem kn_15 : Cond.fieldLink RX2 13 "EveningPoach$Sheet" "lane" "I" ∈ ALL := aw1 232 (by decide +kernel) rfl
theorem kn_16 : Cond.methodLink RX1 5 objectInit ∈ ALL := aw1 209 (by decide +kernel) rfl
theorem kn_17 : Cond.classLink RX1 13 "[[I" ∈ ALL := aw1 210 (by decide +kernel) rfl
theorem kn_18 : Cond.fieldLink RX1 15 "EveningPoach$Outlook" "light" "[[I" ∈ ALL := aw1 212 (by decide +kernel) rfl
theorem kn_19 : Cond.methodLink RX0 1 objectInit ∈ ALL := aw1 30 (by decide +kernel) rfl
theorem kn_20 : Cond.fieldLink RX0 9 "EveningPoach$Estate" "light" "[I" ∈ ALL := aw1 35 (by decide +kernel) rfl
theorem kn_21 : Cond.fieldLink RX0 13 "EveningPoach$Estate" "growth" "[I" ∈ ALL := aw1 40 (by decide +kernel) rfl
theorem kn_22 : Cond.fieldLink RX0 16 "EveningPoach$Estate" "kindOf" "[I" ∈ ALL := aw1 43 (by decide +kernel) rfl
theorem kn_23 : Cond.fieldLink RX0 19 "EveningPoach$Estate" "gateOf" "[I" ∈ ALL := aw1 45 (by decide +kernel) rfl
theorem kn_24 : Cond.fieldLink RX0 22 "EveningPoach$Estate" "bag" "[I" ∈ ALL := aw1 47 (by decide +kernel) rfl
theorem kn_25 : Cond.fieldLink RX0 25 "EveningPoach$Estate" "held" "[I" ∈ ALL := aw1 49 (by decide +kernel) rfl
theorem kn_26 : Cond.fieldLink RX0 28 "EveningPoach$Estate" "start" "[I" ∈ ALL := aw1 51 (by decide +kernel) rfl
theorem kn_27 : Cond.fieldLink RX0 31 "EveningPoach$Estate" "step" "[I" ∈ ALL := aw1 53 (by decide +kernel) rfl
theorem kn_28 : Cond.fieldLink RX0 34 "EveningPoach$Estate" "ear" "[I" ∈ ALL := aw1 55 (by decide +kernel) rfl
theorem kn_29 : Cond.methodLink RX0 37 yX0_clear ∈ ALL := aw1 31 (by decide +kernel) rfl
theorem kn_30 : Cond.methodLink RX6 1 objectInit ∈ ALL := aw1 104 (by decide +kernel) rfl
theorem kn_31 : Cond.classLink RX6 7 RX0 ∈ ALL := aw1 105 (by decide +kernel) rfl
theorem kn_32 : Cond.instantiable RX0 14 ∈ ALL := aw1 26 (by decide +kernel) rfl
theorem kn_33 : Cond.initialized RX0 ∈ ALL := aw1 2 (by decide +kernel) rfl
theorem kn_34 : Cond.methodLink RX6 9 yX0_init ∈ ALL := aw1 106 (by decide +kernel) rfl
theorem kn_35 : Cond.fieldLink RX6 10 "EveningPoach$Trial" "estate" "LEveningPoach$Estate;" ∈ ALL := aw1 107 (by decide +kernel) rfl
theorem va_AOA.moved {t : FieldType} {u U : State} (hvm : u.vm.Alike U.vm) (h : va_AOA t u) : va_AOA t U := arrayOver_alikeB (args' := #[]) (first' := U) (o' := none) (idx' := []) hvm h
theorem ExB_aoa {t : FieldType} : ExB (va_AOA t) := fun a U f mk h => va_AOA.moved (u := U) (U := U.calling f mk a) (Vm.Alike.refl U.vm) h
theorem ExB_nw {own : String} {i : Nat} {y : MethodName} {host : String} : ExB (va_Nw (.methodLinkNest own i y host)) := fun a U f mk h => va_Nw.same rfl (u := U) (U := U.calling f mk a) rfl h
section MNA
variable {p : Program} {l : Launch} {e : Env} {R : Room} {s : State} {m : MethodId} {args : Array Value} {below : List Frame} {meth : Method} {c : Code} {H : Heap} {locs : List Loc} {cells slots : Nat} {Qs : State → Prop}
variable {cc : ByteArray} {pc nL : Nat} {ls : Array Slot} {rest : List Value} {g : Gt} {ws : va_W}
set_option maxRecDepth 100000 in
/-- six rows of 126 ints, and the row of them -/
theorem n_mna (C : Cx p s m args c cc nL RX1 g) (b : Bd g s.heap ws H locs) (hA : ∀ q : Nat, s.heap.size ≤ q → gF g q) (hk : Cond.classLink RX1 13 "[[I" ∈ ALL) (hov : va_AOA .int s) (ha : Cond.arrayClass .int ∈ ALL) (hR : cells + 7 ≤ R.cells ∧ slots + 762 ≤ R.slots) (hdg : decode cc pc = .ok (.multianewarray 13 2, 4))
    (kk : ∀ (q : Nat) (r : Nat → Nat) (H1 : Heap), Bd g s.heap (ws ++ [(q, .inl (gC g 5, 6, .inr (.inr (.inr (.inr (fun i => if i < 6 then some (r i) else none)))))), (r 0, .inl (gC g 0, 126, .inl (fun _ => 0))), (r 1, .inl (gC g 0, 126, .inl (fun _ => 0))), (r 2, .inl (gC g 0, 126, .inl (fun _ => 0))), (r 3, .inl (gC g 0, 126, .inl (fun _ => 0))), (r 4, .inl (gC g 0, 126, .inl (fun _ => 0))), (r 5, .inl (gC g 0, 126, .inl (fun _ => 0)))]) H1 locs → W p l e R s m args below meth c H1 locs (cells + 7) (slots + 762) Qs (F0 m (pc + 4) ls (.ref q :: rest))) : W p l e R s m args below meth c H locs cells slots Qs (F0 m pc ls (.int 126 :: .int 6 :: rest)) := by
  have hP0 : va_P (gD g) vwCl (ws ++ va_pl [] (fun _ => .inl (gC g 0, 0, .inl (fun _ => 0)))) H := by show va_P _ _ (ws ++ []) H; rw [List.append_nil]; exact b.1
  have hD0 : va_D (gF g) (ws ++ va_pl [] (fun _ => .inl (gC g 0, 0, .inl (fun _ => 0)))) := by show va_D _ (ws ++ []); rw [List.append_nil]; exact b.2.1
  have hcy : s.vm.findClass (FieldType.array .int).toString = some (gC g 0) := (C.2.1.2 0 _ rfl).2
  refine va_mna (N' := 6) (K' := 126) (z := (126, .inl (fun _ => 0))) C.1.1 C.1.2.1 C.1.2.2.2.1 (C.1.2.2.2.2 _ hk) hov (C.1.2.2.2.2 _ ha) hcy C.2.1 hP0 hD0 b.2.2 hA (by decide) (by decide) (by decide) (by decide) (by decide) (by decide) (by decide) rfl rfl hR.1 hR.2 (fun _ => ?_) hdg (fun q r cA H1 hr hrL hK1 hP hD hS => ?_)
  · exact arrV_new _ _ _
  · have e : cA = gC g 5 := find_in (tys_last hK1) (C.2.1.2 5 _ rfl).2
    subst e
    have hL : va_pl ([] ++ (List.range 6).map r) (vr_up (fun _ => .inl (gC g 0, 0, .inl (fun _ => 0))) ((List.range 6).map r) (.inl (gC g 0, (126, .inl (fun _ => 0))))) = [(r 0, .inl (gC g 0, 126, .inl (fun _ => 0))), (r 1, .inl (gC g 0, 126, .inl (fun _ => 0))), (r 2, .inl (gC g 0, 126, .inl (fun _ => 0))), (r 3, .inl (gC g 0, 126, .inl (fun _ => 0))), (r 4, .inl (gC g 0, 126, .inl (fun _ => 0))), (r 5, .inl (gC g 0, 126, .inl (fun _ => 0)))] := by
      have h0 := vr_rows (L := []) (l := (List.range 6).map r) (f := fun _ => (.inl (gC g 0, 0, .inl (fun _ => 0)) : va_E)) (e := .inl (gC g 0, (126, .inl (fun _ => 0)))) (fun a _ h => absurd h List.not_mem_nil)
      rw [← h0]
      rfl
    rw [hL, List.append_assoc] at hP hD
    exact kk q r H1 ⟨hP, hD, hS⟩
end MNA
set_option maxHeartbeats 8000000 in
set_option maxRecDepth 200000 in
theorem c_X4_init {l : Launch} (g : Gt) (h0 sz : Nat) : Ctor l yX4_init cX4_init 1 1 1 160 12 g (fun _ => True) h0 (.inr (4, [.null, .int 0])) [] sz (S := Nat) (fun _ => True) (fun u => [(h0, .inr (4, [.ref u, .int 0])), (u, .inl (gC g 1, 160, .inl (fun _ => 0)))]) :=
  ct_of (by decide +kernel) (Nat.le_of_ble_eq_true rfl) (fun p e s m args below meth c ls A C hEx hr hk hin hA b hl => by
    have C : Cx p s m args c cX4_init 1 RX4 (gw g A) := C
    have hl : lv_has ls 1 [(0, .ref h0)] := hl
    have hin : meth.name = "<init>" := hin
    obtain ⟨H, eH⟩ : ∃ H : Heap, H = s.heap := ⟨_, rfl⟩
    obtain ⟨locs, el⟩ : ∃ locs : List Loc, locs = [] := ⟨_, rfl⟩
    have b : Bd (gw g A) s.heap [(h0, .inr (4, [.null, .int 0]))] H locs := by rw [eH, el]; exact b
    suffices hw : W p l e (rmC 1 1 160 12) s m args below meth c H locs 0 0 (MQ below (CPost (gw g A) (S := Nat) (fun _ => True) (fun u => [(h0, .inr (4, [.ref u, .int 0])), (u, .inl (gC g 1, 160, .inl (fun _ => 0)))]) (gF (gw g A))) args s 1 160 (gF (gw g A))) (F0 m 0 ls []) by rw [eH, el] at hw; exact hw
    clear eH el
    refine lv_aload_n C.1.1 C.1.2.1 dX4_init_0 rfl (lv_at hl 0 rfl) ?_
    refine n_oi C kObj_ok kn_0 hl.1 dX4_init_1 ⟨Nat.le_of_ble_eq_true rfl, Nat.le_of_ble_eq_true rfl⟩ ?_
    refine lv_aload_n C.1.1 C.1.2.1 dX4_init_4 rfl (lv_at hl 0 rfl) ?_
    refine lv_sipush (v := 160) C.1.1 C.1.2.1 dX4_init_5 (by decide) ?_
    refine n_arr (atype := .byte) C b hA 1 rfl rfl kn_1 (N' := 160) (fun _ => rfl) (by decide) (by decide) (by decide) ⟨Nat.le_of_ble_eq_true rfl, Nat.le_of_ble_eq_true rfl⟩ dX4_init_8 (fun q1 H b => ?_)
    have b : Bd (gw g A) s.heap [(h0, .inr (4, [.null, .int 0])), (q1, .inl (gC g 1, 160, .inl (fun _ => 0)))] H locs := b
    refine W.widen (k := 1) (n := 160) (Nat.le_of_ble_eq_true rfl) (Nat.le_of_ble_eq_true rfl) ?_
    refine n_putF C b hin kc_X4 0 rfl 0 (by decide) kn_2 rfl rfl (tk := tyX4 0) (by decide +kernel) ⟨rfl, rfl⟩ (Nat.le_of_ble_eq_true rfl) dX4_init_10 (fun H locs b => ?_)
    have b : Bd (gw g A) s.heap [(h0, .inr (4, [.ref q1, .int 0])), (q1, .inl (gC g 1, 160, .inl (fun _ => 0)))] H locs := b
    exact n_ret C hr hk (q1) b trivial dX4_init_13)
set_option maxHeartbeats 8000000 in
set_option maxRecDepth 200000 in
theorem c_X5_init {l : Launch} (g : Gt) (h0 sz : Nat) : Ctor l yX5_init cX5_init 1 2 2 162 32 g (va_Nw (.methodLinkNest RX5 9 yX4_init "EveningPoach")) h0 (.inr (5, [.null, .int 0, .int 0, .int 0, .int 0, .int 0, .int 0, .int 0])) [] sz (S := (Nat × Nat)) (fun _ => True) (fun u => [(h0, .inr (5, [.ref u.1, .int 0, .int 0, .int 0, .int 0, .int 0, .int 0, .int 0])), (u.1, .inr (4, [.ref u.2, .int 0])), (u.2, .inl (gC g 1, 160, .inl (fun _ => 0)))]) :=
  ct_of (by decide +kernel) (Nat.le_of_ble_eq_true rfl) (fun p e s m args below meth c ls A C hEx hr hk hin hA b hl => by
    have C : Cx p s m args c cX5_init 1 RX5 (gw g A) := C
    have hl : lv_has ls 1 [(0, .ref h0)] := hl
    have hin : meth.name = "<init>" := hin
    obtain ⟨H, eH⟩ : ∃ H : Heap, H = s.heap := ⟨_, rfl⟩
    obtain ⟨locs, el⟩ : ∃ locs : List Loc, locs = [] := ⟨_, rfl⟩
    have b : Bd (gw g A) s.heap [(h0, .inr (5, [.null, .int 0, .int 0, .int 0, .int 0, .int 0, .int 0, .int 0]))] H locs := by rw [eH, el]; exact b
    suffices hw : W p l e (rmC 2 2 162 32) s m args below meth c H locs 0 0 (MQ below (CPost (gw g A) (S := (Nat × Nat)) (fun _ => True) (fun u => [(h0, .inr (5, [.ref u.1, .int 0, .int 0, .int 0, .int 0, .int 0, .int 0, .int 0])), (u.1, .inr (4, [.ref u.2, .int 0])), (u.2, .inl (gC g 1, 160, .inl (fun _ => 0)))]) (gF (gw g A))) args s 2 162 (gF (gw g A))) (F0 m 0 ls []) by rw [eH, el] at hw; exact hw
    clear eH el
    refine lv_aload_n C.1.1 C.1.2.1 dX5_init_0 rfl (lv_at hl 0 rfl) ?_
    refine n_oi C kObj_ok kn_3 hl.1 dX5_init_1 ⟨Nat.le_of_ble_eq_true rfl, Nat.le_of_ble_eq_true rfl⟩ ?_
    refine lv_aload_n C.1.1 C.1.2.1 dX5_init_4 rfl (lv_at hl 0 rfl) ?_
    refine n_obj C b hA kc_X4 ⟨kn_4, kn_5, kn_6⟩ [.null, .int 0] kd_X4 ⟨Nat.le_of_ble_eq_true rfl, Nat.le_of_ble_eq_true rfl⟩ dX5_init_5 (fun q1 H b => ?_)
    refine W.widen (k := 1) (n := 2) (Nat.le_of_ble_eq_true rfl) (Nat.le_of_ble_eq_true rfl) ?_
    refine lv_dup C.1.1 C.1.2.1 dX5_init_8 rfl ?_
    refine n_callN (host := "EveningPoach") C (h0 := q1) b hA [] (c_X4_init g q1 _) ExB_t (fun _ _ _ => trivial) ki_X4_init hEx rfl hl.1 (Nat.le_of_ble_eq_true rfl) ⟨Nat.le_of_ble_eq_true rfl, Nat.le_of_ble_eq_true rfl⟩ ⟨Nat.le_of_ble_eq_true rfl, Nat.le_of_ble_eq_true rfl⟩ dX5_init_9 (fun u2 H locs hp bn => ?_)
    have b : Bd (gw g A) s.heap [(h0, .inr (5, [.null, .int 0, .int 0, .int 0, .int 0, .int 0, .int 0, .int 0])), (q1, .inr (4, [.ref u2, .int 0])), (u2, .inl (gC g 1, 160, .inl (fun _ => 0)))] H locs := bn
    refine W.widen (k := 2) (n := 162) (Nat.le_of_ble_eq_true rfl) (Nat.le_of_ble_eq_true rfl) ?_
    refine n_putF C b hin kc_X5 0 rfl 0 (by decide) kn_7 rfl rfl (tk := tyX5 0) (by decide +kernel) ⟨rfl, rfl⟩ (Nat.le_of_ble_eq_true rfl) dX5_init_12 (fun H locs b => ?_)
    have b : Bd (gw g A) s.heap [(h0, .inr (5, [.ref q1, .int 0, .int 0, .int 0, .int 0, .int 0, .int 0, .int 0])), (q1, .inr (4, [.ref u2, .int 0])), (u2, .inl (gC g 1, 160, .inl (fun _ => 0)))] H locs := b
    exact n_ret C hr hk ((q1, u2)) b trivial dX5_init_15)
set_option maxHeartbeats 8000000 in
set_option maxRecDepth 200000 in
theorem c_X3_init {l : Launch} (g : Gt) (h0 sz : Nat) : Ctor l yX3_init cX3_init 1 1 3 18 12 g (fun _ => True) h0 (.inr (3, [.null, .null, .null, .int 0])) [] sz (S := (Nat × Nat × Nat)) (fun _ => True) (fun u => [(h0, .inr (3, [.ref u.1, .ref u.2.1, .ref u.2.2, .int 0])), (u.1, .inl (gC g 0, 6, .inl (fun _ => 0))), (u.2.1, .inl (gC g 0, 6, .inl (fun _ => 0))), (u.2.2, .inl (gC g 0, 6, .inl (fun _ => 0)))]) :=
  ct_of (by decide +kernel) (Nat.le_of_ble_eq_true rfl) (fun p e s m args below meth c ls A C hEx hr hk hin hA b hl => by
    have C : Cx p s m args c cX3_init 1 RX3 (gw g A) := C
    have hl : lv_has ls 1 [(0, .ref h0)] := hl
    have hin : meth.name = "<init>" := hin
    obtain ⟨H, eH⟩ : ∃ H : Heap, H = s.heap := ⟨_, rfl⟩
    obtain ⟨locs, el⟩ : ∃ locs : List Loc, locs = [] := ⟨_, rfl⟩
    have b : Bd (gw g A) s.heap [(h0, .inr (3, [.null, .null, .null, .int 0]))] H locs := by rw [eH, el]; exact b
    suffices hw : W p l e (rmC 1 3 18 12) s m args below meth c H locs 0 0 (MQ below (CPost (gw g A) (S := (Nat × Nat × Nat)) (fun _ => True) (fun u => [(h0, .inr (3, [.ref u.1, .ref u.2.1, .ref u.2.2, .int 0])), (u.1, .inl (gC g 0, 6, .inl (fun _ => 0))), (u.2.1, .inl (gC g 0, 6, .inl (fun _ => 0))), (u.2.2, .inl (gC g 0, 6, .inl (fun _ => 0)))]) (gF (gw g A))) args s 3 18 (gF (gw g A))) (F0 m 0 ls []) by rw [eH, el] at hw; exact hw
    clear eH el
    refine lv_aload_n C.1.1 C.1.2.1 dX3_init_0 rfl (lv_at hl 0 rfl) ?_
    refine n_oi C kObj_ok kn_8 hl.1 dX3_init_1 ⟨Nat.le_of_ble_eq_true rfl, Nat.le_of_ble_eq_true rfl⟩ ?_
    refine lv_aload_n C.1.1 C.1.2.1 dX3_init_4 rfl (lv_at hl 0 rfl) ?_
    refine lv_bipush (v := 6) C.1.1 C.1.2.1 dX3_init_5 (by decide) ?_
    refine n_arr (atype := .int) C b hA 0 rfl rfl kn_9 (N' := 6) (fun _ => rfl) (by decide) (by decide) (by decide) ⟨Nat.le_of_ble_eq_true rfl, Nat.le_of_ble_eq_true rfl⟩ dX3_init_7 (fun q1 H b => ?_)
    have b : Bd (gw g A) s.heap [(h0, .inr (3, [.null, .null, .null, .int 0])), (q1, .inl (gC g 0, 6, .inl (fun _ => 0)))] H locs := b
    refine W.widen (k := 1) (n := 6) (Nat.le_of_ble_eq_true rfl) (Nat.le_of_ble_eq_true rfl) ?_
    refine n_putF C b hin kc_X3 0 rfl 0 (by decide) kn_10 rfl rfl (tk := tyX3 0) (by decide +kernel) ⟨rfl, rfl⟩ (Nat.le_of_ble_eq_true rfl) dX3_init_9 (fun H locs b => ?_)
    have b : Bd (gw g A) s.heap [(h0, .inr (3, [.ref q1, .null, .null, .int 0])), (q1, .inl (gC g 0, 6, .inl (fun _ => 0)))] H locs := b
    refine lv_aload_n C.1.1 C.1.2.1 dX3_init_12 rfl (lv_at hl 0 rfl) ?_
    refine lv_bipush (v := 6) C.1.1 C.1.2.1 dX3_init_13 (by decide) ?_
    refine n_arr (atype := .int) C b hA 0 rfl rfl kn_9 (N' := 6) (fun _ => rfl) (by decide) (by decide) (by decide) ⟨Nat.le_of_ble_eq_true rfl, Nat.le_of_ble_eq_true rfl⟩ dX3_init_15 (fun q2 H b => ?_)
    have b : Bd (gw g A) s.heap [(h0, .inr (3, [.ref q1, .null, .null, .int 0])), (q1, .inl (gC g 0, 6, .inl (fun _ => 0))), (q2, .inl (gC g 0, 6, .inl (fun _ => 0)))] H locs := b
    refine W.widen (k := 2) (n := 12) (Nat.le_of_ble_eq_true rfl) (Nat.le_of_ble_eq_true rfl) ?_
    refine n_putF C b hin kc_X3 0 rfl 1 (by decide) kn_11 rfl rfl (tk := tyX3 1) (by decide +kernel) ⟨rfl, rfl⟩ (Nat.le_of_ble_eq_true rfl) dX3_init_17 (fun H locs b => ?_)
    have b : Bd (gw g A) s.heap [(h0, .inr (3, [.ref q1, .ref q2, .null, .int 0])), (q1, .inl (gC g 0, 6, .inl (fun _ => 0))), (q2, .inl (gC g 0, 6, .inl (fun _ => 0)))] H locs := b
    refine lv_aload_n C.1.1 C.1.2.1 dX3_init_20 rfl (lv_at hl 0 rfl) ?_
    refine lv_bipush (v := 6) C.1.1 C.1.2.1 dX3_init_21 (by decide) ?_
    refine n_arr (atype := .int) C b hA 0 rfl rfl kn_9 (N' := 6) (fun _ => rfl) (by decide) (by decide) (by decide) ⟨Nat.le_of_ble_eq_true rfl, Nat.le_of_ble_eq_true rfl⟩ dX3_init_23 (fun q3 H b => ?_)
    have b : Bd (gw g A) s.heap [(h0, .inr (3, [.ref q1, .ref q2, .null, .int 0])), (q1, .inl (gC g 0, 6, .inl (fun _ => 0))), (q2, .inl (gC g 0, 6, .inl (fun _ => 0))), (q3, .inl (gC g 0, 6, .inl (fun _ => 0)))] H locs := b
    refine W.widen (k := 3) (n := 18) (Nat.le_of_ble_eq_true rfl) (Nat.le_of_ble_eq_true rfl) ?_
    refine n_putF C b hin kc_X3 0 rfl 2 (by decide) kn_12 rfl rfl (tk := tyX3 2) (by decide +kernel) ⟨rfl, rfl⟩ (Nat.le_of_ble_eq_true rfl) dX3_init_25 (fun H locs b => ?_)
    have b : Bd (gw g A) s.heap [(h0, .inr (3, [.ref q1, .ref q2, .ref q3, .int 0])), (q1, .inl (gC g 0, 6, .inl (fun _ => 0))), (q2, .inl (gC g 0, 6, .inl (fun _ => 0))), (q3, .inl (gC g 0, 6, .inl (fun _ => 0)))] H locs := b
    exact n_ret C hr hk ((q1, q2, q3)) b trivial dX3_init_28)
set_option maxHeartbeats 8000000 in
set_option maxRecDepth 200000 in
theorem c_X2_init {l : Launch} (g : Gt) (h0 sz : Nat) : Ctor l yX2_init cX2_init 1 1 1 40 12 g (fun _ => True) h0 (.inr (2, [.null, .int 0, .int 0])) [] sz (S := Nat) (fun _ => True) (fun u => [(h0, .inr (2, [.ref u, .int 0, .int (-1)])), (u, .inl (gC g 0, 40, .inl (fun _ => 0)))]) :=
  ct_of (by decide +kernel) (Nat.le_of_ble_eq_true rfl) (fun p e s m args below meth c ls A C hEx hr hk hin hA b hl => by
    have C : Cx p s m args c cX2_init 1 RX2 (gw g A) := C
    have hl : lv_has ls 1 [(0, .ref h0)] := hl
    have hin : meth.name = "<init>" := hin
    obtain ⟨H, eH⟩ : ∃ H : Heap, H = s.heap := ⟨_, rfl⟩
    obtain ⟨locs, el⟩ : ∃ locs : List Loc, locs = [] := ⟨_, rfl⟩
    have b : Bd (gw g A) s.heap [(h0, .inr (2, [.null, .int 0, .int 0]))] H locs := by rw [eH, el]; exact b
    suffices hw : W p l e (rmC 1 1 40 12) s m args below meth c H locs 0 0 (MQ below (CPost (gw g A) (S := Nat) (fun _ => True) (fun u => [(h0, .inr (2, [.ref u, .int 0, .int (-1)])), (u, .inl (gC g 0, 40, .inl (fun _ => 0)))]) (gF (gw g A))) args s 1 40 (gF (gw g A))) (F0 m 0 ls []) by rw [eH, el] at hw; exact hw
    clear eH el
    refine lv_aload_n C.1.1 C.1.2.1 dX2_init_0 rfl (lv_at hl 0 rfl) ?_
    refine n_oi C kObj_ok kn_13 hl.1 dX2_init_1 ⟨Nat.le_of_ble_eq_true rfl, Nat.le_of_ble_eq_true rfl⟩ ?_
    refine lv_aload_n C.1.1 C.1.2.1 dX2_init_4 rfl (lv_at hl 0 rfl) ?_
    refine lv_bipush (v := 40) C.1.1 C.1.2.1 dX2_init_5 (by decide) ?_
    refine n_arr (atype := .int) C b hA 0 rfl rfl kn_9 (N' := 40) (fun _ => rfl) (by decide) (by decide) (by decide) ⟨Nat.le_of_ble_eq_true rfl, Nat.le_of_ble_eq_true rfl⟩ dX2_init_7 (fun q1 H b => ?_)
    have b : Bd (gw g A) s.heap [(h0, .inr (2, [.null, .int 0, .int 0])), (q1, .inl (gC g 0, 40, .inl (fun _ => 0)))] H locs := b
    refine W.widen (k := 1) (n := 40) (Nat.le_of_ble_eq_true rfl) (Nat.le_of_ble_eq_true rfl) ?_
    refine n_putF C b hin kc_X2 0 rfl 0 (by decide) kn_14 rfl rfl (tk := tyX2 0) (by decide +kernel) ⟨rfl, rfl⟩ (Nat.le_of_ble_eq_true rfl) dX2_init_9 (fun H locs b => ?_)
    have b : Bd (gw g A) s.heap [(h0, .inr (2, [.ref q1, .int 0, .int 0])), (q1, .inl (gC g 0, 40, .inl (fun _ => 0)))] H locs := b
    refine lv_aload_n C.1.1 C.1.2.1 dX2_init_12 rfl (lv_at hl 0 rfl) ?_
    refine lv_iconst (v := (-1)) C.1.1 C.1.2.1 dX2_init_13 (by decide) ?_
    refine n_put C b kc_X2 0 rfl 2 (by decide) kn_15 rfl (by decide +kernel) (Nat.le_of_ble_eq_true rfl) dX2_init_14 (fun H locs b => ?_)
    have b : Bd (gw g A) s.heap [(h0, .inr (2, [.ref q1, .int 0, .int (-1)])), (q1, .inl (gC g 0, 40, .inl (fun _ => 0)))] H locs := b
    exact n_ret C hr hk (q1) b trivial dX2_init_17)
set_option maxHeartbeats 8000000 in
set_option maxRecDepth 200000 in
theorem c_X1_init {l : Launch} (g : Gt) (h0 sz : Nat) : Ctor l yX1_init cX1_init 1 1 7 762 12 g (va_AOA .int) h0 (.inr (1, [.null, .int 0])) [] sz (S := (Nat × (Nat → Nat))) (fun _ => True) (fun u => [(h0, .inr (1, [.ref u.1, .int 0])), (u.1, .inl (gC g 5, 6, .inr (.inr (.inr (.inr (fun i => if i < 6 then some (u.2 i) else none)))))), (u.2 0, .inl (gC g 0, 126, .inl (fun _ => 0))), (u.2 1, .inl (gC g 0, 126, .inl (fun _ => 0))), (u.2 2, .inl (gC g 0, 126, .inl (fun _ => 0))), (u.2 3, .inl (gC g 0, 126, .inl (fun _ => 0))), (u.2 4, .inl (gC g 0, 126, .inl (fun _ => 0))), (u.2 5, .inl (gC g 0, 126, .inl (fun _ => 0)))]) :=
  ct_of (by decide +kernel) (Nat.le_of_ble_eq_true rfl) (fun p e s m args below meth c ls A C hEx hr hk hin hA b hl => by
    have C : Cx p s m args c cX1_init 1 RX1 (gw g A) := C
    have hl : lv_has ls 1 [(0, .ref h0)] := hl
    have hin : meth.name = "<init>" := hin
    obtain ⟨H, eH⟩ : ∃ H : Heap, H = s.heap := ⟨_, rfl⟩
    obtain ⟨locs, el⟩ : ∃ locs : List Loc, locs = [] := ⟨_, rfl⟩
    have b : Bd (gw g A) s.heap [(h0, .inr (1, [.null, .int 0]))] H locs := by rw [eH, el]; exact b
    suffices hw : W p l e (rmC 1 7 762 12) s m args below meth c H locs 0 0 (MQ below (CPost (gw g A) (S := (Nat × (Nat → Nat))) (fun _ => True) (fun u => [(h0, .inr (1, [.ref u.1, .int 0])), (u.1, .inl (gC g 5, 6, .inr (.inr (.inr (.inr (fun i => if i < 6 then some (u.2 i) else none)))))), (u.2 0, .inl (gC g 0, 126, .inl (fun _ => 0))), (u.2 1, .inl (gC g 0, 126, .inl (fun _ => 0))), (u.2 2, .inl (gC g 0, 126, .inl (fun _ => 0))), (u.2 3, .inl (gC g 0, 126, .inl (fun _ => 0))), (u.2 4, .inl (gC g 0, 126, .inl (fun _ => 0))), (u.2 5, .inl (gC g 0, 126, .inl (fun _ => 0)))]) (gF (gw g A))) args s 7 762 (gF (gw g A))) (F0 m 0 ls []) by rw [eH, el] at hw; exact hw
    clear eH el
    refine lv_aload_n C.1.1 C.1.2.1 dX1_init_0 rfl (lv_at hl 0 rfl) ?_
    refine n_oi C kObj_ok kn_16 hl.1 dX1_init_1 ⟨Nat.le_of_ble_eq_true rfl, Nat.le_of_ble_eq_true rfl⟩ ?_
    refine lv_aload_n C.1.1 C.1.2.1 dX1_init_4 rfl (lv_at hl 0 rfl) ?_
    refine lv_bipush (v := 6) C.1.1 C.1.2.1 dX1_init_5 (by decide) ?_
    refine lv_bipush (v := 126) C.1.1 C.1.2.1 dX1_init_7 (by decide) ?_
    refine n_mna C b hA kn_17 hEx kn_9 ⟨Nat.le_of_ble_eq_true rfl, Nat.le_of_ble_eq_true rfl⟩ dX1_init_9 (fun qo r H b => ?_)
    have b : Bd (gw g A) s.heap [(h0, .inr (1, [.null, .int 0])), (qo, .inl (gC g 5, 6, .inr (.inr (.inr (.inr (fun i => if i < 6 then some (r i) else none)))))), (r 0, .inl (gC g 0, 126, .inl (fun _ => 0))), (r 1, .inl (gC g 0, 126, .inl (fun _ => 0))), (r 2, .inl (gC g 0, 126, .inl (fun _ => 0))), (r 3, .inl (gC g 0, 126, .inl (fun _ => 0))), (r 4, .inl (gC g 0, 126, .inl (fun _ => 0))), (r 5, .inl (gC g 0, 126, .inl (fun _ => 0)))] H locs := b
    refine W.widen (k := 7) (n := 762) (Nat.le_of_ble_eq_true rfl) (Nat.le_of_ble_eq_true rfl) ?_
    refine n_putF C b hin kc_X1 0 rfl 0 (by decide) kn_18 rfl rfl (tk := tyX1 0) (by decide +kernel) ⟨rfl, rfl⟩ (Nat.le_of_ble_eq_true rfl) dX1_init_13 (fun H locs b => ?_)
    have b : Bd (gw g A) s.heap [(h0, .inr (1, [.ref qo, .int 0])), (qo, .inl (gC g 5, 6, .inr (.inr (.inr (.inr (fun i => if i < 6 then some (r i) else none)))))), (r 0, .inl (gC g 0, 126, .inl (fun _ => 0))), (r 1, .inl (gC g 0, 126, .inl (fun _ => 0))), (r 2, .inl (gC g 0, 126, .inl (fun _ => 0))), (r 3, .inl (gC g 0, 126, .inl (fun _ => 0))), (r 4, .inl (gC g 0, 126, .inl (fun _ => 0))), (r 5, .inl (gC g 0, 126, .inl (fun _ => 0)))] H locs := b
    exact n_ret C hr hk ((qo, r)) b trivial dX1_init_16)
/-- an estate as it is at first -/
def clr (M : Mem) : Prop := (∀ k, k < 6 → M 1 k = 30 ∧ M 2 k = 2) ∧ M 0 9 = 0 ∧ M 0 10 = 0 ∧ M 0 11 = 0 ∧ M 0 12 = 0 ∧ M 0 13 = 0
theorem clear_ok {Q : Mem → Prop} (M : Mem) (h13 : M 0 13 = 0) (h : ∀ M1, clr M1 → Q M1) : w_X0_clear 0 M Q := by
  have loop : ∀ (n k : Nat) (M : Mem), k ≤ 6 → 6 - k < n → M 0 13 = 0 → (∀ j, j < k → M 1 j = 30 ∧ M 2 j = 2) → fu2 (w_X0_clear_2 0 Q) n (nI k) M := by
    intro n
    induction n with
    | zero => intro k M hk hn; omega
    | succ n ih =>
      intro k M hk hn h13 hj
      refine ⟨fun h6 => ?_, fun h6 => ?_⟩
      · have e : k = 6 := by
          rcases Nat.lt_or_ge k 6 with q | q
          · exact absurd h6 (nI_ge (a := k) (b := 6) q (by omega))
          · omega
        subst e
        intro M2 e2 M3 e3 M4 e4 M5 e5
        subst e2 e3 e4 e5
        refine h _ ⟨fun j hj' => ?_, ?_, ?_, ?_, ?_, ?_⟩
        · have := hj j hj'
          simpa [mu, mr] using this
        all_goals simp [mu, mr, upd, h13]
      · have hlt : k < 6 := by
          rcases Nat.lt_or_ge k 6 with q | q
          · exact q
          · exact absurd (show (6 : Int32) ≤ nI k from nI_le (a := 6) q (by omega)) h6
        have hin : vp_in (nI k) 6 := vp_in_nI hlt (by omega)
        refine ⟨hin, fun M6 e6 => ⟨hin, fun M7 e7 => ?_⟩⟩
        rw [nI_clamp (by omega)] at e6 e7
        rw [nI_1]
        subst e6 e7
        refine ih (k + 1) _ (by omega) (by omega) ?_ (fun j hj' => ?_)
        · simpa [mu, mr] using h13
        · rcases Nat.lt_or_ge j k with q | q
          · have := hj j q
            simpa [mu, mr, upd, Nat.ne_of_lt q] using this
          · have e : j = k := by omega
            subst e
            simp [mu, mr, upd]
  exact ⟨7, loop 7 0 M (by omega) (by omega) h13 (fun j hj => by omega)⟩
set_option maxHeartbeats 8000000 in
set_option maxRecDepth 200000 in
theorem c_X0_init {l : Launch} (g : Gt) (h0 sz : Nat) : Ctor l yX0_init cX0_init 1 1 9 41 21 g (fun _ => True) h0 (.inr (0, [.null, .null, .null, .null, .null, .null, .null, .null, .null, .int 0, .int 0, .int 0, .int 0, .int 0])) [] sz (S := ((Nat → Nat) × Mem)) (fun u => u.1 0 = h0 ∧ clr u.2) (fun u => wsOf (gC g) u.1 layE 10 u.2) :=
  ct_of (by decide +kernel) (Nat.le_of_ble_eq_true rfl) (fun p e s m args below meth c ls A C hEx hr hk hin hA b hl => by
    have C : Cx p s m args c cX0_init 1 RX0 (gw g A) := C
    have hl : lv_has ls 1 [(0, .ref h0)] := hl
    have hin : meth.name = "<init>" := hin
    obtain ⟨H, eH⟩ : ∃ H : Heap, H = s.heap := ⟨_, rfl⟩
    obtain ⟨locs, el⟩ : ∃ locs : List Loc, locs = [] := ⟨_, rfl⟩
    have b : Bd (gw g A) s.heap [(h0, .inr (0, [.null, .null, .null, .null, .null, .null, .null, .null, .null, .int 0, .int 0, .int 0, .int 0, .int 0]))] H locs := by rw [eH, el]; exact b
    suffices hw : W p l e (rmC 1 9 41 21) s m args below meth c H locs 0 0 (MQ below (CPost (gw g A) (S := ((Nat → Nat) × Mem)) (fun u => u.1 0 = h0 ∧ clr u.2) (fun u => wsOf (gC g) u.1 layE 10 u.2) (gF (gw g A))) args s 9 41 (gF (gw g A))) (F0 m 0 ls []) by rw [eH, el] at hw; exact hw
    clear eH el
    refine lv_aload_n C.1.1 C.1.2.1 dX0_init_0 rfl (lv_at hl 0 rfl) ?_
    refine n_oi C kObj_ok kn_19 hl.1 dX0_init_1 ⟨Nat.le_of_ble_eq_true rfl, Nat.le_of_ble_eq_true rfl⟩ ?_
    refine lv_aload_n C.1.1 C.1.2.1 dX0_init_4 rfl (lv_at hl 0 rfl) ?_
    refine lv_bipush (v := 6) C.1.1 C.1.2.1 dX0_init_5 (by decide) ?_
    refine n_arr (atype := .int) C b hA 0 rfl rfl kn_9 (N' := 6) (fun _ => rfl) (by decide) (by decide) (by decide) ⟨Nat.le_of_ble_eq_true rfl, Nat.le_of_ble_eq_true rfl⟩ dX0_init_7 (fun q1 H b => ?_)
    have b : Bd (gw g A) s.heap [(h0, .inr (0, [.null, .null, .null, .null, .null, .null, .null, .null, .null, .int 0, .int 0, .int 0, .int 0, .int 0])), (q1, .inl (gC g 0, 6, .inl (fun _ => 0)))] H locs := b
    refine W.widen (k := 1) (n := 6) (Nat.le_of_ble_eq_true rfl) (Nat.le_of_ble_eq_true rfl) ?_
    refine n_putF C b hin kc_X0 0 rfl 0 (by decide) kn_20 rfl rfl (tk := tyX0 0) (by decide +kernel) ⟨rfl, rfl⟩ (Nat.le_of_ble_eq_true rfl) dX0_init_9 (fun H locs b => ?_)
    have b : Bd (gw g A) s.heap [(h0, .inr (0, [.ref q1, .null, .null, .null, .null, .null, .null, .null, .null, .int 0, .int 0, .int 0, .int 0, .int 0])), (q1, .inl (gC g 0, 6, .inl (fun _ => 0)))] H locs := b
    refine lv_aload_n C.1.1 C.1.2.1 dX0_init_12 rfl (lv_at hl 0 rfl) ?_
    refine lv_bipush (v := 6) C.1.1 C.1.2.1 dX0_init_13 (by decide) ?_
    refine n_arr (atype := .int) C b hA 0 rfl rfl kn_9 (N' := 6) (fun _ => rfl) (by decide) (by decide) (by decide) ⟨Nat.le_of_ble_eq_true rfl, Nat.le_of_ble_eq_true rfl⟩ dX0_init_15 (fun q2 H b => ?_)
    have b : Bd (gw g A) s.heap [(h0, .inr (0, [.ref q1, .null, .null, .null, .null, .null, .null, .null, .null, .int 0, .int 0, .int 0, .int 0, .int 0])), (q1, .inl (gC g 0, 6, .inl (fun _ => 0))), (q2, .inl (gC g 0, 6, .inl (fun _ => 0)))] H locs := b
    refine W.widen (k := 2) (n := 12) (Nat.le_of_ble_eq_true rfl) (Nat.le_of_ble_eq_true rfl) ?_
    refine n_putF C b hin kc_X0 0 rfl 1 (by decide) kn_21 rfl rfl (tk := tyX0 1) (by decide +kernel) ⟨rfl, rfl⟩ (Nat.le_of_ble_eq_true rfl) dX0_init_17 (fun H locs b => ?_)
    have b : Bd (gw g A) s.heap [(h0, .inr (0, [.ref q1, .ref q2, .null, .null, .null, .null, .null, .null, .null, .int 0, .int 0, .int 0, .int 0, .int 0])), (q1, .inl (gC g 0, 6, .inl (fun _ => 0))), (q2, .inl (gC g 0, 6, .inl (fun _ => 0)))] H locs := b
    refine lv_aload_n C.1.1 C.1.2.1 dX0_init_20 rfl (lv_at hl 0 rfl) ?_
    refine lv_iconst (v := 5) C.1.1 C.1.2.1 dX0_init_21 (by decide) ?_
    refine n_arr (atype := .int) C b hA 0 rfl rfl kn_9 (N' := 5) (fun _ => rfl) (by decide) (by decide) (by decide) ⟨Nat.le_of_ble_eq_true rfl, Nat.le_of_ble_eq_true rfl⟩ dX0_init_22 (fun q3 H b => ?_)
    have b : Bd (gw g A) s.heap [(h0, .inr (0, [.ref q1, .ref q2, .null, .null, .null, .null, .null, .null, .null, .int 0, .int 0, .int 0, .int 0, .int 0])), (q1, .inl (gC g 0, 6, .inl (fun _ => 0))), (q2, .inl (gC g 0, 6, .inl (fun _ => 0))), (q3, .inl (gC g 0, 5, .inl (fun _ => 0)))] H locs := b
    refine W.widen (k := 3) (n := 17) (Nat.le_of_ble_eq_true rfl) (Nat.le_of_ble_eq_true rfl) ?_
    refine n_putF C b hin kc_X0 0 rfl 2 (by decide) kn_22 rfl rfl (tk := tyX0 2) (by decide +kernel) ⟨rfl, rfl⟩ (Nat.le_of_ble_eq_true rfl) dX0_init_24 (fun H locs b => ?_)
    have b : Bd (gw g A) s.heap [(h0, .inr (0, [.ref q1, .ref q2, .ref q3, .null, .null, .null, .null, .null, .null, .int 0, .int 0, .int 0, .int 0, .int 0])), (q1, .inl (gC g 0, 6, .inl (fun _ => 0))), (q2, .inl (gC g 0, 6, .inl (fun _ => 0))), (q3, .inl (gC g 0, 5, .inl (fun _ => 0)))] H locs := b
    refine lv_aload_n C.1.1 C.1.2.1 dX0_init_27 rfl (lv_at hl 0 rfl) ?_
    refine lv_iconst (v := 5) C.1.1 C.1.2.1 dX0_init_28 (by decide) ?_
    refine n_arr (atype := .int) C b hA 0 rfl rfl kn_9 (N' := 5) (fun _ => rfl) (by decide) (by decide) (by decide) ⟨Nat.le_of_ble_eq_true rfl, Nat.le_of_ble_eq_true rfl⟩ dX0_init_29 (fun q4 H b => ?_)
    have b : Bd (gw g A) s.heap [(h0, .inr (0, [.ref q1, .ref q2, .ref q3, .null, .null, .null, .null, .null, .null, .int 0, .int 0, .int 0, .int 0, .int 0])), (q1, .inl (gC g 0, 6, .inl (fun _ => 0))), (q2, .inl (gC g 0, 6, .inl (fun _ => 0))), (q3, .inl (gC g 0, 5, .inl (fun _ => 0))), (q4, .inl (gC g 0, 5, .inl (fun _ => 0)))] H locs := b
    refine W.widen (k := 4) (n := 22) (Nat.le_of_ble_eq_true rfl) (Nat.le_of_ble_eq_true rfl) ?_
    refine n_putF C b hin kc_X0 0 rfl 3 (by decide) kn_23 rfl rfl (tk := tyX0 3) (by decide +kernel) ⟨rfl, rfl⟩ (Nat.le_of_ble_eq_true rfl) dX0_init_31 (fun H locs b => ?_)
    have b : Bd (gw g A) s.heap [(h0, .inr (0, [.ref q1, .ref q2, .ref q3, .ref q4, .null, .null, .null, .null, .null, .int 0, .int 0, .int 0, .int 0, .int 0])), (q1, .inl (gC g 0, 6, .inl (fun _ => 0))), (q2, .inl (gC g 0, 6, .inl (fun _ => 0))), (q3, .inl (gC g 0, 5, .inl (fun _ => 0))), (q4, .inl (gC g 0, 5, .inl (fun _ => 0)))] H locs := b
    refine lv_aload_n C.1.1 C.1.2.1 dX0_init_34 rfl (lv_at hl 0 rfl) ?_
    refine lv_iconst (v := 5) C.1.1 C.1.2.1 dX0_init_35 (by decide) ?_
    refine n_arr (atype := .int) C b hA 0 rfl rfl kn_9 (N' := 5) (fun _ => rfl) (by decide) (by decide) (by decide) ⟨Nat.le_of_ble_eq_true rfl, Nat.le_of_ble_eq_true rfl⟩ dX0_init_36 (fun q5 H b => ?_)
    have b : Bd (gw g A) s.heap [(h0, .inr (0, [.ref q1, .ref q2, .ref q3, .ref q4, .null, .null, .null, .null, .null, .int 0, .int 0, .int 0, .int 0, .int 0])), (q1, .inl (gC g 0, 6, .inl (fun _ => 0))), (q2, .inl (gC g 0, 6, .inl (fun _ => 0))), (q3, .inl (gC g 0, 5, .inl (fun _ => 0))), (q4, .inl (gC g 0, 5, .inl (fun _ => 0))), (q5, .inl (gC g 0, 5, .inl (fun _ => 0)))] H locs := b
    refine W.widen (k := 5) (n := 27) (Nat.le_of_ble_eq_true rfl) (Nat.le_of_ble_eq_true rfl) ?_
    refine n_putF C b hin kc_X0 0 rfl 4 (by decide) kn_24 rfl rfl (tk := tyX0 4) (by decide +kernel) ⟨rfl, rfl⟩ (Nat.le_of_ble_eq_true rfl) dX0_init_38 (fun H locs b => ?_)
    have b : Bd (gw g A) s.heap [(h0, .inr (0, [.ref q1, .ref q2, .ref q3, .ref q4, .ref q5, .null, .null, .null, .null, .int 0, .int 0, .int 0, .int 0, .int 0])), (q1, .inl (gC g 0, 6, .inl (fun _ => 0))), (q2, .inl (gC g 0, 6, .inl (fun _ => 0))), (q3, .inl (gC g 0, 5, .inl (fun _ => 0))), (q4, .inl (gC g 0, 5, .inl (fun _ => 0))), (q5, .inl (gC g 0, 5, .inl (fun _ => 0)))] H locs := b
    refine lv_aload_n C.1.1 C.1.2.1 dX0_init_41 rfl (lv_at hl 0 rfl) ?_
    refine lv_iconst (v := 5) C.1.1 C.1.2.1 dX0_init_42 (by decide) ?_
    refine n_arr (atype := .int) C b hA 0 rfl rfl kn_9 (N' := 5) (fun _ => rfl) (by decide) (by decide) (by decide) ⟨Nat.le_of_ble_eq_true rfl, Nat.le_of_ble_eq_true rfl⟩ dX0_init_43 (fun q6 H b => ?_)
    have b : Bd (gw g A) s.heap [(h0, .inr (0, [.ref q1, .ref q2, .ref q3, .ref q4, .ref q5, .null, .null, .null, .null, .int 0, .int 0, .int 0, .int 0, .int 0])), (q1, .inl (gC g 0, 6, .inl (fun _ => 0))), (q2, .inl (gC g 0, 6, .inl (fun _ => 0))), (q3, .inl (gC g 0, 5, .inl (fun _ => 0))), (q4, .inl (gC g 0, 5, .inl (fun _ => 0))), (q5, .inl (gC g 0, 5, .inl (fun _ => 0))), (q6, .inl (gC g 0, 5, .inl (fun _ => 0)))] H locs := b
    refine W.widen (k := 6) (n := 32) (Nat.le_of_ble_eq_true rfl) (Nat.le_of_ble_eq_true rfl) ?_
    refine n_putF C b hin kc_X0 0 rfl 5 (by decide) kn_25 rfl rfl (tk := tyX0 5) (by decide +kernel) ⟨rfl, rfl⟩ (Nat.le_of_ble_eq_true rfl) dX0_init_45 (fun H locs b => ?_)
    have b : Bd (gw g A) s.heap [(h0, .inr (0, [.ref q1, .ref q2, .ref q3, .ref q4, .ref q5, .ref q6, .null, .null, .null, .int 0, .int 0, .int 0, .int 0, .int 0])), (q1, .inl (gC g 0, 6, .inl (fun _ => 0))), (q2, .inl (gC g 0, 6, .inl (fun _ => 0))), (q3, .inl (gC g 0, 5, .inl (fun _ => 0))), (q4, .inl (gC g 0, 5, .inl (fun _ => 0))), (q5, .inl (gC g 0, 5, .inl (fun _ => 0))), (q6, .inl (gC g 0, 5, .inl (fun _ => 0)))] H locs := b
    refine lv_aload_n C.1.1 C.1.2.1 dX0_init_48 rfl (lv_at hl 0 rfl) ?_
    refine lv_iconst (v := 3) C.1.1 C.1.2.1 dX0_init_49 (by decide) ?_
    refine n_arr (atype := .int) C b hA 0 rfl rfl kn_9 (N' := 3) (fun _ => rfl) (by decide) (by decide) (by decide) ⟨Nat.le_of_ble_eq_true rfl, Nat.le_of_ble_eq_true rfl⟩ dX0_init_50 (fun q7 H b => ?_)
    have b : Bd (gw g A) s.heap [(h0, .inr (0, [.ref q1, .ref q2, .ref q3, .ref q4, .ref q5, .ref q6, .null, .null, .null, .int 0, .int 0, .int 0, .int 0, .int 0])), (q1, .inl (gC g 0, 6, .inl (fun _ => 0))), (q2, .inl (gC g 0, 6, .inl (fun _ => 0))), (q3, .inl (gC g 0, 5, .inl (fun _ => 0))), (q4, .inl (gC g 0, 5, .inl (fun _ => 0))), (q5, .inl (gC g 0, 5, .inl (fun _ => 0))), (q6, .inl (gC g 0, 5, .inl (fun _ => 0))), (q7, .inl (gC g 0, 3, .inl (fun _ => 0)))] H locs := b
    refine W.widen (k := 7) (n := 35) (Nat.le_of_ble_eq_true rfl) (Nat.le_of_ble_eq_true rfl) ?_
    refine n_putF C b hin kc_X0 0 rfl 6 (by decide) kn_26 rfl rfl (tk := tyX0 6) (by decide +kernel) ⟨rfl, rfl⟩ (Nat.le_of_ble_eq_true rfl) dX0_init_52 (fun H locs b => ?_)
    have b : Bd (gw g A) s.heap [(h0, .inr (0, [.ref q1, .ref q2, .ref q3, .ref q4, .ref q5, .ref q6, .ref q7, .null, .null, .int 0, .int 0, .int 0, .int 0, .int 0])), (q1, .inl (gC g 0, 6, .inl (fun _ => 0))), (q2, .inl (gC g 0, 6, .inl (fun _ => 0))), (q3, .inl (gC g 0, 5, .inl (fun _ => 0))), (q4, .inl (gC g 0, 5, .inl (fun _ => 0))), (q5, .inl (gC g 0, 5, .inl (fun _ => 0))), (q6, .inl (gC g 0, 5, .inl (fun _ => 0))), (q7, .inl (gC g 0, 3, .inl (fun _ => 0)))] H locs := b
    refine lv_aload_n C.1.1 C.1.2.1 dX0_init_55 rfl (lv_at hl 0 rfl) ?_
    refine lv_iconst (v := 3) C.1.1 C.1.2.1 dX0_init_56 (by decide) ?_
    refine n_arr (atype := .int) C b hA 0 rfl rfl kn_9 (N' := 3) (fun _ => rfl) (by decide) (by decide) (by decide) ⟨Nat.le_of_ble_eq_true rfl, Nat.le_of_ble_eq_true rfl⟩ dX0_init_57 (fun q8 H b => ?_)
    have b : Bd (gw g A) s.heap [(h0, .inr (0, [.ref q1, .ref q2, .ref q3, .ref q4, .ref q5, .ref q6, .ref q7, .null, .null, .int 0, .int 0, .int 0, .int 0, .int 0])), (q1, .inl (gC g 0, 6, .inl (fun _ => 0))), (q2, .inl (gC g 0, 6, .inl (fun _ => 0))), (q3, .inl (gC g 0, 5, .inl (fun _ => 0))), (q4, .inl (gC g 0, 5, .inl (fun _ => 0))), (q5, .inl (gC g 0, 5, .inl (fun _ => 0))), (q6, .inl (gC g 0, 5, .inl (fun _ => 0))), (q7, .inl (gC g 0, 3, .inl (fun _ => 0))), (q8, .inl (gC g 0, 3, .inl (fun _ => 0)))] H locs := b
    refine W.widen (k := 8) (n := 38) (Nat.le_of_ble_eq_true rfl) (Nat.le_of_ble_eq_true rfl) ?_
    refine n_putF C b hin kc_X0 0 rfl 7 (by decide) kn_27 rfl rfl (tk := tyX0 7) (by decide +kernel) ⟨rfl, rfl⟩ (Nat.le_of_ble_eq_true rfl) dX0_init_59 (fun H locs b => ?_)
    have b : Bd (gw g A) s.heap [(h0, .inr (0, [.ref q1, .ref q2, .ref q3, .ref q4, .ref q5, .ref q6, .ref q7, .ref q8, .null, .int 0, .int 0, .int 0, .int 0, .int 0])), (q1, .inl (gC g 0, 6, .inl (fun _ => 0))), (q2, .inl (gC g 0, 6, .inl (fun _ => 0))), (q3, .inl (gC g 0, 5, .inl (fun _ => 0))), (q4, .inl (gC g 0, 5, .inl (fun _ => 0))), (q5, .inl (gC g 0, 5, .inl (fun _ => 0))), (q6, .inl (gC g 0, 5, .inl (fun _ => 0))), (q7, .inl (gC g 0, 3, .inl (fun _ => 0))), (q8, .inl (gC g 0, 3, .inl (fun _ => 0)))] H locs := b
    refine lv_aload_n C.1.1 C.1.2.1 dX0_init_62 rfl (lv_at hl 0 rfl) ?_
    refine lv_iconst (v := 3) C.1.1 C.1.2.1 dX0_init_63 (by decide) ?_
    refine n_arr (atype := .int) C b hA 0 rfl rfl kn_9 (N' := 3) (fun _ => rfl) (by decide) (by decide) (by decide) ⟨Nat.le_of_ble_eq_true rfl, Nat.le_of_ble_eq_true rfl⟩ dX0_init_64 (fun q9 H b => ?_)
    have b : Bd (gw g A) s.heap [(h0, .inr (0, [.ref q1, .ref q2, .ref q3, .ref q4, .ref q5, .ref q6, .ref q7, .ref q8, .null, .int 0, .int 0, .int 0, .int 0, .int 0])), (q1, .inl (gC g 0, 6, .inl (fun _ => 0))), (q2, .inl (gC g 0, 6, .inl (fun _ => 0))), (q3, .inl (gC g 0, 5, .inl (fun _ => 0))), (q4, .inl (gC g 0, 5, .inl (fun _ => 0))), (q5, .inl (gC g 0, 5, .inl (fun _ => 0))), (q6, .inl (gC g 0, 5, .inl (fun _ => 0))), (q7, .inl (gC g 0, 3, .inl (fun _ => 0))), (q8, .inl (gC g 0, 3, .inl (fun _ => 0))), (q9, .inl (gC g 0, 3, .inl (fun _ => 0)))] H locs := b
    refine W.widen (k := 9) (n := 41) (Nat.le_of_ble_eq_true rfl) (Nat.le_of_ble_eq_true rfl) ?_
    refine n_putF C b hin kc_X0 0 rfl 8 (by decide) kn_28 rfl rfl (tk := tyX0 8) (by decide +kernel) ⟨rfl, rfl⟩ (Nat.le_of_ble_eq_true rfl) dX0_init_66 (fun H locs b => ?_)
    have b : Bd (gw g A) s.heap [(h0, .inr (0, [.ref q1, .ref q2, .ref q3, .ref q4, .ref q5, .ref q6, .ref q7, .ref q8, .ref q9, .int 0, .int 0, .int 0, .int 0, .int 0])), (q1, .inl (gC g 0, 6, .inl (fun _ => 0))), (q2, .inl (gC g 0, 6, .inl (fun _ => 0))), (q3, .inl (gC g 0, 5, .inl (fun _ => 0))), (q4, .inl (gC g 0, 5, .inl (fun _ => 0))), (q5, .inl (gC g 0, 5, .inl (fun _ => 0))), (q6, .inl (gC g 0, 5, .inl (fun _ => 0))), (q7, .inl (gC g 0, 3, .inl (fun _ => 0))), (q8, .inl (gC g 0, 3, .inl (fun _ => 0))), (q9, .inl (gC g 0, 3, .inl (fun _ => 0)))] H locs := b
    refine lv_aload_n C.1.1 C.1.2.1 dX0_init_69 rfl (lv_at hl 0 rfl) ?_
    have w : Wd (g.1, g.2.1, (fun i => [h0, q1, q2, q3, q4, q5, q6, q7, q8, q9].getD i 0), A, g.2.2.2.2) layE 10 s.heap (fun _ _ => 0) H locs := b
    have C2 : Cx p s m args c cX0_init 1 RX0 (g.1, g.2.1, (fun i => [h0, q1, q2, q3, q4, q5, q6, q7, q8, q9].getD i 0), A, g.2.2.2.2) := C
    refine n_cVv C2 w [] (cZ_X0_clear (o := 0) rfl (clear_ok (Q := clr) _ rfl (fun _ h => h))) kv_X0_clear kn_29 (rcv C2 w kc_X0 (zO rfl) (zL rfl)) rfl hl.1 (Nat.le_of_ble_eq_true rfl) ⟨Nat.le_of_ble_eq_true rfl, Nat.le_of_ble_eq_true rfl⟩ ⟨Nat.le_of_ble_eq_true rfl, Nat.le_of_ble_eq_true rfl⟩ dX0_init_70 (fun M1 H locs hq w => ?_)
    have b : Bd (gw g A) s.heap (wsOf (gC g) (fun i => [h0, q1, q2, q3, q4, q5, q6, q7, q8, q9].getD i 0) layE 10 M1) H locs := w
    exact n_ret C hr hk ((fun i => [h0, q1, q2, q3, q4, q5, q6, q7, q8, q9].getD i 0), M1) b ⟨rfl, hq⟩ dX0_init_73)
set_option maxHeartbeats 8000000 in
set_option maxRecDepth 200000 in
theorem c_X6_init {l : Launch} (g : Gt) (h0 sz : Nat) : Ctor l yX6_init cX6_init 1 2 10 55 41 g (fun _ => True) h0 (.inr (6, [.null, .int 0, .int 0, .int 0, .int 0, .int 0])) [] sz (S := ((Nat → Nat) × Mem)) (fun u => True ∧ clr u.2) (fun u => (h0, .inr (6, [.ref (u.1 0), .int 0, .int 0, .int 0, .int 0, .int 0])) :: wsOf (gC g) u.1 layE 10 u.2) :=
  ct_of (by decide +kernel) (Nat.le_of_ble_eq_true rfl) (fun p e s m args below meth c ls A C hEx hr hk hin hA b hl => by
    have C : Cx p s m args c cX6_init 1 RX6 (gw g A) := C
    have hl : lv_has ls 1 [(0, .ref h0)] := hl
    have hin : meth.name = "<init>" := hin
    obtain ⟨H, eH⟩ : ∃ H : Heap, H = s.heap := ⟨_, rfl⟩
    obtain ⟨locs, el⟩ : ∃ locs : List Loc, locs = [] := ⟨_, rfl⟩
    have b : Bd (gw g A) s.heap [(h0, .inr (6, [.null, .int 0, .int 0, .int 0, .int 0, .int 0]))] H locs := by rw [eH, el]; exact b
    suffices hw : W p l e (rmC 2 10 55 41) s m args below meth c H locs 0 0 (MQ below (CPost (gw g A) (S := ((Nat → Nat) × Mem)) (fun u => True ∧ clr u.2) (fun u => (h0, .inr (6, [.ref (u.1 0), .int 0, .int 0, .int 0, .int 0, .int 0])) :: wsOf (gC g) u.1 layE 10 u.2) (gF (gw g A))) args s 10 55 (gF (gw g A))) (F0 m 0 ls []) by rw [eH, el] at hw; exact hw
    clear eH el
    refine lv_aload_n C.1.1 C.1.2.1 dX6_init_0 rfl (lv_at hl 0 rfl) ?_
    refine n_oi C kObj_ok kn_30 hl.1 dX6_init_1 ⟨Nat.le_of_ble_eq_true rfl, Nat.le_of_ble_eq_true rfl⟩ ?_
    refine lv_aload_n C.1.1 C.1.2.1 dX6_init_4 rfl (lv_at hl 0 rfl) ?_
    refine n_obj C b hA kc_X0 ⟨kn_31, kn_32, kn_33⟩ [.null, .null, .null, .null, .null, .null, .null, .null, .null, .int 0, .int 0, .int 0, .int 0, .int 0] kd_X0 ⟨Nat.le_of_ble_eq_true rfl, Nat.le_of_ble_eq_true rfl⟩ dX6_init_5 (fun q1 H b => ?_)
    refine W.widen (k := 1) (n := 14) (Nat.le_of_ble_eq_true rfl) (Nat.le_of_ble_eq_true rfl) ?_
    refine lv_dup C.1.1 C.1.2.1 dX6_init_8 rfl ?_
    refine n_callI C (h0 := q1) b hA [] (c_X0_init g q1 _) ExB_t (fun _ _ _ => trivial) ki_X0_init kn_34 rfl hl.1 (Nat.le_of_ble_eq_true rfl) ⟨Nat.le_of_ble_eq_true rfl, Nat.le_of_ble_eq_true rfl⟩ ⟨Nat.le_of_ble_eq_true rfl, Nat.le_of_ble_eq_true rfl⟩ dX6_init_9 (fun u2 H locs hp bn => ?_)
    obtain ⟨e0, hpu2⟩ := hp
    subst e0
    have b : Bd (gw g A) s.heap [(h0, .inr (6, [.null, .int 0, .int 0, .int 0, .int 0, .int 0])), (u2.1 0, .inr (0, [.ref (u2.1 1), .ref (u2.1 2), .ref (u2.1 3), .ref (u2.1 4), .ref (u2.1 5), .ref (u2.1 6), .ref (u2.1 7), .ref (u2.1 8), .ref (u2.1 9), .int (u2.2 0 9), .int (u2.2 0 10), .int (u2.2 0 11), .int (u2.2 0 12), .int (u2.2 0 13)])), (u2.1 1, .inl (gC g 0, 6, .inl (u2.2 1))), (u2.1 2, .inl (gC g 0, 6, .inl (u2.2 2))), (u2.1 3, .inl (gC g 0, 5, .inl (u2.2 3))), (u2.1 4, .inl (gC g 0, 5, .inl (u2.2 4))), (u2.1 5, .inl (gC g 0, 5, .inl (u2.2 5))), (u2.1 6, .inl (gC g 0, 5, .inl (u2.2 6))), (u2.1 7, .inl (gC g 0, 3, .inl (u2.2 7))), (u2.1 8, .inl (gC g 0, 3, .inl (u2.2 8))), (u2.1 9, .inl (gC g 0, 3, .inl (u2.2 9)))] H locs := bn
    refine W.widen (k := 10) (n := 55) (Nat.le_of_ble_eq_true rfl) (Nat.le_of_ble_eq_true rfl) ?_
    refine n_putF C b hin kc_X6 0 rfl 0 (by decide) kn_35 rfl rfl (tk := tyX6 0) (by decide +kernel) ⟨rfl, rfl⟩ (Nat.le_of_ble_eq_true rfl) dX6_init_12 (fun H locs b => ?_)
    have b : Bd (gw g A) s.heap [(h0, .inr (6, [.ref (u2.1 0), .int 0, .int 0, .int 0, .int 0, .int 0])), (u2.1 0, .inr (0, [.ref (u2.1 1), .ref (u2.1 2), .ref (u2.1 3), .ref (u2.1 4), .ref (u2.1 5), .ref (u2.1 6), .ref (u2.1 7), .ref (u2.1 8), .ref (u2.1 9), .int (u2.2 0 9), .int (u2.2 0 10), .int (u2.2 0 11), .int (u2.2 0 12), .int (u2.2 0 13)])), (u2.1 1, .inl (gC g 0, 6, .inl (u2.2 1))), (u2.1 2, .inl (gC g 0, 6, .inl (u2.2 2))), (u2.1 3, .inl (gC g 0, 5, .inl (u2.2 3))), (u2.1 4, .inl (gC g 0, 5, .inl (u2.2 4))), (u2.1 5, .inl (gC g 0, 5, .inl (u2.2 5))), (u2.1 6, .inl (gC g 0, 5, .inl (u2.2 6))), (u2.1 7, .inl (gC g 0, 3, .inl (u2.2 7))), (u2.1 8, .inl (gC g 0, 3, .inl (u2.2 8))), (u2.1 9, .inl (gC g 0, 3, .inl (u2.2 9)))] H locs := b
    exact n_ret C hr hk u2 b ⟨trivial, hpu2⟩ dX6_init_15)
