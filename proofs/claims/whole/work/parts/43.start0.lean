theorem ks_w0 : Cond.arrayClass .int ∈ lw_tbl := List.mem_append_right _ (List.mem_append_left _ (List.mem_of_getElem? (i := 98) (by decide +kernel)))
theorem ks_w1 : Cond.arrayClass .byte ∈ lw_tbl := List.mem_append_right _ (List.mem_append_left _ (List.mem_of_getElem? (i := 155) (by decide +kernel)))
theorem ks_w2 : Cond.arrayClass .boolean ∈ lw_tbl := List.mem_append_right _ (List.mem_append_right _ (List.mem_append_left _ (List.mem_of_getElem? (i := 0) (by decide +kernel))))
theorem ks_w3 : Cond.arrayOver (.object "EveningPoach$Estate") ∈ lw_tbl := List.mem_append_right _ (List.mem_append_left _ (List.mem_of_getElem? (i := 220) (by decide +kernel)))
theorem ks_w4 : Cond.arrayOver (.object "EveningPoach$Sheet") ∈ lw_tbl := List.mem_append_right _ (List.mem_append_left _ (List.mem_of_getElem? (i := 222) (by decide +kernel)))
theorem ks_w5 : Cond.arrayOver (.array .int) ∈ lw_tbl := List.mem_append_right _ (List.mem_append_left _ (List.mem_of_getElem? (i := 211) (by decide +kernel)))
theorem ks_w6 : Cond.stringRef RX5 130 "net" ∈ lw_tbl := List.mem_append_right _ (List.mem_append_right _ (List.mem_append_left _ (List.mem_of_getElem? (i := 86) (by decide +kernel))))
theorem ks_w7 : Cond.stringRef RX5 132 "dog" ∈ lw_tbl := List.mem_append_right _ (List.mem_append_right _ (List.mem_append_left _ (List.mem_of_getElem? (i := 87) (by decide +kernel))))
theorem ks_w8 : Cond.stringRef RX5 134 "boy" ∈ lw_tbl := List.mem_append_right _ (List.mem_append_right _ (List.mem_append_left _ (List.mem_of_getElem? (i := 88) (by decide +kernel))))
theorem ks_w9 : Cond.stringRef RX5 136 "squire" ∈ lw_tbl := List.mem_append_right _ (List.mem_append_right _ (List.mem_append_left _ (List.mem_of_getElem? (i := 89) (by decide +kernel))))
theorem ks_w10 : Cond.stringRef RX5 57 "keeper" ∈ lw_tbl := List.mem_append_right _ (List.mem_append_right _ (List.mem_append_left _ (List.mem_of_getElem? (i := 158) (by decide +kernel))))
theorem ks_w11 : Cond.stringRef RX5 62 "gate" ∈ lw_tbl := List.mem_append_right _ (List.mem_append_right _ (List.mem_append_left _ (List.mem_of_getElem? (i := 167) (by decide +kernel))))
theorem ks_w12 : Cond.methodLinkNest RX7 18 yX6_init "EveningPoach" ∈ lw_tbl := List.mem_append_right _ (List.mem_append_left _ (List.mem_of_getElem? (i := 101) (by decide +kernel)))
theorem ks_w13 : Cond.methodLinkNest RX7 25 yX5_init "EveningPoach" ∈ lw_tbl := List.mem_append_right _ (List.mem_append_left _ (List.mem_of_getElem? (i := 135) (by decide +kernel)))
theorem ks_w14 : Cond.methodLinkNest RX7 37 yX3_init "EveningPoach" ∈ lw_tbl := List.mem_append_right _ (List.mem_append_left _ (List.mem_of_getElem? (i := 186) (by decide +kernel)))
theorem ks_w15 : Cond.methodLinkNest RX7 44 yX1_init "EveningPoach" ∈ lw_tbl := List.mem_append_right _ (List.mem_append_left _ (List.mem_of_getElem? (i := 206) (by decide +kernel)))
theorem ks_w16 : Cond.methodLinkNest RX7 63 yX2_init "EveningPoach" ∈ lw_tbl := List.mem_append_right _ (List.mem_append_left _ (List.mem_of_getElem? (i := 224) (by decide +kernel)))
theorem ks_w17 : Cond.methodLinkNest RX5 9 yX4_init "EveningPoach" ∈ lw_tbl := List.mem_append_right _ (List.mem_append_left _ (List.mem_of_getElem? (i := 141) (by decide +kernel)))
theorem ks_w18 : Cond.laysStatic "EveningPoach$Estate" "TAKES_BY_KIND" "[I" ∈ lw_tbl := List.mem_append_right _ (List.mem_append_right _ (List.mem_append_right _ (List.mem_append_left _ (List.mem_of_getElem? (i := 8) (by decide +kernel)))))
theorem ks_w19 : Cond.laysStatic "EveningPoach$Estate" "NOISE_BY_KIND" "[I" ∈ lw_tbl := List.mem_append_right _ (List.mem_append_right _ (List.mem_append_left _ (List.mem_of_getElem? (i := 219) (by decide +kernel))))
theorem ks_w20 : Cond.laysStatic "java/lang/String" "COMPACT_STRINGS" "Z" ∈ lw_tbl := List.mem_append_right _ (List.mem_append_right _ (List.mem_append_left _ (List.mem_of_getElem? (i := 103) (by decide +kernel))))
theorem ks_w21 : Cond.laysStatic "jdk/internal/util/Preconditions" "SIOOBE_FORMATTER" "Ljava/util/function/BiFunction;" ∈ lw_tbl := List.mem_append_right _ (List.mem_append_right _ (List.mem_append_left _ (List.mem_of_getElem? (i := 119) (by decide +kernel))))
theorem ks_w22 : Cond.initialized "EveningPoach$Estate" ∈ lw_tbl := List.mem_append_right _ (List.mem_append_left _ (List.mem_of_getElem? (i := 2) (by decide +kernel)))
theorem ks_w23 : Cond.initialized "java/lang/String" ∈ lw_tbl := List.mem_append_right _ (List.mem_append_left _ (List.mem_of_getElem? (i := 10) (by decide +kernel)))
theorem ks_w24 : Cond.initialized "jdk/internal/util/Preconditions" ∈ lw_tbl := List.mem_append_right _ (List.mem_append_left _ (List.mem_of_getElem? (i := 12) (by decide +kernel)))
theorem ks_w25 : Cond.instantiable RX0 14 ∈ lw_tbl := List.mem_append_right _ (List.mem_append_left _ (List.mem_of_getElem? (i := 26) (by decide +kernel)))
theorem ks_w26 : Cond.instantiable RX1 2 ∈ lw_tbl := List.mem_append_right _ (List.mem_append_left _ (List.mem_of_getElem? (i := 205) (by decide +kernel)))
theorem ks_w27 : Cond.instantiable RX2 3 ∈ lw_tbl := List.mem_append_right _ (List.mem_append_left _ (List.mem_of_getElem? (i := 223) (by decide +kernel)))
theorem ks_w28 : Cond.instantiable RX3 4 ∈ lw_tbl := List.mem_append_right _ (List.mem_append_left _ (List.mem_of_getElem? (i := 185) (by decide +kernel)))
theorem ks_w29 : Cond.instantiable RX4 2 ∈ lw_tbl := List.mem_append_right _ (List.mem_append_left _ (List.mem_of_getElem? (i := 140) (by decide +kernel)))
theorem ks_w30 : Cond.instantiable RX5 8 ∈ lw_tbl := List.mem_append_right _ (List.mem_append_left _ (List.mem_of_getElem? (i := 134) (by decide +kernel)))
theorem ks_w31 : Cond.instantiable RX6 6 ∈ lw_tbl := List.mem_append_right _ (List.mem_append_left _ (List.mem_of_getElem? (i := 100) (by decide +kernel)))
theorem ks_w32 : Cond.instantiable RX7 11 ∈ lw_tbl := List.mem_append_right _ (List.mem_append_left _ (List.mem_of_getElem? (i := 18) (by decide +kernel)))
theorem ks_w33 : Cond.instantiable RX8 28 ∈ lw_tbl := List.mem_append_right _ (List.mem_append_right _ (List.mem_append_right _ (List.mem_append_right _ (List.mem_append_left _ (List.mem_of_getElem? (i := 60) (by decide +kernel))))))
theorem ks_w34 : Cond.classLink RL 7 RX7 ∈ lw_tbl := List.mem_append_right _ (List.mem_append_left _ (List.mem_of_getElem? (i := 17) (by decide +kernel)))
theorem ks_w35 : Cond.classLink RL 10 RX8 ∈ lw_tbl := List.mem_append_right _ (List.mem_append_right _ (List.mem_append_right _ (List.mem_append_right _ (List.mem_append_left _ (List.mem_of_getElem? (i := 59) (by decide +kernel))))))
theorem ks_w36 : Cond.methodLink RL 9 yX7_init ∈ lw_tbl := List.mem_append_right _ (List.mem_append_left _ (List.mem_of_getElem? (i := 19) (by decide +kernel)))
theorem ks_w37 : Cond.methodLink RL 12 yX8_init ∈ lw_tbl := List.mem_append_right _ (List.mem_append_right _ (List.mem_append_right _ (List.mem_append_right _ (List.mem_append_left _ (List.mem_of_getElem? (i := 61) (by decide +kernel))))))
theorem ks_w38 : Cond.initialized "EveningPoach" ∈ lw_tbl := List.mem_append_right _ (List.mem_append_left _ (List.mem_of_getElem? (i := 1) (by decide +kernel)))
theorem ks_w39 : Cond.initialized "EveningPoachModel" ∈ lw_tbl := List.mem_append_right _ (List.mem_append_left _ (List.mem_of_getElem? (i := 9) (by decide +kernel)))
theorem ks_w40 : Cond.instanceMethod objectInit ∈ lw_tbl := List.mem_append_right _ (List.mem_append_left _ (List.mem_of_getElem? (i := 23) (by decide +kernel)))
theorem aw_law {w : Cond} (h : w ∈ lw_tbl) (g : goodWord w = true) : w ∈ ALL := List.mem_filter.mpr ⟨h, g⟩
/-- what the tables say of the arrays' classes -/
theorem st_prim {args : Array Value} {s : State} {ty : FieldType} (h : (Cond.arrayClass ty).before args s = true) (hp : ∀ C, ty ≠ .object C) : ∃ c : ClassId, ArrOfT s c ty ∧ va_RA s c ty := by
  obtain ⟨c, k, comp, h1, h2, h3⟩ := Cond.arrayClass_spec h
  refine ⟨c, fun N z => ⟨(fun q hq => by cases hq), k, h2, comp, h3⟩, ?_⟩
  cases ty <;> first | exact h1 | exact absurd rfl (hp _)
theorem st_obj {args : Array Value} {s : State} {C : String} (h : (Cond.arrayOver (.object C)).before args s = true) : ∃ c : ClassId, ArrOfT s c (.object C) ∧ va_RA s c (.object C) := by
  obtain ⟨comp, c, k, h1, -, h3, h4, h5⟩ := Cond.arrayOver_spec h
  exact ⟨c, fun N z => ⟨(fun q hq => by cases hq), k, h3, comp, h4⟩, k, comp, h3, h4, h1, h5⟩
theorem st_arr {args : Array Value} {s : State} {t : FieldType} (h : (Cond.arrayOver (.array t)).before args s = true) : ∃ c : ClassId, ArrOfT s c (.array t) ∧ va_RA s c (.array t) := by
  obtain ⟨comp, c, k, h1, h3, h4, h5⟩ := Cond.arrayOver_specA h
  exact ⟨c, fun N z => ⟨(fun q hq => by cases hq), k, h3, comp, h4⟩, h5⟩
set_option maxHeartbeats 8000000 in
set_option maxRecDepth 200000 in
/-- the fixed things at the law's start -/
theorem st_all {p : Program} {s : State} {m : MethodId} {meth : Method} {c : Code} {b L : Nat} {xs : Nat → Int32} (C0 : lw_At p s m meth c b L xs) : ∃ g : Gt, gF g = (fun q => s.heap.size ≤ q) ∧ Cx p s m #[Value.ref b] c cL_law 4 RL g ∧ ExX s := by
  obtain ⟨hx, hb, hr, hml, hown, hts, hX, hbl, hlocks, hgv⟩ := C0
  have hs := flat_of_before _ hgv
  have htsA : ∀ w ∈ ALL, w.before #[Value.ref b] s = true := fun w h => hts w (List.mem_filter.mp h).1
  obtain ⟨c0, iS0, hKn0⟩ := u_known (C := RX0) (T := TX0) (N := 14) (n := 14) htsA kc_X0.1 (hts _ ks_w25)
  obtain ⟨c1, iS1, hKn1⟩ := u_known (C := RX1) (T := TX1) (N := 2) (n := 2) htsA kc_X1.1 (hts _ ks_w26)
  obtain ⟨c2, iS2, hKn2⟩ := u_known (C := RX2) (T := TX2) (N := 3) (n := 3) htsA kc_X2.1 (hts _ ks_w27)
  obtain ⟨c3, iS3, hKn3⟩ := u_known (C := RX3) (T := TX3) (N := 4) (n := 4) htsA kc_X3.1 (hts _ ks_w28)
  obtain ⟨c4, iS4, hKn4⟩ := u_known (C := RX4) (T := TX4) (N := 2) (n := 2) htsA kc_X4.1 (hts _ ks_w29)
  obtain ⟨c5, iS5, hKn5⟩ := u_known (C := RX5) (T := TX5) (N := 8) (n := 8) htsA kc_X5.1 (hts _ ks_w30)
  obtain ⟨c6, iS6, hKn6⟩ := u_known (C := RX6) (T := TX6) (N := 6) (n := 6) htsA kc_X6.1 (hts _ ks_w31)
  obtain ⟨c7, iS7, hKn7⟩ := u_known (C := RX7) (T := TX7) (N := 11) (n := 11) htsA kc_X7.1 (hts _ ks_w32)
  obtain ⟨c8, iS8, hKn8⟩ := u_known (C := RX8) (T := TX8) (N := 28) (n := 28) htsA kc_X8.1 (hts _ ks_w33)
  obtain ⟨a0, h0⟩ := st_prim (hts _ ks_w0) (fun _ h => by cases h)
  obtain ⟨a1, h1⟩ := st_prim (hts _ ks_w1) (fun _ h => by cases h)
  obtain ⟨a2, h2⟩ := st_prim (hts _ ks_w2) (fun _ h => by cases h)
  obtain ⟨a3, h3⟩ := st_obj (hts _ ks_w3)
  obtain ⟨a4, h4⟩ := st_obj (hts _ ks_w4)
  obtain ⟨a5, h5⟩ := st_arr (hts _ ks_w5)
  obtain ⟨tk, tke, tkT⟩ := va_Tof (tm := .static "EveningPoach$Estate" "TAKES_BY_KIND" "[I") (ty := .int) (N := 4) (f := fun j => .int (takesT j)) (A := fun q => s.heap.size ≤ q) (by decide) (hs _ (by decide +kernel)) (va_eqt (z := 4) (hs _ (by decide +kernel))) (fun j hj => by
    match j, hj with
    | 0, _ => exact va_eqt (z := 6) (hs _ (by decide +kernel))
    | 1, _ => exact va_eqt (z := 6) (hs _ (by decide +kernel))
    | 2, _ => exact va_eqt (z := 3) (hs _ (by decide +kernel))
    | 3, _ => exact va_eqt (z := 12) (hs _ (by decide +kernel))
    | j + 4, h => exact absurd h (by omega)) (fun a h => Nat.not_le.mpr h)
  obtain ⟨ns, nse, nsT⟩ := va_Tof (tm := .static "EveningPoach$Estate" "NOISE_BY_KIND" "[I") (ty := .int) (N := 4) (f := fun j => .int (noiseT j)) (A := fun q => s.heap.size ≤ q) (by decide) (hs _ (by decide +kernel)) (va_eqt (z := 4) (hs _ (by decide +kernel))) (fun j hj => by
    match j, hj with
    | 0, _ => exact va_eqt (z := 3) (hs _ (by decide +kernel))
    | 1, _ => exact va_eqt (z := 1) (hs _ (by decide +kernel))
    | 2, _ => exact va_eqt (z := 5) (hs _ (by decide +kernel))
    | 3, _ => exact va_eqt (z := 5) (hs _ (by decide +kernel))
    | j + 4, h => exact absurd h (by omega)) (fun a h => Nat.not_le.mpr h)
  obtain ⟨adK, adV, hSt, hSe⟩ := vk_Sof (args := #[Value.ref b]) (s := s) (N := 6) (tm := (fun i => Term.string "EveningPoach$TapeReader" (([130, 132, 134, 136, 57, 62] : List Nat).getD i 0))) (len := txLen) (byt := txByt) (A := fun q => s.heap.size ≤ q) (fun i hi => by
    match i, hi with
    | 0, _ => exact (by decide : 3 < 2 ^ 31)
    | 1, _ => exact (by decide : 3 < 2 ^ 31)
    | 2, _ => exact (by decide : 3 < 2 ^ 31)
    | 3, _ => exact (by decide : 6 < 2 ^ 31)
    | 4, _ => exact (by decide : 6 < 2 ^ 31)
    | 5, _ => exact (by decide : 4 < 2 ^ 31)
    | i + 6, h => exact absurd h (by omega)) (fun i hi => by
    match i, hi with
    | 0, _ => exact hs _ (by decide +kernel)
    | 1, _ => exact hs _ (by decide +kernel)
    | 2, _ => exact hs _ (by decide +kernel)
    | 3, _ => exact hs _ (by decide +kernel)
    | 4, _ => exact hs _ (by decide +kernel)
    | 5, _ => exact hs _ (by decide +kernel)
    | i + 6, h => exact absurd h (by omega)) (fun i hi => by
    match i, hi with
    | 0, _ => exact hs _ (by decide +kernel)
    | 1, _ => exact hs _ (by decide +kernel)
    | 2, _ => exact hs _ (by decide +kernel)
    | 3, _ => exact hs _ (by decide +kernel)
    | 4, _ => exact hs _ (by decide +kernel)
    | 5, _ => exact hs _ (by decide +kernel)
    | i + 6, h => exact absurd h (by omega)) (fun i hi => by
    match i, hi with
    | 0, _ => exact hs _ (by decide +kernel)
    | 1, _ => exact hs _ (by decide +kernel)
    | 2, _ => exact hs _ (by decide +kernel)
    | 3, _ => exact hs _ (by decide +kernel)
    | 4, _ => exact hs _ (by decide +kernel)
    | 5, _ => exact hs _ (by decide +kernel)
    | i + 6, h => exact absurd h (by omega)) (fun i hi => by
    match i, hi with
    | 0, _ => exact hs _ (by decide +kernel)
    | 1, _ => exact hs _ (by decide +kernel)
    | 2, _ => exact hs _ (by decide +kernel)
    | 3, _ => exact hs _ (by decide +kernel)
    | 4, _ => exact hs _ (by decide +kernel)
    | 5, _ => exact hs _ (by decide +kernel)
    | i + 6, h => exact absurd h (by omega)) (fun i hi j hj => by
    match i, hi with
    | 0, _ =>
      match j, hj with
      | 0, _ => exact hs _ (by decide +kernel)
      | 1, _ => exact hs _ (by decide +kernel)
      | 2, _ => exact hs _ (by decide +kernel)
      | j + 3, h => exact absurd h (by simp [txLen])
    | 1, _ =>
      match j, hj with
      | 0, _ => exact hs _ (by decide +kernel)
      | 1, _ => exact hs _ (by decide +kernel)
      | 2, _ => exact hs _ (by decide +kernel)
      | j + 3, h => exact absurd h (by simp [txLen])
    | 2, _ =>
      match j, hj with
      | 0, _ => exact hs _ (by decide +kernel)
      | 1, _ => exact hs _ (by decide +kernel)
      | 2, _ => exact hs _ (by decide +kernel)
      | j + 3, h => exact absurd h (by simp [txLen])
    | 3, _ =>
      match j, hj with
      | 0, _ => exact hs _ (by decide +kernel)
      | 1, _ => exact hs _ (by decide +kernel)
      | 2, _ => exact hs _ (by decide +kernel)
      | 3, _ => exact hs _ (by decide +kernel)
      | 4, _ => exact hs _ (by decide +kernel)
      | 5, _ => exact hs _ (by decide +kernel)
      | j + 6, h => exact absurd h (by simp [txLen])
    | 4, _ =>
      match j, hj with
      | 0, _ => exact hs _ (by decide +kernel)
      | 1, _ => exact hs _ (by decide +kernel)
      | 2, _ => exact hs _ (by decide +kernel)
      | 3, _ => exact hs _ (by decide +kernel)
      | 4, _ => exact hs _ (by decide +kernel)
      | 5, _ => exact hs _ (by decide +kernel)
      | j + 6, h => exact absurd h (by simp [txLen])
    | 5, _ =>
      match j, hj with
      | 0, _ => exact hs _ (by decide +kernel)
      | 1, _ => exact hs _ (by decide +kernel)
      | 2, _ => exact hs _ (by decide +kernel)
      | 3, _ => exact hs _ (by decide +kernel)
      | j + 4, h => exact absurd h (by simp [txLen])
    | i + 6, h => exact absurd h (by omega)) (fun i j hi hj hij => by
    match i, hi, j, hj, hij with
    | 0, _, 0, _, h => exact absurd rfl h
    | 0, _, 1, _, _ => exact Or.inl (hs _ (by decide +kernel))
    | 0, _, 2, _, _ => exact Or.inl (hs _ (by decide +kernel))
    | 0, _, 3, _, _ => exact Or.inl (hs _ (by decide +kernel))
    | 0, _, 4, _, _ => exact Or.inl (hs _ (by decide +kernel))
    | 0, _, 5, _, _ => exact Or.inl (hs _ (by decide +kernel))
    | 1, _, 0, _, _ => exact Or.inr (hs _ (by decide +kernel))
    | 1, _, 1, _, h => exact absurd rfl h
    | 1, _, 2, _, _ => exact Or.inl (hs _ (by decide +kernel))
    | 1, _, 3, _, _ => exact Or.inl (hs _ (by decide +kernel))
    | 1, _, 4, _, _ => exact Or.inl (hs _ (by decide +kernel))
    | 1, _, 5, _, _ => exact Or.inl (hs _ (by decide +kernel))
    | 2, _, 0, _, _ => exact Or.inr (hs _ (by decide +kernel))
    | 2, _, 1, _, _ => exact Or.inr (hs _ (by decide +kernel))
    | 2, _, 2, _, h => exact absurd rfl h
    | 2, _, 3, _, _ => exact Or.inl (hs _ (by decide +kernel))
    | 2, _, 4, _, _ => exact Or.inl (hs _ (by decide +kernel))
    | 2, _, 5, _, _ => exact Or.inl (hs _ (by decide +kernel))
    | 3, _, 0, _, _ => exact Or.inr (hs _ (by decide +kernel))
    | 3, _, 1, _, _ => exact Or.inr (hs _ (by decide +kernel))
    | 3, _, 2, _, _ => exact Or.inr (hs _ (by decide +kernel))
    | 3, _, 3, _, h => exact absurd rfl h
    | 3, _, 4, _, _ => exact Or.inl (hs _ (by decide +kernel))
    | 3, _, 5, _, _ => exact Or.inl (hs _ (by decide +kernel))
    | 4, _, 0, _, _ => exact Or.inr (hs _ (by decide +kernel))
    | 4, _, 1, _, _ => exact Or.inr (hs _ (by decide +kernel))
    | 4, _, 2, _, _ => exact Or.inr (hs _ (by decide +kernel))
    | 4, _, 3, _, _ => exact Or.inr (hs _ (by decide +kernel))
    | 4, _, 4, _, h => exact absurd rfl h
    | 4, _, 5, _, _ => exact Or.inl (hs _ (by decide +kernel))
    | 5, _, 0, _, _ => exact Or.inr (hs _ (by decide +kernel))
    | 5, _, 1, _, _ => exact Or.inr (hs _ (by decide +kernel))
    | 5, _, 2, _, _ => exact Or.inr (hs _ (by decide +kernel))
    | 5, _, 3, _, _ => exact Or.inr (hs _ (by decide +kernel))
    | 5, _, 4, _, _ => exact Or.inr (hs _ (by decide +kernel))
    | 5, _, 5, _, h => exact absurd rfl h
    | i + 6, h, _, _, _ => exact absurd h (by omega)
    | _, _, j + 6, h, _ => exact absurd h (by omega)) (fun a h => Nat.not_le.mpr h)
  refine ⟨(((fun k => ([c0, c1, c2, c3, c4, c5, c6, c7, c8] : List _).getD k c0), (fun k => ([iS0, iS1, iS2, iS3, iS4, iS5, iS6, iS7, iS8] : List _).getD k iS0)), (fun k => ([a0, a1, a2, a3, a4, a5] : List ClassId).getD k a0), (fun _ => 0), (fun q => s.heap.size ≤ q), (tk, ns), adK, adV), rfl, ⟨⟨hx, hb, hml, hown, htsA⟩, ⟨fun k q hq => ?_, fun k q hq => ?_⟩, ⟨⟨va_Zof (hts _ ks_w18) (hts _ ks_w22) tke (fun a h => Nat.not_le.mpr h), tkT, va_Zof (hts _ ks_w19) (hts _ ks_w22) nse (fun a h => Nat.not_le.mpr h), nsT, hSt, va_Zof (hts _ ks_w20) (hts _ ks_w23) (va_eqi (z := 1) (hs _ (by decide +kernel))) (fun a h => Nat.not_le.mpr h), va_Zqof (hts _ ks_w21) (hts _ ks_w24) (hs _ (by decide +kernel)) (fun a h => Nat.not_le.mpr h)⟩, vk_R.of (hts _ ks_w6) (hSe 0 (by decide)), vk_R.of (hts _ ks_w7) (hSe 1 (by decide)), vk_R.of (hts _ ks_w8) (hSe 2 (by decide)), vk_R.of (hts _ ks_w9) (hSe 3 (by decide)), vk_R.of (hts _ ks_w10) (hSe 4 (by decide)), vk_R.of (hts _ ks_w11) (hSe 5 (by decide))⟩⟩, va_AO.of (hts _ ks_w3), va_AO.of (hts _ ks_w4), va_AOA.of (hts _ ks_w5), va_Nw.of rfl (hts _ ks_w12), va_Nw.of rfl (hts _ ks_w13), va_Nw.of rfl (hts _ ks_w14), va_Nw.of rfl (hts _ ks_w15), va_Nw.of rfl (hts _ ks_w16), va_Nw.of rfl (hts _ ks_w17)⟩
  · match k, hq with
    | 0, hq => cases hq; exact hKn0
    | 1, hq => cases hq; exact hKn1
    | 2, hq => cases hq; exact hKn2
    | 3, hq => cases hq; exact hKn3
    | 4, hq => cases hq; exact hKn4
    | 5, hq => cases hq; exact hKn5
    | 6, hq => cases hq; exact hKn6
    | 7, hq => cases hq; exact hKn7
    | 8, hq => cases hq; exact hKn8
    | k + 9, hq => simp [vwCl] at hq
  · match k, hq with
    | 0, hq => cases hq; exact h0
    | 1, hq => cases hq; exact h1
    | 2, hq => cases hq; exact h2
    | 3, hq => cases hq; exact h3
    | 4, hq => cases hq; exact h4
    | 5, hq => cases hq; exact h5
    | k + 6, hq => simp [tysOf] at hq
