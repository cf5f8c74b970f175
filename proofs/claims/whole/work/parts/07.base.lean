/-! the words of the tables that stay, wherever a method stands -/
def ALL : List Cond := lw_tbl.filter goodWord
theorem aw {w : Cond} (i : Nat) (h : lw_tbl[i]? = some w) (g : goodWord w = true) : w ∈ ALL := List.mem_filter.mpr ⟨List.mem_of_getElem? h, g⟩
theorem all_good : GoodIn ALL ALL := fun _ h => ⟨h, good_of_word (List.mem_filter.mp h).2⟩
theorem good_cons {w : Cond} {ws : List Cond} (h : w ∈ ALL) (hw : GoodIn ALL ws) : GoodIn ALL (w :: ws) := fun x hx => by
  rcases List.mem_cons.mp hx with rfl | hx
  · exact all_good _ h
  · exact hw x hx
/-! a world's memory: numbers by cell and place -/
abbrev Mem : Type := Nat → Nat → Int32
def mr (M : Mem) (o : Nat) (f : Nat → Int32) : Mem := fun a => if a = o then f else M a
theorem mr_s (M : Mem) (o : Nat) (f : Nat → Int32) : mr M o f o = f := if_pos rfl
theorem mr_n {M : Mem} {o a : Nat} {f : Nat → Int32} (h : a ≠ o) : mr M o f a = M a := if_neg h
/-- one place of one cell -/
def mu (M : Mem) (o k : Nat) (v : Int32) : Mem := mr M o (upd (M o) k v)
/-- what a cell is: an object (its class, its fields: a cell's number or a number of the memory), numbers (kind, length), cells (kind, length, which) -/
abbrev Lay : Type := (Nat × List (Option Nat)) ⊕ ((Nat × Nat) ⊕ (Nat × Nat × (Nat → Nat)))
def fx (ad : Nat → Nat) (z : Int32) (x : Option Nat) : Value := match x with
  | some q => .ref (ad q)
  | none => .int z
def fv (ad : Nat → Nat) (r : Nat → Int32) (fs : List (Option Nat)) (k : Nat) : Value := fx ad (r k) (fs.getD k none)
def fvs (ad : Nat → Nat) (r : Nat → Int32) (fs : List (Option Nat)) : List Value := (List.range fs.length).map (fv ad r fs)
def cellOf (cA : Nat → ClassId) (ad : Nat → Nat) (L : Lay) (r : Nat → Int32) : va_E := match L with
  | .inl (ci, fs) => .inr (ci, fvs ad r fs)
  | .inr (.inl (t, n)) => .inl (cA t, n, .inl r)
  | .inr (.inr (t, n, g)) => .inl (cA t, n, .inr (.inr (.inr (.inr (fun j => some (ad (g j)))))))
def wsOf (cA : Nat → ClassId) (ad : Nat → Nat) (lay : Nat → Lay) (N : Nat) (M : Mem) : va_W := (List.range N).map (fun o => (ad o, cellOf cA ad (lay o) (M o)))
theorem wsOf_get {cA : Nat → ClassId} {ad : Nat → Nat} {lay : Nat → Lay} {N : Nat} {M : Mem} {o : Nat} (h : o < N) : (wsOf cA ad lay N M)[o]? = some (ad o, cellOf cA ad (lay o) (M o)) := by
  unfold wsOf
  rw [List.getElem?_map, List.getElem?_range h]
  rfl
theorem wsOf_set {cA : Nat → ClassId} {ad : Nat → Nat} {lay : Nat → Lay} {N : Nat} {M : Mem} {o : Nat} (f : Nat → Int32) : (wsOf cA ad lay N M).set o (ad o, cellOf cA ad (lay o) f) = wsOf cA ad lay N (mr M o f) := by
  apply List.ext_getElem?
  intro k
  rw [List.getElem?_set]
  by_cases hk : k < N
  · rw [wsOf_get hk, wsOf_get hk]
    by_cases h : o = k
    · subst h
      rw [mr_s]
      have : o < (wsOf cA ad lay N M).length := by unfold wsOf; simpa using hk
      simp [this]
    · rw [mr_n (fun q => h q.symm)]
      simp [h]
  · have h1 : ∀ M' : Mem, (wsOf cA ad lay N M')[k]? = none := fun M' => List.getElem?_eq_none (by unfold wsOf; simpa using hk)
    rw [h1, h1]
    by_cases h : o = k
    · subst h
      have : ¬ o < (wsOf cA ad lay N M).length := by unfold wsOf; simpa using hk
      simp [this]
    · simp [h]
theorem fvs_get {ad : Nat → Nat} {r : Nat → Int32} {fs : List (Option Nat)} {k : Nat} {x : Option Nat} (h : fs[k]? = some x) : (fvs ad r fs)[k]? = some (fx ad (r k) x) := by
  have hk : k < fs.length := (List.getElem?_eq_some_iff.mp h).1
  unfold fvs
  rw [List.getElem?_map, List.getElem?_range hk]
  simp [fv, h]
theorem fvs_len {ad : Nat → Nat} {r : Nat → Int32} {fs : List (Option Nat)} : (fvs ad r fs).length = fs.length := by unfold fvs; simp
theorem fvs_set {ad : Nat → Nat} {r : Nat → Int32} {fs : List (Option Nat)} {k : Nat} {v : Int32} (h : fs[k]? = some none) : (fvs ad r fs).set k (.int v) = fvs ad (upd r k v) fs := by
  apply List.ext_getElem?
  intro j
  have hk : k < fs.length := (List.getElem?_eq_some_iff.mp h).1
  rw [List.getElem?_set, fvs_len]
  by_cases hj : k = j
  · subst hj
    rw [fvs_get (ad := ad) (r := upd r k v) h]
    simp [hk, upd, fx]
  · simp only [hj, if_false]
    cases hf : fs[j]? with
    | none =>
      have hl : fs.length ≤ j := List.getElem?_eq_none_iff.mp hf
      rw [List.getElem?_eq_none (by rw [fvs_len]; exact hl), List.getElem?_eq_none (by rw [fvs_len]; exact hl)]
    | some x =>
      rw [fvs_get hf, fvs_get hf]
      cases x with
      | some q => rfl
      | none => simp [upd, Ne.symm hj, fx]
/-! the fixed things: classes, array classes, addresses, the cells that may change; static arrays; texts -/
abbrev Gt : Type := va_G × (Nat → ClassId) × (Nat → Nat) × (Nat → Prop) × (Nat × Nat) × (Nat → Nat) × (Nat → Nat)
abbrev gD (g : Gt) : va_G := g.1
abbrev gC (g : Gt) : Nat → ClassId := g.2.1
abbrev ga (g : Gt) : Nat → Nat := g.2.2.1
abbrev gF (g : Gt) : Nat → Prop := g.2.2.2.1
abbrev gT (g : Gt) : Nat × Nat := g.2.2.2.2.1
abbrev gK (g : Gt) : Nat → Nat := g.2.2.2.2.2.1
abbrev gV (g : Gt) : Nat → Nat := g.2.2.2.2.2.2
def tysOf (cA : Nat → ClassId) : List (ClassId × FieldType) := [(cA 0, .int), (cA 1, .byte), (cA 2, .boolean), (cA 3, .object "EveningPoach$Estate"), (cA 4, .object "EveningPoach$Sheet"), (cA 5, .array .int)]
def takesT : Nat → Int32 := fun j => match j with | 0 => 6 | 1 => 6 | 2 => 3 | _ => 12
def noiseT : Nat → Int32 := fun j => match j with | 0 => 3 | 1 => 1 | 2 => 5 | _ => 5
def txLen : List Nat := [3, 3, 3, 6, 6, 4]
def txByt : List (List Int32) := [[110, 101, 116], [100, 111, 103], [98, 111, 121], [115, 113, 117, 105, 114, 101], [107, 101, 101, 112, 101, 114], [103, 97, 116, 101]]
def txAt (g : Gt) (U : State) : Prop := vk_R RX5 130 "net" (gK g 0) U ∧ vk_R RX5 132 "dog" (gK g 1) U ∧ vk_R RX5 134 "boy" (gK g 2) U ∧ vk_R RX5 136 "squire" (gK g 3) U ∧ vk_R RX5 57 "keeper" (gK g 4) U ∧ vk_R RX5 62 "gate" (gK g 5) U
def StZ (g : Gt) (U : State) (H : Heap) : Prop := va_Z RX0 "TAKES_BY_KIND" "[I" (.ref (gT g).1) (gF g) U H ∧ va_T .int (gT g).1 4 (fun j => .int (takesT j)) (gF g) U H ∧ va_Z RX0 "NOISE_BY_KIND" "[I" (.ref (gT g).2) (gF g) U H ∧ va_T .int (gT g).2 4 (fun j => .int (noiseT j)) (gF g) U H
  ∧ vk_S 6 txLen txByt (gK g) (gV g) (gF g) U H ∧ va_Z "java/lang/String" "COMPACT_STRINGS" "Z" (.int 1) (gF g) U H ∧ va_Zq "jdk/internal/util/Preconditions" "SIOOBE_FORMATTER" "Ljava/util/function/BiFunction;" (gF g) U H
def Sta (g : Gt) (U : State) (H : Heap) : Prop := StZ g U H ∧ txAt g U
theorem StZ.moved {g : Gt} {u U : State} {H : Heap} (hvm : u.vm.Alike U.vm) (h : StZ g u H) : StZ g U H := by
  obtain ⟨h1, h2, h3, h4, h5, h6, h7⟩ := h
  exact ⟨h1.moved hvm, h2.moved hvm, h3.moved hvm, h4.moved hvm, h5.moved hvm, h6.moved hvm, h7.moved hvm⟩
theorem StZ.kept {g : Gt} {U : State} {H H1 : Heap} (h : StZ g U H) (hq : ∀ a : Nat, a < H.size → ¬ (gF g) a → H1[a]? = H[a]?) : StZ g U H1 := by
  obtain ⟨h1, h2, h3, h4, h5, h6, h7⟩ := h
  exact ⟨h1.kept hq, h2.kept hq, h3.kept hq, h4.kept hq, h5.kept hq, h6.kept hq, h7.kept hq⟩
theorem txAt.warm {g : Gt} {s U : State} (hW : s.WarmedH U.vm) (h : txAt g s) : txAt g U := by
  obtain ⟨h1, h2, h3, h4, h5, h6⟩ := h
  exact ⟨h1.warm hW, h2.warm hW, h3.warm hW, h4.warm hW, h5.warm hW, h6.warm hW⟩
theorem txAt.same {g : Gt} {u U : State} (hv : U.vm = u.vm) (h : txAt g u) : txAt g U := by
  obtain ⟨h1, h2, h3, h4, h5, h6⟩ := h
  exact ⟨h1.same hv, h2.same hv, h3.same hv, h4.same hv, h5.same hv, h6.same hv⟩
/-! a world, a contract -/
def Wd (g : Gt) (lay : Nat → Lay) (N : Nat) (H0 : Heap) (M : Mem) (H : Heap) (locs : List Loc) : Prop := va_P (gD g) vwCl (wsOf (gC g) (ga g) lay N M) H ∧ va_D (gF g) (wsOf (gC g) (ga g) lay N M) ∧ va_S (gF g) H0 H locs
def PreW (g : Gt) (lay : Nat → Lay) (N : Nat) (M : Mem) (U : State) : Prop := va_P (gD g) vwCl (wsOf (gC g) (ga g) lay N M) U.heap ∧ va_D (gF g) (wsOf (gC g) (ga g) lay N M) ∧ va_K (gD g) vwCl (tysOf (gC g)) U ∧ Sta g U U.heap
def PostW (g : Gt) (lay : Nat → Lay) (N : Nat) (M : Mem) (t : State) : Prop := va_P (gD g) vwCl (wsOf (gC g) (ga g) lay N M) t.heap ∧ va_D (gF g) (wsOf (gC g) (ga g) lay N M)
abbrev rmOf (f L : Nat) : Room := { frames := f, cells := 0, slots := 0, locals := L }
/-- what holds in a method's body: the machine, the code, where it stands, the tables -/
def Cx (p : Program) (s : State) (m : MethodId) (args : Array Value) (c : Code) (cc : ByteArray) (nL : Nat) (own : String) (g : Gt) : Prop := CallFix p m c cc nL s args ALL own ∧ va_K (gD g) vwCl (tysOf (gC g)) s ∧ Sta g s s.heap
abbrev wsY (y : MethodName) (cc : ByteArray) (nL : Nat) (rt : Option FieldType) : List Cond := .code y cc nL rt :: ALL
/-- contracts: an int (a boolean) is answered, a long, nothing, a text -/
def MI (l : Launch) (y : MethodName) (cc : ByteArray) (nL : Nat) (rt : Option FieldType) (f L : Nat) (g : Gt) (lay : Nat → Lay) (N : Nat) (av : List Value) (M : Mem) (Q : Int32 → Mem → Prop) : Prop :=
  Met l y (wsY y cc nL rt) (rmOf f L) (va_Pc av (PreW g lay N M)) (va_Qi Q (PostW g lay N) (gF g)) 0 0 (gF g)
def ML (l : Launch) (y : MethodName) (cc : ByteArray) (nL : Nat) (rt : Option FieldType) (f L : Nat) (g : Gt) (lay : Nat → Lay) (N : Nat) (av : List Value) (M : Mem) (Q : Int64 → Mem → Prop) : Prop :=
  Met l y (wsY y cc nL rt) (rmOf f L) (va_Pc av (PreW g lay N M)) (va_Ql Q (PostW g lay N) (gF g)) 0 0 (gF g)
def MV (l : Launch) (y : MethodName) (cc : ByteArray) (nL : Nat) (rt : Option FieldType) (f L : Nat) (g : Gt) (lay : Nat → Lay) (N : Nat) (av : List Value) (M : Mem) (Q : Mem → Prop) : Prop :=
  Met l y (wsY y cc nL rt) (rmOf f L) (va_Pc av (PreW g lay N M)) (va_Qv Q (PostW g lay N) (gF g)) 0 0 (gF g)
def MT (l : Launch) (y : MethodName) (cc : ByteArray) (nL : Nat) (rt : Option FieldType) (f L : Nat) (g : Gt) (lay : Nat → Lay) (N : Nat) (av : List Value) (M : Mem) (Q : Nat → Mem → Prop) : Prop :=
  Met l y (wsY y cc nL rt) (rmOf f L) (va_Pc av (PreW g lay N M)) (va_Qr (fun u : Nat × Mem => Q u.1 u.2) (fun u a t => a = gK g u.1 ∧ PostW g lay N u.2 t) (gF g)) 0 0 (gF g)
theorem PreW.blind {g : Gt} {lay : Nat → Lay} {N : Nat} {M : Mem} {av : List Value} : FrameBlind (va_Pc av (PreW g lay N M)) := by
  intro a U f mk h
  obtain ⟨h0, h1, h2, h3, h4, h5⟩ := h
  exact ⟨h0, h1, h2, va_K.moved (u := U) (U := U.calling f mk a) (Vm.Alike.refl U.vm) h3, h4.moved (u := U) (U := U.calling f mk a) (Vm.Alike.refl U.vm), h5.same (u := U) (U := U.calling f mk a) rfl⟩
section BX
variable {p : Program} {l : Launch} {e : Env} {R : Room} {s : State} {m : MethodId} {args : Array Value} {below : List Frame} {meth : Method} {c : Code} {H : Heap} {locs : List Loc} {cells slots : Nat} {Qs : State → Prop}
variable {cc : ByteArray} {pc nL : Nat} {ls : Array Slot} {rest : List Value} {own : String} {g : Gt} {lay : Nat → Lay} {N : Nat} {M : Mem} {H0 : Heap}
theorem PreW.of {av : List Value} (C : Cx p s m args c cc nL own g) (w : Wd g lay N s.heap M H locs) {U : State} (hU : U.heap = H) (hW : s.WarmedH U.vm) : va_Pc av (PreW g lay N M) av.toArray U :=
  ⟨rfl, by rw [hU]; exact w.1, w.2.1, va_K.moved hW.alike C.2.1, by
    rw [hU]
    exact (C.2.2.1.kept (fun a h1 h2 => w.2.2.2.1 a h1 h2)).moved hW.alike, C.2.2.2.warm hW⟩
/-- a class of the worlds, in the tables -/
def KC (ci : Nat) (Cn : String) (T : u_T) (n : Nat) (ty : Nat → FieldType) : Prop := (∀ w ∈ u_ws Cn T n, w ∈ ALL) ∧ vwCl[ci]? = some (Cn, T, n) ∧ (∀ k, k < n → parseFieldDescriptor (T k).2.2.1 = some (ty k)) ∧ (∀ a, a < n → ∀ b, b < n → a ≠ b → (T a).2.1 ≠ (T b).2.1)
theorem q_geti (C : Cx p s m args c cc nL own g) (w : Wd g lay N H0 M H locs) {o ci index n : Nat} {fs : List (Option Nat)} {Cn : String} {T : u_T} {ty : Nat → FieldType} (K : KC ci Cn T n ty) (ho : o < N) (hl : lay o = .inl (ci, fs)) (k : Nat) (hf : fs[k]? = some none) (hk : k < n) (hlink : Cond.fieldLink own index (T k).1 (T k).2.1 (T k).2.2.1 ∈ ALL) (hdg : decode cc pc = .ok (.getfield index, 3))
    (kk : W p l e R s m args below meth c H locs cells slots Qs (F0 m (pc + 3) ls (.int (M o k) :: rest))) : W p l e R s m args below meth c H locs cells slots Qs (F0 m pc ls (.ref (ga g o) :: rest)) := by
  obtain ⟨⟨hx, hb, hml, hown, hts⟩, hK, -⟩ := C
  have he := wsOf_get (cA := gC g) (ad := ga g) (lay := lay) (M := M) ho
  rw [hl] at he
  exact va_get (D := gD g) (ci := ci) (C := Cn) (T := T) (N := n) hx hb hts K.1 hown hK w.1 o he K.2.1 k hk (hts _ hlink) (fun _ h => h) (fvs_get hf) hdg kk
theorem q_getr (C : Cx p s m args c cc nL own g) (w : Wd g lay N H0 M H locs) {o ci index n : Nat} {fs : List (Option Nat)} {Cn : String} {T : u_T} {ty : Nat → FieldType} (K : KC ci Cn T n ty) (ho : o < N) (hl : lay o = .inl (ci, fs)) (k : Nat) {x : Nat} (hf : fs[k]? = some (some x)) (hk : k < n) (hlink : Cond.fieldLink own index (T k).1 (T k).2.1 (T k).2.2.1 ∈ ALL) (hdg : decode cc pc = .ok (.getfield index, 3))
    (kk : W p l e R s m args below meth c H locs cells slots Qs (F0 m (pc + 3) ls (.ref (ga g x) :: rest))) : W p l e R s m args below meth c H locs cells slots Qs (F0 m pc ls (.ref (ga g o) :: rest)) := by
  obtain ⟨⟨hx, hb, hml, hown, hts⟩, hK, -⟩ := C
  have he := wsOf_get (cA := gC g) (ad := ga g) (lay := lay) (M := M) ho
  rw [hl] at he
  exact va_get (D := gD g) (ci := ci) (C := Cn) (T := T) (N := n) hx hb hts K.1 hown hK w.1 o he K.2.1 k hk (hts _ hlink) (fun _ h => h) (fvs_get hf) hdg kk
theorem q_put (C : Cx p s m args c cc nL own g) (w : Wd g lay N H0 M H locs) {o ci index n : Nat} {fs : List (Option Nat)} {Cn : String} {T : u_T} {ty : Nat → FieldType} (K : KC ci Cn T n ty) (ho : o < N) (hl : lay o = .inl (ci, fs)) (k : Nat) (hf : fs[k]? = some none) (hk : k < n) (hlink : Cond.fieldLink own index (T k).1 (T k).2.1 (T k).2.2.1 ∈ ALL) (hfin : (T k).2.2.2 = false) (hty : parseFieldDescriptor (T k).2.2.1 = some .int) (hdg : decode cc pc = .ok (.putfield index, 3)) {v : Int32}
    (kk : ∀ (M1 : Mem) (H1 : Heap) (locs1 : List Loc), M1 = mu M o k v → Wd g lay N H0 M1 H1 locs1 → W p l e R s m args below meth c H1 locs1 cells slots Qs (F0 m (pc + 3) ls rest)) : W p l e R s m args below meth c H locs cells slots Qs (F0 m pc ls (.int v :: .ref (ga g o) :: rest)) := by
  obtain ⟨⟨hx, hb, hml, hown, hts⟩, hK, -⟩ := C
  have he := wsOf_get (cA := gC g) (ad := ga g) (lay := lay) (M := M) ho
  rw [hl] at he
  refine va_put (D := gD g) (ci := ci) (C := Cn) (T := T) (N := n) hx hb hts K.1 ty K.2.2.1 K.2.2.2 hown hK w.1 w.2.1 w.2.2 o he K.2.1 k hk (hts _ hlink) (fun _ h => h) hfin hty rfl rfl (by rw [fvs_len]; exact (List.getElem?_eq_some_iff.mp hf).1) hdg (fun H1 locs1 hP hD hS => kk _ H1 locs1 rfl ?_)
  have e : (ga g o, (.inr (ci, (fvs (ga g) (M o) fs).set k (.int v)) : va_E)) = (ga g o, cellOf (gC g) (ga g) (lay o) (upd (M o) k v)) := by
    rw [hl, fvs_set hf]
    rfl
  rw [e, wsOf_set] at hP hD
  exact ⟨hP, hD, hS⟩
theorem q_ial (C : Cx p s m args c cc nL own g) (w : Wd g lay N H0 M H locs) {o n : Nat} {i : Int32} (ho : o < N) (hl : lay o = .inr (.inl (0, n))) (hin : vp_in i n) (hdg : decode cc pc = .ok (.iaload, 1))
    (kk : W p l e R s m args below meth c H locs cells slots Qs (F0 m (pc + 1) ls (.int (M o i.toNatClampNeg) :: rest))) : W p l e R s m args below meth c H locs cells slots Qs (F0 m pc ls (.int i :: .ref (ga g o) :: rest)) := by
  have he := wsOf_get (cA := gC g) (ad := ga g) (lay := lay) (M := M) ho
  rw [hl] at he
  exact va_iald C.1.1 C.1.2.1 C.2.1 w.1 o 0 he rfl hin hdg kk
theorem q_bal (C : Cx p s m args c cc nL own g) (w : Wd g lay N H0 M H locs) {o n : Nat} {i : Int32} (ho : o < N) (hl : lay o = .inr (.inl (1, n))) (hin : vp_in i n) (hdg : decode cc pc = .ok (.baload, 1))
    (kk : W p l e R s m args below meth c H locs cells slots Qs (F0 m (pc + 1) ls (.int (M o i.toNatClampNeg) :: rest))) : W p l e R s m args below meth c H locs cells slots Qs (F0 m pc ls (.int i :: .ref (ga g o) :: rest)) := by
  have he := wsOf_get (cA := gC g) (ad := ga g) (lay := lay) (M := M) ho
  rw [hl] at he
  exact va_bald C.1.1 C.1.2.1 C.2.1 w.1 o 1 he rfl hin hdg kk
theorem q_zal (C : Cx p s m args c cc nL own g) (w : Wd g lay N H0 M H locs) {o n : Nat} {i : Int32} (ho : o < N) (hl : lay o = .inr (.inl (2, n))) (hin : vp_in i n) (hdg : decode cc pc = .ok (.baload, 1))
    (kk : W p l e R s m args below meth c H locs cells slots Qs (F0 m (pc + 1) ls (.int (M o i.toNatClampNeg) :: rest))) : W p l e R s m args below meth c H locs cells slots Qs (F0 m pc ls (.int i :: .ref (ga g o) :: rest)) := by
  have he := wsOf_get (cA := gC g) (ad := ga g) (lay := lay) (M := M) ho
  rw [hl] at he
  exact va_zald C.1.1 C.1.2.1 C.2.1 w.1 o 2 he rfl hin hdg kk
theorem q_ias (C : Cx p s m args c cc nL own g) (w : Wd g lay N H0 M H locs) {o n : Nat} {i v : Int32} (ho : o < N) (hl : lay o = .inr (.inl (0, n))) (hin : vp_in i n) (hdg : decode cc pc = .ok (.iastore, 1))
    (kk : ∀ (M1 : Mem) (H1 : Heap) (locs1 : List Loc), M1 = mu M o i.toNatClampNeg v → Wd g lay N H0 M1 H1 locs1 → W p l e R s m args below meth c H1 locs1 cells slots Qs (F0 m (pc + 1) ls rest)) : W p l e R s m args below meth c H locs cells slots Qs (F0 m pc ls (.int v :: .int i :: .ref (ga g o) :: rest)) := by
  have he := wsOf_get (cA := gC g) (ad := ga g) (lay := lay) (M := M) ho
  rw [hl] at he
  refine va_iast C.1.1 C.1.2.1 C.2.1 w.1 w.2.1 w.2.2 o 0 he rfl hin hdg (fun H1 locs1 hP hD hS => kk _ H1 locs1 rfl ?_)
  have e : (ga g o, (.inl (gC g 0, n, .inl (upd (M o) i.toNatClampNeg v)) : va_E)) = (ga g o, cellOf (gC g) (ga g) (lay o) (upd (M o) i.toNatClampNeg v)) := by
    rw [hl]
    rfl
  rw [e, wsOf_set] at hP hD
  exact ⟨hP, hD, hS⟩
theorem q_bas (C : Cx p s m args c cc nL own g) (w : Wd g lay N H0 M H locs) {o n : Nat} {i v : Int32} (ho : o < N) (hl : lay o = .inr (.inl (1, n))) (hin : vp_in i n) (hdg : decode cc pc = .ok (.bastore, 1))
    (kk : ∀ (M1 : Mem) (H1 : Heap) (locs1 : List Loc), M1 = mu M o i.toNatClampNeg (vp_nar .byte v) → Wd g lay N H0 M1 H1 locs1 → W p l e R s m args below meth c H1 locs1 cells slots Qs (F0 m (pc + 1) ls rest)) : W p l e R s m args below meth c H locs cells slots Qs (F0 m pc ls (.int v :: .int i :: .ref (ga g o) :: rest)) := by
  have he := wsOf_get (cA := gC g) (ad := ga g) (lay := lay) (M := M) ho
  rw [hl] at he
  refine va_bast C.1.1 C.1.2.1 C.2.1 w.1 w.2.1 w.2.2 o 1 he rfl hin hdg (fun H1 locs1 hP hD hS => kk _ H1 locs1 rfl ?_)
  have e : (ga g o, (.inl (gC g 1, n, .inl (upd (M o) i.toNatClampNeg (vp_nar .byte v))) : va_E)) = (ga g o, cellOf (gC g) (ga g) (lay o) (upd (M o) i.toNatClampNeg (vp_nar .byte v))) := by
    rw [hl]
    rfl
  rw [e, wsOf_set] at hP hD
  exact ⟨hP, hD, hS⟩
theorem q_zas (C : Cx p s m args c cc nL own g) (w : Wd g lay N H0 M H locs) {o n : Nat} {i v : Int32} (ho : o < N) (hl : lay o = .inr (.inl (2, n))) (hin : vp_in i n) (hdg : decode cc pc = .ok (.bastore, 1))
    (kk : ∀ (M1 : Mem) (H1 : Heap) (locs1 : List Loc), M1 = mu M o i.toNatClampNeg (vp_nar .boolean v) → Wd g lay N H0 M1 H1 locs1 → W p l e R s m args below meth c H1 locs1 cells slots Qs (F0 m (pc + 1) ls rest)) : W p l e R s m args below meth c H locs cells slots Qs (F0 m pc ls (.int v :: .int i :: .ref (ga g o) :: rest)) := by
  have he := wsOf_get (cA := gC g) (ad := ga g) (lay := lay) (M := M) ho
  rw [hl] at he
  refine va_zast C.1.1 C.1.2.1 C.2.1 w.1 w.2.1 w.2.2 o 2 he rfl hin hdg (fun H1 locs1 hP hD hS => kk _ H1 locs1 rfl ?_)
  have e : (ga g o, (.inl (gC g 2, n, .inl (upd (M o) i.toNatClampNeg (vp_nar .boolean v))) : va_E)) = (ga g o, cellOf (gC g) (ga g) (lay o) (upd (M o) i.toNatClampNeg (vp_nar .boolean v))) := by
    rw [hl]
    rfl
  rw [e, wsOf_set] at hP hD
  exact ⟨hP, hD, hS⟩
theorem q_alen (C : Cx p s m args c cc nL own g) (w : Wd g lay N H0 M H locs) {o n t : Nat} (ho : o < N) (hl : lay o = .inr (.inl (t, n))) (ht : t < 3) (hdg : decode cc pc = .ok (.arraylength, 1))
    (kk : W p l e R s m args below meth c H locs cells slots Qs (F0 m (pc + 1) ls (.int (nI n) :: rest))) : W p l e R s m args below meth c H locs cells slots Qs (F0 m pc ls (.ref (ga g o) :: rest)) := by
  have he := wsOf_get (cA := gC g) (ad := ga g) (lay := lay) (M := M) ho
  rw [hl] at he
  rcases (show t = 0 ∨ t = 1 ∨ t = 2 by omega) with rfl | rfl | rfl
  · exact va_alen C.1.1 C.1.2.1 C.2.1 w.1 o 0 he rfl rfl hdg kk
  · exact va_alen C.1.1 C.1.2.1 C.2.1 w.1 o 1 he rfl rfl hdg kk
  · exact va_alen C.1.1 C.1.2.1 C.2.1 w.1 o 2 he rfl rfl hdg kk
theorem q_aal (C : Cx p s m args c cc nL own g) (w : Wd g lay N H0 M H locs) {o n t : Nat} {r : Nat → Nat} {i : Int32} (ho : o < N) (hl : lay o = .inr (.inr (t, n, r))) (ht : t = 3 ∨ t = 4 ∨ t = 5) (hin : vp_in i n) (hdg : decode cc pc = .ok (.aaload, 1))
    (kk : W p l e R s m args below meth c H locs cells slots Qs (F0 m (pc + 1) ls (.ref (ga g (r i.toNatClampNeg)) :: rest))) : W p l e R s m args below meth c H locs cells slots Qs (F0 m pc ls (.int i :: .ref (ga g o) :: rest)) := by
  have he := wsOf_get (cA := gC g) (ad := ga g) (lay := lay) (M := M) ho
  rw [hl] at he
  have hlt : i.toNatClampNeg < n := Nat.not_le.mp fun q => hin (Or.inr q)
  rcases ht with rfl | rfl | rfl
  · exact va_aldq C.1.1 C.1.2.1 C.2.1 w.1 o 3 he rfl hin hdg kk
  · exact va_aldq C.1.1 C.1.2.1 C.2.1 w.1 o 4 he rfl hin hdg kk
  · exact W.aald (v := .ref (ga g (r i.toNatClampNeg))) (ty := .array .int) C.1.1 C.1.2.1 (w.1 o _ he) ((C.2.1.2 5 _ rfl).1 n (fun j => va_rf (some (ga g (r j))))) rfl (fun q => by cases q) (by show ¬ (i < 0 ∨ (arrV _ _ _).slots.size ≤ _); rw [arrV_size]; exact hin) (by show (arrV _ _ _).slots[_]? = _; rw [arrV_read _ _ hlt]; rfl) rfl rfl hdg kk
end BX
