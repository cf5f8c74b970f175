def va_AOA (t : FieldType) (U : State) : Prop := (Cond.arrayOver (.array t)).before #[] U = true
theorem va_AOA.of {t : FieldType} {A : Array Value} {U : State} (h : (Cond.arrayOver (.array t)).before A U = true) : va_AOA t U := h
theorem va_AOA.use {t : FieldType} {A : Array Value} {U : State} (h : va_AOA t U) : (Cond.arrayOver (.array t)).before A U = true := h
/-! ===== BEGIN new T[n][m]: the outer array a place, the inner ones among the pooled ===== -/
/-- f, but v at every address of l -/
def vr_up {α : Type} (f : Nat → α) (l : List Nat) (v : α) : Nat → α := fun a => if a ∈ l then v else f a
theorem vr_up_in {α : Type} {f : Nat → α} {l : List Nat} {v : α} {a : Nat} (h : a ∈ l) : vr_up f l v a = v := if_pos h
theorem vr_up_ne {α : Type} {f : Nat → α} {l : List Nat} {v : α} {a : Nat} (h : a ∉ l) : vr_up f l v a = f a := if_neg h
theorem vr_rows {L l : List Nat} {f : Nat → va_E} {e : va_E} (h : ∀ a, a ∈ l → a ∉ L) : va_pl L f ++ l.map (fun a => (a, e)) = va_pl (L ++ l) (vr_up f l e) := by
  unfold va_pl
  rw [List.map_append]
  congr 1
  · apply List.map_congr_left
    intro a ha
    rw [vr_up_ne (fun q => h a q ha)]
  · apply List.map_congr_left
    intro a ha
    rw [vr_up_in ha]
theorem vr_lay {X rows : va_W} {x : Nat × va_E} {pl : va_W} {D : va_G} {cl : List vw_C} {H : Heap} (hP : va_P D cl (((X ++ pl) ++ [x]) ++ rows) H) : va_P D cl ((X ++ [x]) ++ (pl ++ rows)) H := by
  rw [List.append_assoc (X ++ pl)] at hP
  have h := va_P.swap hP
  rw [← List.append_assoc X] at h
  have h2 := va_P.swap h
  rw [List.append_assoc (X ++ [x])] at h2
  exact h2
theorem vr_layD {X rows : va_W} {x : Nat × va_E} {pl : va_W} {A : Nat → Prop} (hD : va_D A (((X ++ pl) ++ [x]) ++ rows)) : va_D A ((X ++ [x]) ++ (pl ++ rows)) := by
  rw [List.append_assoc (X ++ pl)] at hD
  have h := va_D.swap hD
  rw [← List.append_assoc X] at h
  have h2 := va_D.swap h
  rw [List.append_assoc (X ++ [x])] at h2
  exact h2
theorem vr_outer (c : ClassId) (N h0 : Nat) : ∀ i : Nat, Jvm.Free.Multi.outerC c N h0 i = arrV c N (fun j => va_rf (if j < i then some (h0 + 1 + j) else none))
  | 0 => by
    show ({ cls := c, slots := Array.replicate N .null, vm := .none } : Cell) = _
    rw [arrV_new]
    refine congrArg (arrV c N) (funext fun j => ?_)
    simp [va_rf]
  | i + 1 => by
    show (Jvm.Free.Multi.outerC c N h0 i).setSlot i (.ref (h0 + 1 + i)) = _
    rw [vr_outer c N h0 i, arrV_store]
    refine congrArg (arrV c N) (funext fun j => ?_)
    by_cases e : j = i
    · subst e
      simp [updV, va_rf]
    · by_cases h : j < i
      · simp [updV, e, h, Nat.lt_succ_of_lt h]
      · simp [updV, e, h, show ¬ j < i + 1 by omega]
section VGM
variable {p : Program} {l : Launch} {e : Env} {R : Room} {s : State} {m : MethodId} {args : Array Value} {below : List Frame} {meth : Method} {c : Code} {H : Heap} {locs : List Loc} {cells slots : Nat} {Q : State → Prop}
variable {cc : ByteArray} {pc : Nat} {ls : Array Slot} {rest : List Value} {D : va_G} {cl : List vw_C} {A : Nat → Prop} {a : Nat} {tys : List (ClassId × FieldType)} {ws : va_W} {H0 : Heap}
theorem va_mna {X : va_W} {L : List Nat} {f : Nat → va_E} {cc : ByteArray} (hexec : p.tables.exec = Jvm.exec) (hb : c.code = cc) {own : String} {index : Nat} {ty : FieldType} {cy : ClassId} (hown : s.vm.findClass own = some m.cls) (hclink : (Cond.classLink own index ("[" ++ (FieldType.array ty).toString)).before args s = true) (hover : va_AOA ty s) (harr : (Cond.arrayClass ty).before args s = true) (hcy : s.vm.findClass (FieldType.array ty).toString = some cy)
    (hK : va_K D cl tys s) (hP : va_P D cl (X ++ va_pl L f) H) (hD : va_D A (X ++ va_pl L f)) (hS : va_S A H0 H locs) (hA : ∀ q, H0.size ≤ q → A q) {n k : Int32} {N' K' : Nat} {z : vp_A} (hn : ¬ n < 0) (hk : ¬ k < 0) (hN : n.toNatClampNeg = N') (hM : k.toNatClampNeg = K')
    (hb1 : N' * 4 ≤ 536870912) (hb2 : K' * componentBytes ty ≤ 536870912) (hb3 : K' ≤ 536870912) (hdf : fits ty (defaultValue ty) = true) (hdd : (defaultValue ty).isDefault = true) (hcells : cells + (1 + N') ≤ R.cells) (hslots : slots + (N' + N' * K') ≤ R.slots) (hz : ∀ c : ClassId, Jvm.Free.Multi.innerC c K' (defaultValue ty) = vp_cell c z) (hdg : decode cc pc = .ok (.multianewarray index 2, 4))
    (kk : ∀ (q : Nat) (r : Nat → Nat) (cA : ClassId) (H1 : Heap), (∀ i j : Nat, i < N' → j < N' → r i = r j → i = j) → (∀ i : Nat, i < N' → r i ∉ L) → va_K D cl (tys ++ [(cA, .array ty)]) s →
      va_P D cl ((X ++ [(q, .inl (cA, N', .inr (.inr (.inr (.inr (fun i => if i < N' then some (r i) else none))))))]) ++ va_pl (L ++ (List.range N').map r) (vr_up f ((List.range N').map r) (.inl (cy, z)))) H1 → va_D A ((X ++ [(q, .inl (cA, N', .inr (.inr (.inr (.inr (fun i => if i < N' then some (r i) else none))))))]) ++ va_pl (L ++ (List.range N').map r) (vr_up f ((List.range N').map r) (.inl (cy, z)))) → va_S A H0 H1 locs →
      W p l e R s m args below meth c H1 locs (cells + 1 + N') (slots + N' + N' * K') Q (F0 m (pc + 4) ls (.ref q :: rest))) : W p l e R s m args below meth c H locs cells slots Q (F0 m pc ls (.int k :: .int n :: rest)) := by
  subst hN
  subst hM
  intro T hT Xs
  obtain ⟨vm₁, cA, comp, -, fA, fC, hO, -, X', step⟩ := Xs.multianewarray2F hexec hown hclink (va_AOA.use hover) harr (g := F0 m pc ls (.int k :: .int n :: rest)) rfl (by rw [hb]; exact hdg) rfl hn hk hb1 hb2 hb3 hdf hdd hcells hslots
  have ec : some cy = some comp := hcy.symm.trans fC
  cases ec
  generalize hF : Jvm.Free.Multi.fill (T.setVm vm₁) cA cy n.toNatClampNeg k.toNatClampNeg (defaultValue ty) n.toNatClampNeg = F at X' step
  have hTh : (T.setVm vm₁).heap = H := hT
  obtain ⟨f1, f2, -, -⟩ := Jvm.Free.Multi.fill_facts (T.setVm vm₁) cA cy n.toNatClampNeg k.toNatClampNeg (defaultValue ty) n.toNatClampNeg
  rw [hF, hTh] at f1 f2
  have hold : ∀ x : Nat, x < H.size → F.heap[x]? = H[x]? := fun x hx => by
    have := Jvm.Free.Multi.fill_old (T.setVm vm₁) cA cy n.toNatClampNeg k.toNatClampNeg (defaultValue ty) (a := x) (by rw [hTh]; exact hx) n.toNatClampNeg
    rw [hF, hTh] at this
    exact this
  have hrow : ∀ j : Nat, j < n.toNatClampNeg → F.heap[H.size + 1 + j]? = some (vp_cell cy z) := fun j hj => by
    have := Jvm.Free.Multi.fill_inner (T.setVm vm₁) cA cy n.toNatClampNeg k.toNatClampNeg (defaultValue ty) n.toNatClampNeg j hj
    rw [hF, hTh, hz] at this
    exact this
  have hout : Jvm.Free.Multi.outerC cA n.toNatClampNeg H.size n.toNatClampNeg = vp_cell cA (n.toNatClampNeg, .inr (.inr (.inr (.inr (fun i => if i < n.toNatClampNeg then some (H.size + 1 + i) else none))))) := by
    rw [vp_cell_q]
    exact vr_outer cA n.toNatClampNeg H.size n.toNatClampNeg
  rw [hout] at f2
  have hlt : ∀ a, a ∈ L → a < H.size := fun a ha => by
    obtain ⟨k9, hk9⟩ := va_pl_get (X := X) (f := f) ha
    exact (hP k9 _ hk9).lt
  have hnl : ∀ i : Nat, i < n.toNatClampNeg → H.size + 1 + i ∉ L := fun i _ h => by
    have := hlt _ h
    omega
  have hnm : ∀ a, a ∈ (List.range n.toNatClampNeg).map (fun i => H.size + 1 + i) → a ∉ L := fun a ha h => by
    obtain ⟨i, -, rfl⟩ := List.mem_map.mp ha
    have := hlt _ h
    omega
  have hP0 : va_P D cl (X ++ va_pl L f) F.heap := hP.kept (fun k9 x hx => hold x.1 ((hP k9 x hx).lt))
  have hP1 : va_P D cl ((X ++ va_pl L f) ++ [(H.size, .inl (cA, n.toNatClampNeg, .inr (.inr (.inr (.inr (fun i => if i < n.toNatClampNeg then some (H.size + 1 + i) else none))))))]) F.heap := hP0.app (fun k9 x hx => by
    have h0 : k9 < 1 := (List.getElem?_eq_some_iff.mp hx).1
    rw [show k9 = 0 by omega] at hx
    cases hx
    exact f2)
  have hP2 : va_P D cl (((X ++ va_pl L f) ++ [(H.size, .inl (cA, n.toNatClampNeg, .inr (.inr (.inr (.inr (fun i => if i < n.toNatClampNeg then some (H.size + 1 + i) else none))))))]) ++ ((List.range n.toNatClampNeg).map (fun i => H.size + 1 + i)).map (fun a => (a, .inl (cy, z)))) F.heap := hP1.app (fun k9 x hx => by
    obtain ⟨a, ha, rfl⟩ := List.mem_map.mp (List.mem_of_getElem? hx)
    obtain ⟨i, hi, rfl⟩ := List.mem_map.mp ha
    exact hrow i (List.mem_range.mp hi))
  have hD2 : va_D A (((X ++ va_pl L f) ++ [(H.size, .inl (cA, n.toNatClampNeg, .inr (.inr (.inr (.inr (fun i => if i < n.toNatClampNeg then some (H.size + 1 + i) else none))))))]) ++ ((List.range n.toNatClampNeg).map (fun i => H.size + 1 + i)).map (fun a => (a, .inl (cy, z)))) := by
    have hD1 := hD.push (e := .inl (cA, n.toNatClampNeg, .inr (.inr (.inr (.inr (fun i => if i < n.toNatClampNeg then some (H.size + 1 + i) else none)))))) hP rfl (hA _ hS.1)
    generalize hW1 : (X ++ va_pl L f) ++ [(H.size, .inl (cA, n.toNatClampNeg, .inr (.inr (.inr (.inr (fun i => if i < n.toNatClampNeg then some (H.size + 1 + i) else none))))))] = W1 at hD1 hP1 ⊢
    have hle : ∀ (k9 : Nat) (x : Nat × va_E), W1[k9]? = some x → x.1 ≤ H.size := fun k9 x hx => by
      rw [← hW1] at hx
      by_cases hl : k9 < (X ++ va_pl L f).length
      · rw [List.getElem?_append_left hl] at hx
        exact Nat.le_of_lt ((hP k9 x hx).lt)
      · rw [List.getElem?_append_right (by omega)] at hx
        have h0 : k9 - (X ++ va_pl L f).length < 1 := (List.getElem?_eq_some_iff.mp hx).1
        rw [show k9 - (X ++ va_pl L f).length = 0 by omega] at hx
        cases hx
        exact Nat.le_refl _
    have hr : ∀ (k9 : Nat) (x : Nat × va_E), (((List.range n.toNatClampNeg).map (fun i => H.size + 1 + i)).map (fun a => ((a, .inl (cy, z)) : Nat × va_E)))[k9]? = some x → x.1 = H.size + 1 + k9 := fun k9 x hx => by
      rw [List.getElem?_map, List.getElem?_map] at hx
      by_cases h9 : k9 < n.toNatClampNeg
      · rw [List.getElem?_range h9] at hx
        cases hx
        rfl
      · have hn0 : (List.range n.toNatClampNeg)[k9]? = none := List.getElem?_eq_none (by rw [List.length_range]; omega)
        rw [hn0] at hx
        cases hx
    refine ⟨fun i j x y hi hj hxy => ?_, fun k9 x hx => ?_⟩
    · by_cases h1 : i < W1.length <;> by_cases h2 : j < W1.length
      · rw [List.getElem?_append_left h1] at hi
        rw [List.getElem?_append_left h2] at hj
        exact hD1.1 i j x y hi hj hxy
      · rw [List.getElem?_append_left h1] at hi
        rw [List.getElem?_append_right (by omega)] at hj
        have := hle _ _ hi
        have := hr _ _ hj
        omega
      · rw [List.getElem?_append_right (by omega)] at hi
        rw [List.getElem?_append_left h2] at hj
        have := hle _ _ hj
        have := hr _ _ hi
        omega
      · rw [List.getElem?_append_right (by omega)] at hi hj
        have := hr _ _ hi
        have := hr _ _ hj
        omega
    · by_cases h1 : k9 < W1.length
      · rw [List.getElem?_append_left h1] at hx
        exact hD1.2 k9 x hx
      · rw [List.getElem?_append_right (by omega)] at hx
        have := hr _ _ hx
        exact hA _ (by have := hS.1; omega)
  have hAr : ArrOfT s cA (.array ty) := fun N9 z9 => by
    obtain ⟨-, k9, hk9, cm9, hkk9⟩ := (hO 0 0 0).1
    exact ⟨(fun q hq => by cases hq), k9, hk9, cm9, hkk9⟩
  have hK2 : va_K D cl (tys ++ [(cA, .array ty)]) s := ⟨hK.1, fun k9 x hx => by
    by_cases hl : k9 < tys.length
    · rw [List.getElem?_append_left hl] at hx
      exact hK.2 k9 x hx
    · rw [List.getElem?_append_right (by omega)] at hx
      have h0 : k9 - tys.length < 1 := (List.getElem?_eq_some_iff.mp hx).1
      rw [show k9 - tys.length = 0 by omega] at hx
      cases hx
      exact ⟨hAr, fA⟩⟩
  obtain ⟨t, a1, b1⟩ := kk H.size (fun i => H.size + 1 + i) cA F.heap (fun i j _ _ h => by have h9 : H.size + 1 + i = H.size + 1 + j := h; omega) hnl hK2 (by rw [← vr_rows hnm]; exact vr_lay hP2) (by rw [← vr_rows hnm]; exact vr_layD hD2) ⟨by rw [f1]; have := hS.1; omega, fun x h1 h2 => (hold x (Nat.lt_of_lt_of_le h1 hS.1)).trans (hS.2.1 x h1 h2), hS.2.2⟩ F rfl X'
  refine ⟨t, step t ?_, b1⟩
  have e : T.heap.size = H.size := by rw [hT]
  rw [e]
  exact a1
end VGM
/-! ===== END ===== -/
/-! constructors: worlds that grow -/
def gw (g : Gt) (A : Nat → Prop) : Gt := (g.1, g.2.1, g.2.2.1, A, g.2.2.2.2)
def Bd (g : Gt) (H0 : Heap) (ws : va_W) (H : Heap) (locs : List Loc) : Prop := va_P (gD g) vwCl ws H ∧ va_D (gF g) ws ∧ va_S (gF g) H0 H locs
abbrev rmC (f mc ms L : Nat) : Room := { frames := f, cells := mc, slots := ms, locals := L }
def CPre (g : Gt) (Ex : State → Prop) (h0 : Nat) (e0 : va_E) (sz : Nat) (U : State) : Prop := U.heap.size = sz ∧ va_P (gD g) vwCl [(h0, e0)] U.heap ∧ va_D (fun _ => True) [(h0, e0)] ∧ va_K (gD g) vwCl (tysOf (gC g)) U ∧ Sta (gw g (va_A [(h0, e0)] sz)) U U.heap ∧ Ex U
def CPost (g : Gt) {S : Type} (post : S → Prop) (cs : S → va_W) (A : Nat → Prop) : Array Value → State → Outcome → State → Prop := va_Qv post (fun u t => va_P (gD g) vwCl (cs u) t.heap ∧ va_D A (cs u)) A
def Ctor (l : Launch) (y : MethodName) (cc : ByteArray) (nL f mc ms L : Nat) (g : Gt) (Ex : State → Prop) (h0 : Nat) (e0 : va_E) (As : List Value) (sz : Nat) {S : Type} (post : S → Prop) (cs : S → va_W) : Prop :=
  Met l y (wsY y cc nL none) (rmC f mc ms L) (va_Pc (.ref h0 :: As) (CPre g Ex h0 e0 sz)) (CPost g post cs (va_A [(h0, e0)] sz)) mc ms (va_A [(h0, e0)] sz)
def ExB (Ex : State → Prop) : Prop := ∀ (a : Array Value) (U : State) (f : JFrame) (mk : MethodId), Ex U → Ex (U.calling f mk a)
theorem ExB_t : ExB (fun _ => True) := fun _ _ _ _ _ => trivial
theorem CPre.blind {g : Gt} {Ex : State → Prop} (hE : ExB Ex) {h0 sz : Nat} {e0 : va_E} {av : List Value} : FrameBlind (va_Pc av (CPre g Ex h0 e0 sz)) := by
  intro a U f mk h
  obtain ⟨h0, h1, h2, h3, h4, h5, h6⟩ := h
  exact ⟨h0, h1, h2, h3, va_K.moved (u := U) (U := U.calling f mk a) (Vm.Alike.refl U.vm) h4, ⟨h5.1.moved (u := U) (U := U.calling f mk a) (Vm.Alike.refl U.vm), h5.2.same (u := U) (U := U.calling f mk a) rfl⟩, hE _ _ _ _ h6⟩
theorem StZ.narrow {g : Gt} {A B : Nat → Prop} {U : State} {H : Heap} (h : StZ (gw g A) U H) (hAB : ∀ q, B q → A q) : StZ (gw g B) U H := by
  obtain ⟨h1, h2, h3, h4, h5, h6, h7⟩ := h
  exact ⟨h1.narrow hAB, h2.narrow hAB, h3.narrow hAB, h4.narrow hAB, h5.narrow hAB, h6.narrow hAB, h7.narrow hAB⟩
section CB
variable {p : Program} {l : Launch} {e : Env} {R : Room} {s : State} {m : MethodId} {args : Array Value} {below : List Frame} {meth : Method} {c : Code} {H : Heap} {locs : List Loc} {cells slots : Nat} {Qs : State → Prop}
variable {cc : ByteArray} {pc nL : Nat} {ls : Array Slot} {rest : List Value} {own : String} {g : Gt} {ws : va_W}
theorem ct_of {y : MethodName} {f mc ms L : Nat} {Ex : State → Prop} {h0 sz : Nat} {e0 : va_E} {As : List Value} {S : Type} {post : S → Prop} {cs : S → va_W} (hy : plainName y.cls = true) (hn : (lg_sl (.ref h0 :: As)).length ≤ nL)
    (body : ∀ (p : Program) (e : Env) (s : State) (m : MethodId) (args : Array Value) (below : List Frame) (meth : Method) (c : Code) (ls : Array Slot) (A : Nat → Prop), Cx p s m args c cc nL y.cls (gw g A) → Ex s → meth.sig.returnType = none → meth.locks = false → meth.name = y.name → (∀ q : Nat, s.heap.size ≤ q → A q) → Bd (gw g A) s.heap [(h0, e0)] s.heap [] → lv_has ls nL (lv_args 0 (.ref h0 :: As)) →
      W p l e (rmC f mc ms L) s m args below meth c s.heap [] 0 0 (MQ below (CPost g post cs A) args s mc ms A) (F0 m 0 ls [])) : Ctor l y cc nL f mc ms L g Ex h0 e0 As sz post cs := by
  refine Met.ofW (cc := cc) (maxL := nL) (ret := none) hy rfl ?_
  intro p e s m args below meth c s₁ B hml hv
  obtain ⟨rfl, hsz, hP, hD0, hK, hSt, hEx⟩ := hv
  have hts := atoms_spec (ws := wsY y cc nL none) B.pre
  have hown : s.vm.findClass y.cls = some m.cls := findClass_of_methodNamed B.named
  have hin : meth.name = y.name := (name_of_methodNamed B.named B.method).1
  subst hsz
  have hD := hD0.self (sz := s.heap.size)
  generalize hAe : va_A [(h0, e0)] s.heap.size = A at hD hSt ⊢
  have hA : ∀ q : Nat, s.heap.size ≤ q → A q := fun q h => by rw [← hAe]; exact Or.inr h
  rw [lg_entry_eq]
  exact body p e s m _ below meth c _ A ⟨⟨B.exec, B.bytes, hml, hown, fun w h => hts w (List.mem_cons_of_mem _ h)⟩, hK, hSt⟩ hEx B.returns B.notSynchronized hin hA ⟨hP, hD, va_S.rf⟩ (lv_entry (.ref h0 :: As) hn)
theorem n_ret {S : Type} {post : S → Prop} {cs : S → va_W} {mc ms : Nat} (C : Cx p s m args c cc nL own g) (hr : meth.sig.returnType = none) (hlocks : meth.locks = false) (u : S) (b : Bd g s.heap (cs u) H locs) (hp : post u) (hdg : decode cc pc = .ok (.return_, 1)) : W p l e R s m args below meth c H locs mc ms (MQ below (CPost g post cs (gF g)) args s mc ms (gF g)) (F0 m pc ls []) :=
  W.vret C.1.1 C.1.2.1 hr (fun t ht _ => ⟨⟨u, rfl, hp, by rw [ht]; exact b.1, b.2.1⟩, b.2.2.F ht⟩) b.2.2.2.2 hdg hlocks
def kObj : Prop := Cond.instanceMethod objectInit ∈ ALL ∧ Cond.code objectInit ⟨#[0xb1]⟩ 1 none ∈ ALL
theorem n_oi {a index : Nat} (C : Cx p s m args c cc nL own g) (k : kObj) (hlk : Cond.methodLink own index objectInit ∈ ALL) (hsz : ls.size = nL) (hdg : decode cc pc = .ok (.invokespecial index, 3)) (hR : 1 ≤ R.frames ∧ (rest.map fun v => v.category).sum + 12 ≤ R.locals)
    (kk : W p l e R s m args below meth c H locs cells slots Qs (F0 m (pc + 3) ls rest)) : W p l e R s m args below meth c H locs cells slots Qs (F0 m pc ls (.ref a :: rest)) := by
  refine W.objInit C.1.1 C.1.2.1 C.1.2.2.2.1 (C.1.2.2.2.2 _ hlk) (C.1.2.2.2.2 _ k.1) (C.1.2.2.2.2 _ k.2) rfl (by rw [C.1.2.2.1]; exact hsz) rfl hdg hR.1 ?_ kk
  have : (F0 m pc ls (.ref a :: rest)).monitorRoom = 0 := rfl
  rw [this]
  omega
theorem n_obj (C : Cx p s m args c cc nL own g) (b : Bd g s.heap ws H locs) (hA : ∀ q : Nat, s.heap.size ≤ q → gF g q) {ci index n : Nat} {Cn : String} {T : u_T} {ty : Nat → FieldType} (K : KC ci Cn T n ty) (hk : Cond.classLink own index Cn ∈ ALL ∧ Cond.instantiable Cn n ∈ ALL ∧ Cond.initialized Cn ∈ ALL) (fs : List Value) (hfs : ∀ j, j < n → defaultValue (ty j) = vp_V fs j) (hR : cells + 1 ≤ R.cells ∧ slots + n ≤ R.slots) (hdg : decode cc pc = .ok (.new index, 3))
    (kk : ∀ (q : Nat) (H1 : Heap), Bd g s.heap (ws ++ [(q, .inr (ci, fs))]) H1 locs → W p l e R s m args below meth c H1 locs (cells + 1) (slots + n) Qs (F0 m (pc + 3) ls (.ref q :: rest))) : W p l e R s m args below meth c H locs cells slots Qs (F0 m pc ls rest) := by
  obtain ⟨⟨hx, hb, hml, hown, hts⟩, hK, -⟩ := C
  exact va_new (ci := ci) (fs := fs) (C := Cn) (T := T) (N := n) hx hb hts K.1 ty K.2.2.1 hown (hts _ hk.1) (hts _ hk.2.1) (hts _ hk.2.2) hK b.1 b.2.1 b.2.2 hA K.2.1 hfs hR.1 hR.2 hdg (fun q H1 hP hD hS => kk q H1 ⟨hP, hD, hS⟩)
theorem find_in {U : State} {a b : ClassId} {ty : FieldType} (h1 : va_RA U a ty) (h2 : va_RA U b ty) : a = b := by
  cases ty with
  | object Cn =>
    obtain ⟨_, _, _, _, _, e1⟩ := h1
    obtain ⟨_, _, _, _, _, e2⟩ := h2
    exact Option.some.inj (e1.symm.trans e2)
  | _ => exact Option.some.inj (Eq.trans (Eq.symm h1) h2)
theorem tys_last {D : va_G} {cl : List vw_C} {tys : List (ClassId × FieldType)} {U : State} {q : ClassId × FieldType} (h : va_K D cl (tys ++ [q]) U) : va_RA U q.1 q.2 := (h.2 tys.length q (by simp)).2
theorem n_arr (C : Cx p s m args c cc nL own g) (b : Bd g s.heap ws H locs) (hA : ∀ q : Nat, s.heap.size ≤ q → gF g q) {atype : ArrayType} {ty : FieldType} (t : Nat) (hty : newarray.typeOf atype = ty) (htt : (tysOf (gC g))[t]? = some (gC g t, ty)) (hk : Cond.arrayClass ty ∈ ALL) {n : Int32} {N' : Nat} (hz : ∀ cA : ClassId, vp_cell cA (N', .inl (fun _ => 0)) = arrV cA N' (fun _ => defaultValue ty)) (hn : ¬ n < 0) (hN : n.toNatClampNeg = N') (hby : N' * componentBytes ty ≤ 536870912) (hR : cells + 1 ≤ R.cells ∧ slots + N' ≤ R.slots) (hdg : decode cc pc = .ok (.newarray atype, 2))
    (kk : ∀ (q : Nat) (H1 : Heap), Bd g s.heap (ws ++ [(q, .inl (gC g t, N', .inl (fun _ => 0)))]) H1 locs → W p l e R s m args below meth c H1 locs (cells + 1) (slots + N') Qs (F0 m (pc + 2) ls (.ref q :: rest))) : W p l e R s m args below meth c H locs cells slots Qs (F0 m pc ls (.int n :: rest)) := by
  subst hty
  refine va_newa C.1.1 C.1.2.1 (C.1.2.2.2.2 _ hk) rfl C.2.1 b.1 b.2.1 b.2.2 hA hz hn hN hby hR.1 hR.2 hdg (fun q cA H1 hK1 hP hD hS => ?_)
  have e : cA = gC g t := find_in (tys_last hK1) (C.2.1.2 t _ htt).2
  subst e
  exact kk q H1 ⟨hP, hD, hS⟩
theorem n_ref (C : Cx p s m args c cc nL own g) (b : Bd g s.heap ws H locs) (hA : ∀ q : Nat, s.heap.size ≤ q → gF g q) {Cn : String} {index : Nat} (t : Nat) (htt : (tysOf (gC g))[t]? = some (gC g t, .object Cn)) (hk : Cond.classLink own index Cn ∈ ALL) (hov : va_AO Cn s) {n : Int32} {N' : Nat} (hn : ¬ n < 0) (hN : n.toNatClampNeg = N') (hby : N' * 4 ≤ 536870912) (hR : cells + 1 ≤ R.cells ∧ slots + N' ≤ R.slots) (hdg : decode cc pc = .ok (.anewarray index, 3))
    (kk : ∀ (q : Nat) (H1 : Heap), Bd g s.heap (ws ++ [(q, .inl (gC g t, N', .inr (.inr (.inr (.inr (fun _ => none))))))]) H1 locs → W p l e R s m args below meth c H1 locs (cells + 1) (slots + N') Qs (F0 m (pc + 3) ls (.ref q :: rest))) : W p l e R s m args below meth c H locs cells slots Qs (F0 m pc ls (.int n :: rest)) := by
  refine va_newq C.1.1 C.1.2.1 C.1.2.2.2.1 (C.1.2.2.2.2 _ hk) hov C.2.1 b.1 b.2.1 b.2.2 hA hn hN hby hR.1 hR.2 hdg (fun q cA H1 hK1 hP hD hS => ?_)
  have e : cA = gC g t := find_in (tys_last hK1) (C.2.1.2 t _ htt).2
  subst e
  exact kk q H1 ⟨hP, hD, hS⟩
theorem n_putF (C : Cx p s m args c cc nL own g) (b : Bd g s.heap ws H locs) (hin : meth.name = "<init>") {ci index n a v : Nat} {Cn : String} {T : u_T} {ty : Nat → FieldType} (K : KC ci Cn T n ty) (q0 : Nat) {fs : List Value} (he : ws[q0]? = some (a, .inr (ci, fs))) (k : Nat) (hk : k < n) (hlink : Cond.fieldLink own index (T k).1 (T k).2.1 (T k).2.2.1 ∈ ALL) (hfin : (T k).2.2.2 = true) (hdecl : (T k).1 = own) {tk : FieldType} (hd : parseFieldDescriptor (T k).2.2.1 = some tk) (hrk : narrow tk (.ref v) = .ref v ∧ fits tk (.ref v) = true) (hl : k < fs.length) (hdg : decode cc pc = .ok (.putfield index, 3))
    (kk : ∀ (H1 : Heap) (locs1 : List Loc), Bd g s.heap (ws.set q0 (a, .inr (ci, fs.set k (.ref v)))) H1 locs1 → W p l e R s m args below meth c H1 locs1 cells slots Qs (F0 m (pc + 3) ls rest)) : W p l e R s m args below meth c H locs cells slots Qs (F0 m pc ls (.ref v :: .ref a :: rest)) := by
  obtain ⟨⟨hx, hb, hml, hown, hts⟩, hK, -⟩ := C
  exact va_putF (D := gD g) (ci := ci) (C := Cn) (T := T) (N := n) hx hb hts K.1 ty K.2.2.1 K.2.2.2 hown hK b.1 b.2.1 b.2.2 q0 he K.2.1 k hk (hts _ hlink) (fun _ h => h) hfin hin hdecl hd hrk.1 hrk.2 hl hdg (fun H1 locs1 hP hD hS => kk H1 locs1 ⟨hP, hD, hS⟩)
theorem n_put (C : Cx p s m args c cc nL own g) (b : Bd g s.heap ws H locs) {ci index n a : Nat} {v : Int32} {Cn : String} {T : u_T} {ty : Nat → FieldType} (K : KC ci Cn T n ty) (q0 : Nat) {fs : List Value} (he : ws[q0]? = some (a, .inr (ci, fs))) (k : Nat) (hk : k < n) (hlink : Cond.fieldLink own index (T k).1 (T k).2.1 (T k).2.2.1 ∈ ALL) (hfin : (T k).2.2.2 = false) (hty : parseFieldDescriptor (T k).2.2.1 = some .int) (hl : k < fs.length) (hdg : decode cc pc = .ok (.putfield index, 3))
    (kk : ∀ (H1 : Heap) (locs1 : List Loc), Bd g s.heap (ws.set q0 (a, .inr (ci, fs.set k (.int v)))) H1 locs1 → W p l e R s m args below meth c H1 locs1 cells slots Qs (F0 m (pc + 3) ls rest)) : W p l e R s m args below meth c H locs cells slots Qs (F0 m pc ls (.int v :: .ref a :: rest)) := by
  obtain ⟨⟨hx, hb, hml, hown, hts⟩, hK, -⟩ := C
  exact va_put (D := gD g) (ci := ci) (C := Cn) (T := T) (N := n) hx hb hts K.1 ty K.2.2.1 K.2.2.2 hown hK b.1 b.2.1 b.2.2 q0 he K.2.1 k hk (hts _ hlink) (fun _ h => h) hfin hty rfl rfl hl hdg (fun H1 locs1 hP hD hS => kk H1 locs1 ⟨hP, hD, hS⟩)
theorem n_get (C : Cx p s m args c cc nL own g) (b : Bd g s.heap ws H locs) {ci index n a : Nat} {v : Value} {Cn : String} {T : u_T} {ty : Nat → FieldType} (K : KC ci Cn T n ty) (q0 : Nat) {fs : List Value} (he : ws[q0]? = some (a, .inr (ci, fs))) (k : Nat) (hk : k < n) (hlink : Cond.fieldLink own index (T k).1 (T k).2.1 (T k).2.2.1 ∈ ALL) (hv : fs[k]? = some v) (hdg : decode cc pc = .ok (.getfield index, 3))
    (kk : W p l e R s m args below meth c H locs cells slots Qs (F0 m (pc + 3) ls (v :: rest))) : W p l e R s m args below meth c H locs cells slots Qs (F0 m pc ls (.ref a :: rest)) := by
  obtain ⟨⟨hx, hb, hml, hown, hts⟩, hK, -⟩ := C
  exact va_get (D := gD g) (ci := ci) (C := Cn) (T := T) (N := n) hx hb hts K.1 hown hK b.1 q0 he K.2.1 k hk (hts _ hlink) (fun _ h => h) hv hdg kk
theorem n_ias (C : Cx p s m args c cc nL own g) (b : Bd g s.heap ws H locs) (q0 : Nat) {a n : Nat} {f : Nat → Int32} {i v : Int32} (he : ws[q0]? = some (a, .inl (gC g 0, n, .inl f))) (hin : vp_in i n) (hdg : decode cc pc = .ok (.iastore, 1))
    (kk : ∀ (H1 : Heap) (locs1 : List Loc), Bd g s.heap (ws.set q0 (a, .inl (gC g 0, n, .inl (upd f i.toNatClampNeg v)))) H1 locs1 → W p l e R s m args below meth c H1 locs1 cells slots Qs (F0 m (pc + 1) ls rest)) : W p l e R s m args below meth c H locs cells slots Qs (F0 m pc ls (.int v :: .int i :: .ref a :: rest)) :=
  va_iast C.1.1 C.1.2.1 C.2.1 b.1 b.2.1 b.2.2 q0 0 he rfl hin hdg (fun H1 locs1 hP hD hS => kk H1 locs1 ⟨hP, hD, hS⟩)
theorem n_ast (C : Cx p s m args c cc nL own g) (b : Bd g s.heap ws H locs) (t q0 qk ci : Nat) {a n v : Nat} {r : vw_C} {vs : List Value} {f : Nat → Option Nat} {i : Int32} (he : ws[q0]? = some (a, .inl (gC g t, n, .inr (.inr (.inr (.inr f)))))) (htt : (tysOf (gC g))[t]? = some (gC g t, .object r.1)) (hv : ws[qk]? = some (v, .inr (ci, vs))) (hc : vwCl[ci]? = some r) (hin : vp_in i n) (hdg : decode cc pc = .ok (.aastore, 1))
    (kk : ∀ (H1 : Heap) (locs1 : List Loc), Bd g s.heap (ws.set q0 (a, .inl (gC g t, n, .inr (.inr (.inr (.inr (va_up f i.toNatClampNeg (some v)))))))) H1 locs1 → W p l e R s m args below meth c H1 locs1 cells slots Qs (F0 m (pc + 1) ls rest)) : W p l e R s m args below meth c H locs cells slots Qs (F0 m pc ls (.ref v :: .int i :: .ref a :: rest)) :=
  va_astq C.1.1 C.1.2.1 C.2.1 b.1 b.2.1 b.2.2 q0 t qk ci he htt hv hc hin hdg (fun H1 locs1 hP hD hS => kk H1 locs1 ⟨hP, hD, hS⟩)
variable {y : MethodName} {bc : ByteArray} {nB index n f mc ms L : Nat} {Cn : String} {Ex : State → Prop} {S : Type} {post : S → Prop} {cs : S → va_W}
/-- a constructor, in the tables -/
def Ki (y : MethodName) (cc : ByteArray) (nL n : Nat) : Prop := (.instanceMethod y ∈ ALL ∧ .initialized y.cls ∈ ALL ∧ .code y cc nL none ∈ ALL) ∧ y.name = "<init>" ∧ (y.cls ≠ "java/lang/invoke/MethodHandle" ∧ y.cls ≠ "java/lang/invoke/VarHandle" ∧ (parseMethodDescriptor y.desc).map (fun d => d.parameters.length) = some n)
theorem CPre.of {av : List Value} {wr : va_W} {h0 : Nat} {e0 : va_E} (C : Cx p s m args c cc nL own g) (b : Bd g s.heap (wr ++ [(h0, e0)]) H locs) (hA : ∀ q : Nat, s.heap.size ≤ q → gF g q) (hEx : ∀ U : State, U.heap = H → s.WarmedH U.vm → Ex U) {U : State} (hU : U.heap = H) (hW : s.WarmedH U.vm) : va_Pc av (CPre g Ex h0 e0 H.size) av.toArray U := by
  have hl : (wr ++ [(h0, e0)])[wr.length]? = some (h0, e0) := by simp
  have hsub : ∀ q, va_A [(h0, e0)] H.size q → gF g q := by
    intro q h
    rcases h with ⟨k, e, h⟩ | h
    · have h0k : k < 1 := (List.getElem?_eq_some_iff.mp h).1
      rw [show k = 0 by omega] at h
      cases h
      exact b.2.1.2 _ _ hl
    · exact hA q (Nat.le_trans b.2.2.1 h)
  refine ⟨rfl, by rw [hU], ?_, ⟨?_, ?_⟩, va_K.moved hW.alike C.2.1, ⟨?_, C.2.2.2.warm hW⟩, hEx U hU hW⟩
  · rw [hU]
    intro k q hk
    have h0k : k < 1 := (List.getElem?_eq_some_iff.mp hk).1
    rw [show k = 0 by omega] at hk
    cases hk
    exact b.1 _ _ hl
  · intro i j x z hi hj _
    have h1 : i < 1 := (List.getElem?_eq_some_iff.mp hi).1
    have h2 : j < 1 := (List.getElem?_eq_some_iff.mp hj).1
    omega
  · exact fun _ _ _ => trivial
  · rw [hU]
    exact (StZ.narrow (g := g) (A := gF g) (C.2.2.1.kept (fun a h1 h2 => b.2.2.2.1 a h1 h2)) hsub).moved hW.alike
theorem n_join {wr : va_W} {h0 : Nat} {e0 : va_E} {w1 : va_W} {H1 : Heap} {locs1 : List Loc} {H0 : Heap} (b : Bd g H0 (wr ++ [(h0, e0)]) H locs) (hk : ∀ q : Nat, q < H.size → ¬ va_A [(h0, e0)] H.size q → H1[q]? = H[q]?) (hP1 : va_P (gD g) vwCl w1 H1) (hD1 : va_D (va_A [(h0, e0)] H.size) w1) (hsub : ∀ q, va_A [(h0, e0)] H.size q → gF g q) (hS : va_S (gF g) H0 H1 locs1) : Bd g H0 (wr ++ w1) H1 locs1 := by
  have hl : (wr ++ [(h0, e0)])[wr.length]? = some (h0, e0) := by simp
  have hat : ∀ (k : Nat) (q : Nat × va_E), wr[k]? = some q → (wr ++ [(h0, e0)])[k]? = some q := fun k q hq => by
    rw [List.getElem?_append_left (List.getElem?_eq_some_iff.mp hq).1]
    exact hq
  have hne : ∀ (k : Nat) (q : Nat × va_E), wr[k]? = some q → q.1 < H.size ∧ ¬ va_A [(h0, e0)] H.size q.1 := fun k q hq => by
    have hlt := (b.1 k q (hat k q hq)).lt
    refine ⟨hlt, fun h => ?_⟩
    rcases h with ⟨j, e, h⟩ | h
    · have h0k : j < 1 := (List.getElem?_eq_some_iff.mp h).1
      rw [show j = 0 by omega] at h
      have e1 : h0 = q.1 := congrArg Prod.fst (Option.some.inj h)
      have := b.2.1.1 k wr.length q (h0, e0) (hat k q hq) hl e1.symm
      have := (List.getElem?_eq_some_iff.mp hq).1
      omega
    · omega
  refine ⟨va_P.app (fun k q hq => (b.1 k q (hat k q hq)).kept (hk q.1 (hne k q hq).1 (hne k q hq).2)) hP1, va_D.app ⟨fun i j x z hi hj hxz => b.2.1.1 i j x z (hat i x hi) (hat j z hj) hxz, fun k q hq => b.2.1.2 k q (hat k q hq)⟩ (hD1.weaken (fun _ q _ h => hsub q.1 h)) (fun i j x z hi hj hxz => ?_), hS⟩
  exact (hne i x hi).2 (by rw [hxz]; exact hD1.2 j z hj)
theorem va_subA {wr : va_W} {h0 : Nat} {e0 : va_E} (b : Bd g s.heap (wr ++ [(h0, e0)]) H locs) (hA : ∀ q : Nat, s.heap.size ≤ q → gF g q) : ∀ q, va_A [(h0, e0)] H.size q → gF g q := by
  intro q h
  rcases h with ⟨k, e, h⟩ | h
  · have h0k : k < 1 := (List.getElem?_eq_some_iff.mp h).1
    rw [show k = 0 by omega] at h
    cases h
    exact b.2.1.2 wr.length (h0, e0) (by simp)
  · exact hA q (Nat.le_trans b.2.2.1 h)
theorem n_callI {wr : va_W} {h0 : Nat} {e0 : va_E} (C : Cx p s m args c cc nL own g) (b : Bd g s.heap (wr ++ [(h0, e0)]) H locs) (hA : ∀ q : Nat, s.heap.size ≤ q → gF g q) (As : List Value) (hM : Ctor l y bc nB f mc ms L g Ex h0 e0 As H.size post cs) (hE : ExB Ex) (hEx : ∀ U : State, U.heap = H → s.WarmedH U.vm → Ex U) (k : Ki y bc nB n) (hlk : Cond.methodLink own index y ∈ ALL) (hn : As.length = n) (hsz : ls.size = nL) (hW : (rest.map fun v => v.category).sum ≤ 8) (hR : f + 1 ≤ R.frames ∧ 8 + (nB + 11) + L ≤ R.locals) (hR2 : cells + mc ≤ R.cells ∧ slots + ms ≤ R.slots) (hdg : decode cc pc = .ok (.invokespecial index, 3))
    (kk : ∀ (u : S) (H1 : Heap) (locs1 : List Loc), post u → Bd g s.heap (wr ++ cs u) H1 locs1 → W p l e R s m args below meth c H1 locs1 (cells + mc) (slots + ms) Qs (F0 m (pc + 3) ls rest)) : W p l e R s m args below meth c H locs cells slots Qs (F0 m pc ls (As.reverse ++ .ref h0 :: rest)) := by
  obtain ⟨⟨k1, k2, k3⟩, k4, k5⟩ := k
  have hsub := va_subA b hA
  refine va_callv (va_runI (As := As) (rest := rest) C.1 hM (cwI n C.1.2.2.2.2 (good_cons k3 all_good) rfl rfl rfl (C.1.2.2.2.2 _ k2) (C.1.2.2.2.2 _ hlk) (C.1.2.2.2.2 _ k1) k4 k5 hR) ⟨CPre.blind hE, fun U hU hW => CPre.of C b hA hEx hU hW⟩ rfl hn hsz rfl (lv_room hW) hdg hR2) b.2.2 (fun q _ h => hsub q h) hsub (fun u t H1 locs1 ht hvm hw hB hz1 hk1 hS => ?_)
  obtain ⟨hP1, hD1⟩ := hB
  rw [ht] at hP1
  exact kk u H1 locs1 hw (n_join b hk1 hP1 hD1 hsub hS)
theorem n_callN {wr : va_W} {h0 : Nat} {e0 : va_E} {host : String} (C : Cx p s m args c cc nL own g) (b : Bd g s.heap (wr ++ [(h0, e0)]) H locs) (hA : ∀ q : Nat, s.heap.size ≤ q → gF g q) (As : List Value) (hM : Ctor l y bc nB f mc ms L g Ex h0 e0 As H.size post cs) (hE : ExB Ex) (hEx : ∀ U : State, U.heap = H → s.WarmedH U.vm → Ex U) (k : Ki y bc nB n) (hlk : va_Nw (.methodLinkNest own index y host) s) (hn : As.length = n) (hsz : ls.size = nL) (hW : (rest.map fun v => v.category).sum ≤ 8) (hR : f + 1 ≤ R.frames ∧ 8 + (nB + 11) + L ≤ R.locals) (hR2 : cells + mc ≤ R.cells ∧ slots + ms ≤ R.slots) (hdg : decode cc pc = .ok (.invokespecial index, 3))
    (kk : ∀ (u : S) (H1 : Heap) (locs1 : List Loc), post u → Bd g s.heap (wr ++ cs u) H1 locs1 → W p l e R s m args below meth c H1 locs1 (cells + mc) (slots + ms) Qs (F0 m (pc + 3) ls rest)) : W p l e R s m args below meth c H locs cells slots Qs (F0 m pc ls (As.reverse ++ .ref h0 :: rest)) := by
  obtain ⟨⟨k1, k2, k3⟩, k4, k5⟩ := k
  have hsub := va_subA b hA
  refine va_callv (va_runIN (As := As) (rest := rest) C.1 hM ⟨va_cnB n C.1.2.2.2.2 (good_cons k3 all_good) rfl rfl rfl hlk (C.1.2.2.2.2 _ k2) k5 hR, k4, C.1.2.2.2.2 _ k1⟩ ⟨CPre.blind hE, fun U hU hW => CPre.of C b hA hEx hU hW⟩ rfl hn hsz rfl (lv_room hW) hdg hR2) b.2.2 (fun q _ h => hsub q h) hsub (fun u t H1 locs1 ht hvm hw hB hz1 hk1 hS => ?_)
  obtain ⟨hP1, hD1⟩ := hB
  rw [ht] at hP1
  exact kk u H1 locs1 hw (n_join b hk1 hP1 hD1 hsub hS)
end CB
/-! a lone estate: its own ten cells -/
def layEL : List Lay := estB 0
def layE (o : Nat) : Lay := layEL.getD o (arrL 0 0)
def isZ (o : Nat) : Prop := o = 0
theorem zO {o : Nat} (h : isZ o) : o < 10 := by unfold isZ at h; omega
theorem zL {o : Nat} (h : isZ o) : layE o = .inl (0, [some (o + 1), some (o + 2), some (o + 3), some (o + 4), some (o + 5), some (o + 6), some (o + 7), some (o + 8), some (o + 9), none, none, none, none, none]) := by
  cases h; rfl
theorem zA0 {o : Nat} (h : isZ o) : o + 1 < 10 ∧ layE (o + 1) = .inr (.inl (0, 6)) := by cases h; exact ⟨by omega, rfl⟩
theorem zA1 {o : Nat} (h : isZ o) : o + 2 < 10 ∧ layE (o + 2) = .inr (.inl (0, 6)) := by cases h; exact ⟨by omega, rfl⟩
section CV
variable {p : Program} {l : Launch} {e : Env} {R : Room} {s : State} {m : MethodId} {args : Array Value} {below : List Frame} {meth : Method} {c : Code} {H : Heap} {locs : List Loc} {Qs : State → Prop} {cells slots : Nat}
variable {cc : ByteArray} {pc nL : Nat} {ls : Array Slot} {rest : List Value} {own : String} {g : Gt} {lay : Nat → Lay} {N : Nat} {M : Mem}
variable {y : MethodName} {bc : ByteArray} {nB index n f L : Nat} {rt : Option FieldType} {Cn : String}
theorem n_cVv {b : Nat} {Q : Mem → Prop} (C : Cx p s m args c cc nL own g) (w : Wd g lay N s.heap M H locs) (As : List Value) (hM : MV l y bc nB rt f L g lay N (.ref b :: As) M Q) (k : Kv Cn y bc nB rt n) (hlk : Cond.methodLink own index y ∈ ALL) (hrc : ∃ cell : Cell, H[b]? = some cell ∧ cell.vm.isStatics = false ∧ s.vm.findClass Cn = some cell.cls) (hn : As.length = n) (hsz : ls.size = nL) (hW : (rest.map fun v => v.category).sum ≤ 8) (hR : f + 1 ≤ R.frames ∧ 8 + (nB + 11) + L ≤ R.locals) (hR2 : cells ≤ R.cells ∧ slots ≤ R.slots) (hdg : decode cc pc = .ok (.invokevirtual index, 3))
    (kk : ∀ (M1 : Mem) (H1 : Heap) (locs1 : List Loc), Q M1 → Wd g lay N s.heap M1 H1 locs1 → W p l e R s m args below meth c H1 locs1 cells slots Qs (F0 m (pc + 3) ls rest)) : W p l e R s m args below meth c H locs cells slots Qs (F0 m pc ls (As.reverse ++ .ref b :: rest)) := by
  refine va_callv (va_runV (As := As) (rest := rest) C.1 hM (cv_of C k hlk hR) ⟨PreW.blind, hrc, fun U hU hW => PreW.of C w hU hW⟩ rfl hn hsz rfl (lv_room hW) hdg hR2) w.2.2 (fun _ _ h => h) (fun _ h => h) (fun u t H1 locs1 ht hvm hw hB hz1 hk1 hS => ?_)
  obtain ⟨hP1, hD1⟩ := hB
  rw [ht] at hP1
  exact kk u H1 locs1 hw ⟨hP1, hD1, hS⟩
end CV
