section BY
variable {p : Program} {l : Launch} {e : Env} {R : Room} {s : State} {m : MethodId} {args : Array Value} {below : List Frame} {meth : Method} {c : Code} {H : Heap} {locs : List Loc} {Qs : State → Prop}
variable {cc : ByteArray} {pc nL : Nat} {ls : Array Slot} {rest : List Value} {own : String} {g : Gt} {lay : Nat → Lay} {N : Nat} {M : Mem}
/-! a contract out of a walk of the body -/
abbrev Bdy (l : Launch) (y : MethodName) (cc : ByteArray) (nL : Nat) (rt : Option FieldType) (R : Room) (g : Gt) (lay : Nat → Lay) (N : Nat) (av : List Value) (M : Mem) (Qc : Array Value → State → Outcome → State → Prop) : Prop :=
  ∀ (p : Program) (e : Env) (s : State) (m : MethodId) (args : Array Value) (below : List Frame) (meth : Method) (c : Code) (ls : Array Slot), Cx p s m args c cc nL y.cls g → meth.sig.returnType = rt → meth.locks = false → Wd g lay N s.heap M s.heap [] → lv_has ls nL (lv_args 0 av) → W p l e R s m args below meth c s.heap [] 0 0 (MQ below Qc args s 0 0 (gF g)) (F0 m 0 ls [])
theorem m_of {y : MethodName} {rt : Option FieldType} {f L : Nat} {av : List Value} {Qc : Array Value → State → Outcome → State → Prop} (hy : plainName y.cls = true) (hn : (lg_sl av).length ≤ nL) (body : Bdy l y cc nL rt (rmOf f L) g lay N av M Qc) : Met l y (wsY y cc nL rt) (rmOf f L) (va_Pc av (PreW g lay N M)) Qc 0 0 (gF g) := by
  refine Met.ofW (cc := cc) (maxL := nL) (ret := rt) hy rfl ?_
  intro p e s m args below meth c s₁ B hml hv
  obtain ⟨rfl, hP, hD, hK, hSt⟩ := hv
  have hts := atoms_spec (ws := wsY y cc nL rt) B.pre
  have hown : s.vm.findClass y.cls = some m.cls := findClass_of_methodNamed B.named
  rw [lg_entry_eq]
  exact body p e s m _ below meth c _ ⟨⟨B.exec, B.bytes, hml, hown, fun w h => hts w (List.mem_cons_of_mem _ h)⟩, hK, hSt⟩ B.returns B.notSynchronized ⟨hP, hD, va_S.rf⟩ (lv_entry av hn)
/-! a method's end -/
theorem q_iret {Q : Int32 → Mem → Prop} {v : Int32} {rt : FieldType} (C : Cx p s m args c cc nL own g) (hr : meth.sig.returnType = some rt) (hlocks : meth.locks = false) (w : Wd g lay N s.heap M H locs) (hn : narrow rt (.int v) = .int v) (hq : Q v M) (hdg : decode cc pc = .ok (.ireturn, 1)) : W p l e R s m args below meth c H locs 0 0 (MQ below (va_Qi Q (PostW g lay N) (gF g)) args s 0 0 (gF g)) (F0 m pc ls [.int v]) :=
  W.zret C.1.1 C.1.2.1 hr hn (fun t ht _ => ⟨⟨v, M, rfl, hq, by rw [ht]; exact w.1, w.2.1⟩, w.2.2.F ht⟩) w.2.2.2.2 hdg hlocks
theorem q_lret {Q : Int64 → Mem → Prop} {v : Int64} (C : Cx p s m args c cc nL own g) (hr : meth.sig.returnType = some .long) (hlocks : meth.locks = false) (w : Wd g lay N s.heap M H locs) (hq : Q v M) (hdg : decode cc pc = .ok (.lreturn, 1)) : W p l e R s m args below meth c H locs 0 0 (MQ below (va_Ql Q (PostW g lay N) (gF g)) args s 0 0 (gF g)) (F0 m pc ls [.long v]) :=
  W.lret C.1.1 C.1.2.1 hr (fun t ht _ => ⟨⟨v, M, rfl, hq, by rw [ht]; exact w.1, w.2.1⟩, w.2.2.F ht⟩) w.2.2.2.2 hdg hlocks
theorem q_vret {Q : Mem → Prop} (C : Cx p s m args c cc nL own g) (hr : meth.sig.returnType = none) (hlocks : meth.locks = false) (w : Wd g lay N s.heap M H locs) (hq : Q M) (hdg : decode cc pc = .ok (.return_, 1)) : W p l e R s m args below meth c H locs 0 0 (MQ below (va_Qv Q (PostW g lay N) (gF g)) args s 0 0 (gF g)) (F0 m pc ls []) :=
  W.vret C.1.1 C.1.2.1 hr (fun t ht _ => ⟨⟨M, rfl, hq, by rw [ht]; exact w.1, w.2.1⟩, w.2.2.F ht⟩) w.2.2.2.2 hdg hlocks
theorem q_tret {Q : Nat → Mem → Prop} {i : Nat} {n : String} (C : Cx p s m args c cc nL own g) (hr : meth.sig.returnType = some (.object n)) (hlocks : meth.locks = false) (w : Wd g lay N s.heap M H locs) (hq : Q i M) (hdg : decode cc pc = .ok (.areturn, 1)) : W p l e R s m args below meth c H locs 0 0 (MQ below (va_Qr (fun u : Nat × Mem => Q u.1 u.2) (fun u a t => a = gK g u.1 ∧ PostW g lay N u.2 t) (gF g)) args s 0 0 (gF g)) (F0 m pc ls [.ref (gK g i)]) :=
  W.aret C.1.1 C.1.2.1 hr (Or.inl ⟨n, rfl⟩) (Or.inr ⟨_, rfl⟩) (fun t ht _ => ⟨⟨(i, M), gK g i, rfl, hq, rfl, by rw [ht]; exact w.1, w.2.1⟩, w.2.2.F ht⟩) w.2.2.2.2 hdg hlocks
/-! calls -/
/-- a method of an object, in the tables -/
def Kv (Cn : String) (y : MethodName) (cc : ByteArray) (nL : Nat) (rt : Option FieldType) (n : Nat) : Prop := (.instanceMethod y ∈ ALL ∧ .selects Cn y y ∈ ALL ∧ .initialized Cn ∈ ALL ∧ .code y cc nL rt ∈ ALL) ∧ (y.cls = Cn ∧ y.cls ≠ "java/lang/invoke/MethodHandle" ∧ y.cls ≠ "java/lang/invoke/VarHandle" ∧ (parseMethodDescriptor y.desc).map (fun d => d.parameters.length) = some n)
/-- a static method, in the tables -/
def Ks (y : MethodName) (cc : ByteArray) (nL : Nat) (rt : Option FieldType) (n : Nat) : Prop := (.static y ∈ ALL ∧ .initialized y.cls ∈ ALL ∧ .code y cc nL rt ∈ ALL) ∧ (y.cls ≠ "java/lang/invoke/MethodHandle" ∧ y.cls ≠ "java/lang/invoke/VarHandle" ∧ (parseMethodDescriptor y.desc).map (fun d => d.parameters.length) = some n)
variable {y : MethodName} {bc : ByteArray} {nB index n f L : Nat} {rt : Option FieldType} {Cn : String}
theorem cv_of (C : Cx p s m args c cc nL own g) (k : Kv Cn y bc nB rt n) (hlk : Cond.methodLink own index y ∈ ALL) (hR : f + 1 ≤ R.frames ∧ 8 + (nB + 11) + L ≤ R.locals) : CallW R s args own Cn index y bc nB rt (wsY y bc nB rt) (rmOf f L) 0 0 n := by
  obtain ⟨⟨k1, k2, k3, k4⟩, k5⟩ := k
  refine cwV n C.1.2.2.2.2 (good_cons hlk (good_cons k1 (good_cons k2 (good_cons k3 (good_cons k4 all_good))))) rfl rfl rfl k5 hR
theorem cs_of (C : Cx p s m args c cc nL own g) (k : Ks y bc nB rt n) (hlk : Cond.methodLink own index y ∈ ALL) (hR : f + 1 ≤ R.frames ∧ 8 + (nB + 11) + L ≤ R.locals) : CallB R s args own index y bc nB rt (wsY y bc nB rt) (rmOf f L) 0 0 n ∧ (Cond.static y).before args s = true := by
  obtain ⟨⟨k1, k2, k3⟩, k5⟩ := k
  exact va_cwS n C.1.2.2.2.2 (good_cons hlk (good_cons k1 (good_cons k2 (good_cons k3 all_good)))) rfl rfl rfl k5 hR
theorem rcv (C : Cx p s m args c cc nL own g) (w : Wd g lay N s.heap M H locs) {o ci n : Nat} {fs : List (Option Nat)} {Cn : String} {T : u_T} {ty : Nat → FieldType} (K : KC ci Cn T n ty) (ho : o < N) (hl : lay o = .inl (ci, fs)) : ∃ cell : Cell, H[ga g o]? = some cell ∧ cell.vm.isStatics = false ∧ s.vm.findClass Cn = some cell.cls := by
  have he := wsOf_get (cA := gC g) (ad := ga g) (lay := lay) (M := M) ho
  rw [hl] at he
  exact va_recv C.2.1 w.1 K.2.1 he
theorem rcvT (C : Cx p s m args c cc nL own g) (w : Wd g lay N s.heap M H locs) {i : Nat} (hi : i < 6) : ∃ cell : Cell, H[gK g i]? = some cell ∧ cell.vm.isStatics = false ∧ s.vm.findClass "java/lang/String" = some cell.cls := vk_recv C.2.2.1.2.2.2.2.1 hi w.2.2
theorem q_cVi {b : Nat} {Q : Int32 → Mem → Prop} (C : Cx p s m args c cc nL own g) (w : Wd g lay N s.heap M H locs) (As : List Value) (hM : MI l y bc nB rt f L g lay N (.ref b :: As) M Q) (k : Kv Cn y bc nB rt n) (hlk : Cond.methodLink own index y ∈ ALL) (hrc : ∃ cell : Cell, H[b]? = some cell ∧ cell.vm.isStatics = false ∧ s.vm.findClass Cn = some cell.cls) (hn : As.length = n) (hsz : ls.size = nL) (hW : (rest.map fun v => v.category).sum ≤ 8) (hR : f + 1 ≤ R.frames ∧ 8 + (nB + 11) + L ≤ R.locals) (hdg : decode cc pc = .ok (.invokevirtual index, 3))
    (kk : ∀ (r : Int32) (M1 : Mem) (H1 : Heap) (locs1 : List Loc), Q r M1 → Wd g lay N s.heap M1 H1 locs1 → W p l e R s m args below meth c H1 locs1 0 0 Qs (F0 m (pc + 3) ls (.int r :: rest))) : W p l e R s m args below meth c H locs 0 0 Qs (F0 m pc ls (As.reverse ++ .ref b :: rest)) := by
  refine va_calli (va_runV (As := As) (rest := rest) C.1 hM (cv_of C k hlk hR) ⟨PreW.blind, hrc, fun U hU hW => PreW.of C w hU hW⟩ rfl hn hsz rfl (lv_room hW) hdg ⟨Nat.zero_le _, Nat.zero_le _⟩) w.2.2 (fun _ _ h => h) (fun _ h => h) (fun r u t H1 locs1 ht hvm hw hB hz1 hk1 hS => ?_)
  obtain ⟨hP1, hD1⟩ := hB
  rw [ht] at hP1
  exact kk r u H1 locs1 hw ⟨hP1, hD1, hS⟩
theorem q_cVl {b : Nat} {Q : Int64 → Mem → Prop} (C : Cx p s m args c cc nL own g) (w : Wd g lay N s.heap M H locs) (As : List Value) (hM : ML l y bc nB rt f L g lay N (.ref b :: As) M Q) (k : Kv Cn y bc nB rt n) (hlk : Cond.methodLink own index y ∈ ALL) (hrc : ∃ cell : Cell, H[b]? = some cell ∧ cell.vm.isStatics = false ∧ s.vm.findClass Cn = some cell.cls) (hn : As.length = n) (hsz : ls.size = nL) (hW : (rest.map fun v => v.category).sum ≤ 8) (hR : f + 1 ≤ R.frames ∧ 8 + (nB + 11) + L ≤ R.locals) (hdg : decode cc pc = .ok (.invokevirtual index, 3))
    (kk : ∀ (r : Int64) (M1 : Mem) (H1 : Heap) (locs1 : List Loc), Q r M1 → Wd g lay N s.heap M1 H1 locs1 → W p l e R s m args below meth c H1 locs1 0 0 Qs (F0 m (pc + 3) ls (.long r :: rest))) : W p l e R s m args below meth c H locs 0 0 Qs (F0 m pc ls (As.reverse ++ .ref b :: rest)) := by
  refine va_calll (va_runV (As := As) (rest := rest) C.1 hM (cv_of C k hlk hR) ⟨PreW.blind, hrc, fun U hU hW => PreW.of C w hU hW⟩ rfl hn hsz rfl (lv_room hW) hdg ⟨Nat.zero_le _, Nat.zero_le _⟩) w.2.2 (fun _ _ h => h) (fun _ h => h) (fun r u t H1 locs1 ht hvm hw hB hz1 hk1 hS => ?_)
  obtain ⟨hP1, hD1⟩ := hB
  rw [ht] at hP1
  exact kk r u H1 locs1 hw ⟨hP1, hD1, hS⟩
theorem q_cVv {b : Nat} {Q : Mem → Prop} (C : Cx p s m args c cc nL own g) (w : Wd g lay N s.heap M H locs) (As : List Value) (hM : MV l y bc nB rt f L g lay N (.ref b :: As) M Q) (k : Kv Cn y bc nB rt n) (hlk : Cond.methodLink own index y ∈ ALL) (hrc : ∃ cell : Cell, H[b]? = some cell ∧ cell.vm.isStatics = false ∧ s.vm.findClass Cn = some cell.cls) (hn : As.length = n) (hsz : ls.size = nL) (hW : (rest.map fun v => v.category).sum ≤ 8) (hR : f + 1 ≤ R.frames ∧ 8 + (nB + 11) + L ≤ R.locals) (hdg : decode cc pc = .ok (.invokevirtual index, 3))
    (kk : ∀ (M1 : Mem) (H1 : Heap) (locs1 : List Loc), Q M1 → Wd g lay N s.heap M1 H1 locs1 → W p l e R s m args below meth c H1 locs1 0 0 Qs (F0 m (pc + 3) ls rest)) : W p l e R s m args below meth c H locs 0 0 Qs (F0 m pc ls (As.reverse ++ .ref b :: rest)) := by
  refine va_callv (va_runV (As := As) (rest := rest) C.1 hM (cv_of C k hlk hR) ⟨PreW.blind, hrc, fun U hU hW => PreW.of C w hU hW⟩ rfl hn hsz rfl (lv_room hW) hdg ⟨Nat.zero_le _, Nat.zero_le _⟩) w.2.2 (fun _ _ h => h) (fun _ h => h) (fun u t H1 locs1 ht hvm hw hB hz1 hk1 hS => ?_)
  obtain ⟨hP1, hD1⟩ := hB
  rw [ht] at hP1
  exact kk u H1 locs1 hw ⟨hP1, hD1, hS⟩
theorem q_cSi {Q : Int32 → Mem → Prop} (C : Cx p s m args c cc nL own g) (w : Wd g lay N s.heap M H locs) (As : List Value) (hM : MI l y bc nB rt f L g lay N As M Q) (k : Ks y bc nB rt n) (hlk : Cond.methodLink own index y ∈ ALL) (hn : As.length = n) (hsz : ls.size = nL) (hW : (rest.map fun v => v.category).sum ≤ 8) (hR : f + 1 ≤ R.frames ∧ 8 + (nB + 11) + L ≤ R.locals) (hdg : decode cc pc = .ok (.invokestatic index, 3))
    (kk : ∀ (r : Int32) (M1 : Mem) (H1 : Heap) (locs1 : List Loc), Q r M1 → Wd g lay N s.heap M1 H1 locs1 → W p l e R s m args below meth c H1 locs1 0 0 Qs (F0 m (pc + 3) ls (.int r :: rest))) : W p l e R s m args below meth c H locs 0 0 Qs (F0 m pc ls (As.reverse ++ rest)) := by
  refine va_calli (va_runS (As := As) (rest := rest) C.1 hM (cs_of C k hlk hR) ⟨PreW.blind, fun U hU hW => PreW.of C w hU hW⟩ rfl hn hsz rfl (lv_room hW) hdg ⟨Nat.zero_le _, Nat.zero_le _⟩) w.2.2 (fun _ _ h => h) (fun _ h => h) (fun r u t H1 locs1 ht hvm hw hB hz1 hk1 hS => ?_)
  obtain ⟨hP1, hD1⟩ := hB
  rw [ht] at hP1
  exact kk r u H1 locs1 hw ⟨hP1, hD1, hS⟩
theorem q_cSl {Q : Int64 → Mem → Prop} (C : Cx p s m args c cc nL own g) (w : Wd g lay N s.heap M H locs) (As : List Value) (hM : ML l y bc nB rt f L g lay N As M Q) (k : Ks y bc nB rt n) (hlk : Cond.methodLink own index y ∈ ALL) (hn : As.length = n) (hsz : ls.size = nL) (hW : (rest.map fun v => v.category).sum ≤ 8) (hR : f + 1 ≤ R.frames ∧ 8 + (nB + 11) + L ≤ R.locals) (hdg : decode cc pc = .ok (.invokestatic index, 3))
    (kk : ∀ (r : Int64) (M1 : Mem) (H1 : Heap) (locs1 : List Loc), Q r M1 → Wd g lay N s.heap M1 H1 locs1 → W p l e R s m args below meth c H1 locs1 0 0 Qs (F0 m (pc + 3) ls (.long r :: rest))) : W p l e R s m args below meth c H locs 0 0 Qs (F0 m pc ls (As.reverse ++ rest)) := by
  refine va_calll (va_runS (As := As) (rest := rest) C.1 hM (cs_of C k hlk hR) ⟨PreW.blind, fun U hU hW => PreW.of C w hU hW⟩ rfl hn hsz rfl (lv_room hW) hdg ⟨Nat.zero_le _, Nat.zero_le _⟩) w.2.2 (fun _ _ h => h) (fun _ h => h) (fun r u t H1 locs1 ht hvm hw hB hz1 hk1 hS => ?_)
  obtain ⟨hP1, hD1⟩ := hB
  rw [ht] at hP1
  exact kk r u H1 locs1 hw ⟨hP1, hD1, hS⟩
theorem q_cSv {Q : Mem → Prop} (C : Cx p s m args c cc nL own g) (w : Wd g lay N s.heap M H locs) (As : List Value) (hM : MV l y bc nB rt f L g lay N As M Q) (k : Ks y bc nB rt n) (hlk : Cond.methodLink own index y ∈ ALL) (hn : As.length = n) (hsz : ls.size = nL) (hW : (rest.map fun v => v.category).sum ≤ 8) (hR : f + 1 ≤ R.frames ∧ 8 + (nB + 11) + L ≤ R.locals) (hdg : decode cc pc = .ok (.invokestatic index, 3))
    (kk : ∀ (M1 : Mem) (H1 : Heap) (locs1 : List Loc), Q M1 → Wd g lay N s.heap M1 H1 locs1 → W p l e R s m args below meth c H1 locs1 0 0 Qs (F0 m (pc + 3) ls rest)) : W p l e R s m args below meth c H locs 0 0 Qs (F0 m pc ls (As.reverse ++ rest)) := by
  refine va_callv (va_runS (As := As) (rest := rest) C.1 hM (cs_of C k hlk hR) ⟨PreW.blind, fun U hU hW => PreW.of C w hU hW⟩ rfl hn hsz rfl (lv_room hW) hdg ⟨Nat.zero_le _, Nat.zero_le _⟩) w.2.2 (fun _ _ h => h) (fun _ h => h) (fun u t H1 locs1 ht hvm hw hB hz1 hk1 hS => ?_)
  obtain ⟨hP1, hD1⟩ := hB
  rw [ht] at hP1
  exact kk u H1 locs1 hw ⟨hP1, hD1, hS⟩
theorem q_cSt {Q : Nat → Mem → Prop} (C : Cx p s m args c cc nL own g) (w : Wd g lay N s.heap M H locs) (As : List Value) (hM : MT l y bc nB rt f L g lay N As M Q) (k : Ks y bc nB rt n) (hlk : Cond.methodLink own index y ∈ ALL) (hn : As.length = n) (hsz : ls.size = nL) (hW : (rest.map fun v => v.category).sum ≤ 8) (hR : f + 1 ≤ R.frames ∧ 8 + (nB + 11) + L ≤ R.locals) (hdg : decode cc pc = .ok (.invokestatic index, 3))
    (kk : ∀ (i : Nat) (M1 : Mem) (H1 : Heap) (locs1 : List Loc), Q i M1 → Wd g lay N s.heap M1 H1 locs1 → W p l e R s m args below meth c H1 locs1 0 0 Qs (F0 m (pc + 3) ls (.ref (gK g i) :: rest))) : W p l e R s m args below meth c H locs 0 0 Qs (F0 m pc ls (As.reverse ++ rest)) := by
  refine va_callr (va_runS (As := As) (rest := rest) C.1 hM (cs_of C k hlk hR) ⟨PreW.blind, fun U hU hW => PreW.of C w hU hW⟩ rfl hn hsz rfl (lv_room hW) hdg ⟨Nat.zero_le _, Nat.zero_le _⟩) w.2.2 (fun _ _ h => h) (fun _ h => h) (fun u ra t H1 locs1 ht hvm hw hB hz1 hk1 hS => ?_)
  obtain ⟨rfl, hP1, hD1⟩ := hB
  rw [ht] at hP1
  exact kk u.1 u.2 H1 locs1 hw ⟨hP1, hD1, hS⟩
end BY
section BY2
variable {p : Program} {l : Launch} {e : Env} {R : Room} {s : State} {m : MethodId} {args : Array Value} {below : List Frame} {meth : Method} {c : Code} {H : Heap} {locs : List Loc} {Qs : State → Prop}
variable {cc : ByteArray} {pc nL : Nat} {ls : Array Slot} {rest : List Value} {own : String} {g : Gt} {lay : Nat → Lay} {N : Nat} {M : Mem}
variable {y : MethodName} {bc : ByteArray} {nB index n f L : Nat} {rt : Option FieldType} {Cn : String}
theorem q_pVi {b : Nat} {Q : Int32 → Prop} (C : Cx p s m args c cc nL own g) (w : Wd g lay N s.heap M H locs) (As : List Value) (hM : MI l y bc nB rt f L g lay N (.ref b :: As) M (fun r M1 => M1 = M ∧ Q r)) (k : Kv Cn y bc nB rt n) (hlk : Cond.methodLink own index y ∈ ALL) (hrc : ∃ cell : Cell, H[b]? = some cell ∧ cell.vm.isStatics = false ∧ s.vm.findClass Cn = some cell.cls) (hn : As.length = n) (hsz : ls.size = nL) (hW : (rest.map fun v => v.category).sum ≤ 8) (hR : f + 1 ≤ R.frames ∧ 8 + (nB + 11) + L ≤ R.locals) (hdg : decode cc pc = .ok (.invokevirtual index, 3))
    (kk : ∀ (r : Int32) (H1 : Heap) (locs1 : List Loc), Q r → Wd g lay N s.heap M H1 locs1 → W p l e R s m args below meth c H1 locs1 0 0 Qs (F0 m (pc + 3) ls (.int r :: rest))) : W p l e R s m args below meth c H locs 0 0 Qs (F0 m pc ls (As.reverse ++ .ref b :: rest)) :=
  q_cVi C w As hM k hlk hrc hn hsz hW hR hdg (fun r M1 H1 locs1 hq w => by
    obtain ⟨e, hq⟩ := hq
    rw [e] at w
    exact kk r H1 locs1 hq w)
theorem q_pSi {Q : Int32 → Prop} (C : Cx p s m args c cc nL own g) (w : Wd g lay N s.heap M H locs) (As : List Value) (hM : MI l y bc nB rt f L g lay N As M (fun r M1 => M1 = M ∧ Q r)) (k : Ks y bc nB rt n) (hlk : Cond.methodLink own index y ∈ ALL) (hn : As.length = n) (hsz : ls.size = nL) (hW : (rest.map fun v => v.category).sum ≤ 8) (hR : f + 1 ≤ R.frames ∧ 8 + (nB + 11) + L ≤ R.locals) (hdg : decode cc pc = .ok (.invokestatic index, 3))
    (kk : ∀ (r : Int32) (H1 : Heap) (locs1 : List Loc), Q r → Wd g lay N s.heap M H1 locs1 → W p l e R s m args below meth c H1 locs1 0 0 Qs (F0 m (pc + 3) ls (.int r :: rest))) : W p l e R s m args below meth c H locs 0 0 Qs (F0 m pc ls (As.reverse ++ rest)) :=
  q_cSi C w As hM k hlk hn hsz hW hR hdg (fun r M1 H1 locs1 hq w => by
    obtain ⟨e, hq⟩ := hq
    rw [e] at w
    exact kk r H1 locs1 hq w)
theorem q_pSl {Q : Int64 → Prop} (C : Cx p s m args c cc nL own g) (w : Wd g lay N s.heap M H locs) (As : List Value) (hM : ML l y bc nB rt f L g lay N As M (fun r M1 => M1 = M ∧ Q r)) (k : Ks y bc nB rt n) (hlk : Cond.methodLink own index y ∈ ALL) (hn : As.length = n) (hsz : ls.size = nL) (hW : (rest.map fun v => v.category).sum ≤ 8) (hR : f + 1 ≤ R.frames ∧ 8 + (nB + 11) + L ≤ R.locals) (hdg : decode cc pc = .ok (.invokestatic index, 3))
    (kk : ∀ (r : Int64) (H1 : Heap) (locs1 : List Loc), Q r → Wd g lay N s.heap M H1 locs1 → W p l e R s m args below meth c H1 locs1 0 0 Qs (F0 m (pc + 3) ls (.long r :: rest))) : W p l e R s m args below meth c H locs 0 0 Qs (F0 m pc ls (As.reverse ++ rest)) :=
  q_cSl C w As hM k hlk hn hsz hW hR hdg (fun r M1 H1 locs1 hq w => by
    obtain ⟨e, hq⟩ := hq
    rw [e] at w
    exact kk r H1 locs1 hq w)
theorem q_pSt {Q : Nat → Prop} (C : Cx p s m args c cc nL own g) (w : Wd g lay N s.heap M H locs) (As : List Value) (hM : MT l y bc nB rt f L g lay N As M (fun r M1 => M1 = M ∧ Q r)) (k : Ks y bc nB rt n) (hlk : Cond.methodLink own index y ∈ ALL) (hn : As.length = n) (hsz : ls.size = nL) (hW : (rest.map fun v => v.category).sum ≤ 8) (hR : f + 1 ≤ R.frames ∧ 8 + (nB + 11) + L ≤ R.locals) (hdg : decode cc pc = .ok (.invokestatic index, 3))
    (kk : ∀ (r : Nat) (H1 : Heap) (locs1 : List Loc), Q r → Wd g lay N s.heap M H1 locs1 → W p l e R s m args below meth c H1 locs1 0 0 Qs (F0 m (pc + 3) ls (.ref (gK g r) :: rest))) : W p l e R s m args below meth c H locs 0 0 Qs (F0 m pc ls (As.reverse ++ rest)) :=
  q_cSt C w As hM k hlk hn hsz hW hR hdg (fun r M1 H1 locs1 hq w => by
    obtain ⟨e, hq⟩ := hq
    rw [e] at w
    exact kk r H1 locs1 hq w)
end BY2
