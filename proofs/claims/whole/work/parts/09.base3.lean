def irm (x y : Int32) : Int32 := x - x / y * y
def lrm (x y : Int64) : Int64 := x - x / y * y
def sl (x y : Int32) : Int32 := x <<< (y &&& 31)
def sr (x y : Int32) : Int32 := x >>> (y &&& 31)
def su (x y : Int32) : Int32 := (x.toUInt32 >>> (y.toUInt32 &&& Int32.toUInt32 31)).toInt32
section BZ
variable {p : Program} {l : Launch} {e : Env} {R : Room} {s : State} {m : MethodId} {args : Array Value} {below : List Frame} {meth : Method} {c : Code} {H : Heap} {locs : List Loc} {Qs : State → Prop}
variable {cc : ByteArray} {pc nL index : Nat} {ls : Array Slot} {rest : List Value} {own : String} {g : Gt} {lay : Nat → Lay} {N : Nat} {M : Mem}
theorem q_gsT (C : Cx p s m args c cc nL own g) (w : Wd g lay N s.heap M H locs) (hlk : Cond.fieldLink own index RX0 "TAKES_BY_KIND" "[I" ∈ ALL) (hdg : decode cc pc = .ok (.getstatic index, 3))
    (kk : W p l e R s m args below meth c H locs 0 0 Qs (F0 m (pc + 3) ls (.ref (gT g).1 :: rest))) : W p l e R s m args below meth c H locs 0 0 Qs (F0 m pc ls rest) :=
  va_gets C.1.1 C.1.2.1 C.2.2.1.1 w.2.2 C.1.2.2.2.1 (C.1.2.2.2.2 _ hlk) (fun _ h => h) hdg kk
theorem q_gsN (C : Cx p s m args c cc nL own g) (w : Wd g lay N s.heap M H locs) (hlk : Cond.fieldLink own index RX0 "NOISE_BY_KIND" "[I" ∈ ALL) (hdg : decode cc pc = .ok (.getstatic index, 3))
    (kk : W p l e R s m args below meth c H locs 0 0 Qs (F0 m (pc + 3) ls (.ref (gT g).2 :: rest))) : W p l e R s m args below meth c H locs 0 0 Qs (F0 m pc ls rest) :=
  va_gets C.1.1 C.1.2.1 C.2.2.1.2.2.1 w.2.2 C.1.2.2.2.1 (C.1.2.2.2.2 _ hlk) (fun _ h => h) hdg kk
theorem q_ldT (C : Cx p s m args c cc nL own g) (w : Wd g lay N s.heap M H locs) {i : Int32} (hin : vp_in i 4) (hdg : decode cc pc = .ok (.iaload, 1))
    (kk : W p l e R s m args below meth c H locs 0 0 Qs (F0 m (pc + 1) ls (.int (takesT i.toNatClampNeg) :: rest))) : W p l e R s m args below meth c H locs 0 0 Qs (F0 m pc ls (.int i :: .ref (gT g).1 :: rest)) :=
  va_ti C.1.1 C.1.2.1 C.2.2.1.2.1 w.2.2 hin rfl hdg kk
theorem q_ldN (C : Cx p s m args c cc nL own g) (w : Wd g lay N s.heap M H locs) {i : Int32} (hin : vp_in i 4) (hdg : decode cc pc = .ok (.iaload, 1))
    (kk : W p l e R s m args below meth c H locs 0 0 Qs (F0 m (pc + 1) ls (.int (noiseT i.toNatClampNeg) :: rest))) : W p l e R s m args below meth c H locs 0 0 Qs (F0 m pc ls (.int i :: .ref (gT g).2 :: rest)) :=
  va_ti C.1.1 C.1.2.1 C.2.2.1.2.2.2.1 w.2.2 hin rfl hdg kk
/-- a text constant, by its place -/
theorem q_ldS (C : Cx p s m args c cc nL own g) {i : Nat} {tx : String} (hZ : vk_R own index tx (gK g i) s) (hdg : decode cc pc = .ok (.ldc index, 2))
    (kk : W p l e R s m args below meth c H locs 0 0 Qs (F0 m (pc + 2) ls (.ref (gK g i) :: rest))) : W p l e R s m args below meth c H locs 0 0 Qs (F0 m pc ls rest) :=
  va_ldcS C.1.1 C.1.2.1 C.1.2.2.2.1 hZ hdg kk
theorem q_ldc (C : Cx p s m args c cc nL own g) {v : Int32} (hk : Cond.constant own index v ∈ ALL) (hdg : decode cc pc = .ok (.ldc index, 2))
    (kk : W p l e R s m args below meth c H locs 0 0 Qs (F0 m (pc + 2) ls (.int v :: rest))) : W p l e R s m args below meth c H locs 0 0 Qs (F0 m pc ls rest) :=
  lv_ldc C.1.1 C.1.2.1 C.1.2.2.2.1 (C.1.2.2.2.2 _ hk) hdg kk
theorem q_ldcw (C : Cx p s m args c cc nL own g) {v : Int32} (hk : Cond.constant own index v ∈ ALL) (hdg : decode cc pc = .ok (.ldc_w index, 3))
    (kk : W p l e R s m args below meth c H locs 0 0 Qs (F0 m (pc + 3) ls (.int v :: rest))) : W p l e R s m args below meth c H locs 0 0 Qs (F0 m pc ls rest) :=
  lv_ldcw C.1.1 C.1.2.1 C.1.2.2.2.1 (C.1.2.2.2.2 _ hk) hdg kk
theorem q_ldc2 (C : Cx p s m args c cc nL own g) {v : Int64} (hk : Cond.constantLong own index v ∈ ALL) (hdg : decode cc pc = .ok (.ldc2_w index, 3))
    (kk : W p l e R s m args below meth c H locs 0 0 Qs (F0 m (pc + 3) ls (.long v :: rest))) : W p l e R s m args below meth c H locs 0 0 Qs (F0 m pc ls rest) :=
  lv_ldc2 C.1.1 C.1.2.1 C.1.2.2.2.1 (C.1.2.2.2.2 _ hk) hdg kk
def kMin : Prop := Cond.static Lib.Math.min.name ∈ ALL ∧ Cond.initialized "java/lang/Math" ∈ ALL ∧ Cond.code Lib.Math.min.name Lib.Math.min.code 2 (some .int) ∈ ALL
def kMax : Prop := Cond.static Lib.Math.max.name ∈ ALL ∧ Cond.initialized "java/lang/Math" ∈ ALL ∧ Cond.code Lib.Math.max.name Lib.Math.max.code 2 (some .int) ∈ ALL
theorem q_min (C : Cx p s m args c cc nL own g) (k : kMin) (hlk : Cond.methodLink own index Lib.Math.min.name ∈ ALL) (hsz : ls.size = nL) {x y : Int32} (hR : 1 ≤ R.frames ∧ (rest.map fun v => v.category).sum + 13 ≤ R.locals) (hdg : decode cc pc = .ok (.invokestatic index, 3))
    (kk : W p l e R s m args below meth c H locs 0 0 Qs (F0 m (pc + 3) ls (.int (if y < x then y else x) :: rest))) : W p l e R s m args below meth c H locs 0 0 Qs (F0 m pc ls (.int y :: .int x :: rest)) :=
  va_mmin C.1.1 C.1.2.1 (C.1.2.2.1.trans hsz.symm) C.1.2.2.2.1 (C.1.2.2.2.2 _ hlk) (C.1.2.2.2.2 _ k.1) (C.1.2.2.2.2 _ k.2.1) (C.1.2.2.2.2 _ k.2.2) hR.1 hR.2 (Nat.zero_le _) (Nat.zero_le _) hdg kk
theorem q_max (C : Cx p s m args c cc nL own g) (k : kMax) (hlk : Cond.methodLink own index Lib.Math.max.name ∈ ALL) (hsz : ls.size = nL) {x y : Int32} (hR : 1 ≤ R.frames ∧ (rest.map fun v => v.category).sum + 13 ≤ R.locals) (hdg : decode cc pc = .ok (.invokestatic index, 3))
    (kk : W p l e R s m args below meth c H locs 0 0 Qs (F0 m (pc + 3) ls (.int (if x < y then y else x) :: rest))) : W p l e R s m args below meth c H locs 0 0 Qs (F0 m pc ls (.int y :: .int x :: rest)) :=
  va_mmax C.1.1 C.1.2.1 (C.1.2.2.1.trans hsz.symm) C.1.2.2.2.1 (C.1.2.2.2.2 _ hlk) (C.1.2.2.2.2 _ k.1) (C.1.2.2.2.2 _ k.2.1) (C.1.2.2.2.2 _ k.2.2) hR.1 hR.2 (Nat.zero_le _) (Nat.zero_le _) hdg kk
def kCopy : Prop := Cond.native arraycopyName ∈ ALL ∧ Cond.static arraycopyName ∈ ALL ∧ Cond.initialized "java/lang/System" ∈ ALL
/-- what arraycopy wants of its numbers -/
def cpOk (sp dp n : Int32) (n0 n1 : Nat) : Prop := ¬ sp < 0 ∧ ¬ dp < 0 ∧ ¬ n < 0 ∧ sp.toNatClampNeg + n.toNatClampNeg ≤ n0 ∧ dp.toNatClampNeg + n.toNatClampNeg ≤ n1
def mc (M : Mem) (o0 : Nat) (sp : Int32) (o1 : Nat) (dp n : Int32) : Mem := mr M o1 (va_cpy (M o0) (M o1) sp.toNatClampNeg dp.toNatClampNeg n.toNatClampNeg)
theorem q_copy (C : Cx p s m args c cc nL own g) (w : Wd g lay N s.heap M H locs) (k : kCopy) (hlk : Cond.methodLink own index arraycopyName ∈ ALL) (hsz : ls.size = nL) {o0 o1 n0 n1 : Nat} {sp dp n : Int32} (ho0 : o0 < N) (hl0 : lay o0 = .inr (.inl (0, n0))) (ho1 : o1 < N) (hl1 : lay o1 = .inr (.inl (0, n1))) (hok : cpOk sp dp n n0 n1) (hR : 1 ≤ R.frames ∧ (rest.map fun v => v.category).sum + (nativeFrameWords "java/lang/System" "arraycopy" 5 + 11) ≤ R.locals) (hdg : decode cc pc = .ok (.invokestatic index, 3))
    (kk : ∀ (M1 : Mem) (H1 : Heap) (locs1 : List Loc), M1 = mc M o0 sp o1 dp n → Wd g lay N s.heap M1 H1 locs1 → W p l e R s m args below meth c H1 locs1 0 0 Qs (F0 m (pc + 3) ls rest)) : W p l e R s m args below meth c H locs 0 0 Qs (F0 m pc ls (.int n :: .int dp :: .ref (ga g o1) :: .int sp :: .ref (ga g o0) :: rest)) := by
  have he0 := wsOf_get (cA := gC g) (ad := ga g) (lay := lay) (M := M) ho0
  rw [hl0] at he0
  have he1 := wsOf_get (cA := gC g) (ad := ga g) (lay := lay) (M := M) ho1
  rw [hl1] at he1
  obtain ⟨h1, h2, h3, h4, h5⟩ := hok
  refine va_copyi C.1.1 C.1.2.1 (C.1.2.2.1.trans hsz.symm) C.1.2.2.2.1 (C.1.2.2.2.2 _ hlk) (C.1.2.2.2.2 _ k.1) (C.1.2.2.2.2 _ k.2.1) (C.1.2.2.2.2 _ k.2.2) C.2.1 w.1 w.2.1 w.2.2 o0 o1 0 0 he0 he1 (ty := .int) rfl rfl rfl h1 h2 h3 h4 h5 (fun _ _ => rfl) hR.1 hR.2 hdg (fun H1 locs1 hP hD hS => kk _ H1 locs1 rfl ?_)
  have e : (ga g o1, (.inl (gC g 0, n1, .inl (va_cpy (M o0) (M o1) sp.toNatClampNeg dp.toNatClampNeg n.toNatClampNeg)) : va_E)) = (ga g o1, cellOf (gC g) (ga g) (lay o1) (va_cpy (M o0) (M o1) sp.toNatClampNeg dp.toNatClampNeg n.toNatClampNeg)) := by
    rw [hl1]
    rfl
  rw [e, wsOf_set] at hP hD
  exact ⟨hP, hD, hS⟩
/-! arithmetic under names of its own -/
theorem q_irem (C : Cx p s m args c cc nL own g) {x y : Int32} (hdg : decode cc pc = .ok (.irem, 1)) (hne : ¬ y = 0) (kk : W p l e R s m args below meth c H locs 0 0 Qs (F0 m (pc + 1) ls (.int (irm x y) :: rest))) : W p l e R s m args below meth c H locs 0 0 Qs (F0 m pc ls (.int y :: .int x :: rest)) := lv_irem C.1.1 C.1.2.1 hdg hne kk
theorem q_lrem (C : Cx p s m args c cc nL own g) {x y : Int64} (hdg : decode cc pc = .ok (.lrem, 1)) (hne : ¬ y = 0) (kk : W p l e R s m args below meth c H locs 0 0 Qs (F0 m (pc + 1) ls (.long (lrm x y) :: rest))) : W p l e R s m args below meth c H locs 0 0 Qs (F0 m pc ls (.long y :: .long x :: rest)) := lv_lrem C.1.1 C.1.2.1 hdg hne kk
theorem q_ishl (C : Cx p s m args c cc nL own g) {x y : Int32} (hdg : decode cc pc = .ok (.ishl, 1)) (kk : W p l e R s m args below meth c H locs 0 0 Qs (F0 m (pc + 1) ls (.int (sl x y) :: rest))) : W p l e R s m args below meth c H locs 0 0 Qs (F0 m pc ls (.int y :: .int x :: rest)) := lv_ishl C.1.1 C.1.2.1 hdg kk
theorem q_ishr (C : Cx p s m args c cc nL own g) {x y : Int32} (hdg : decode cc pc = .ok (.ishr, 1)) (kk : W p l e R s m args below meth c H locs 0 0 Qs (F0 m (pc + 1) ls (.int (sr x y) :: rest))) : W p l e R s m args below meth c H locs 0 0 Qs (F0 m pc ls (.int y :: .int x :: rest)) := lv_ishr C.1.1 C.1.2.1 hdg kk
theorem q_iushr (C : Cx p s m args c cc nL own g) {x y : Int32} (hdg : decode cc pc = .ok (.iushr, 1)) (kk : W p l e R s m args below meth c H locs 0 0 Qs (F0 m (pc + 1) ls (.int (su x y) :: rest))) : W p l e R s m args below meth c H locs 0 0 Qs (F0 m pc ls (.int y :: .int x :: rest)) := lv_iushr C.1.1 C.1.2.1 hdg rfl kk
/-- a switch by a table: one of its numbers -/
theorem q_tin (C : Cx p s m args c cc nL own g) {dflt lo hi : Int} {offs : Array Int} {len : Nat} {x k : Int32} {off : Int} {tgt : Nat} (hdg : decode cc pc = .ok (.tableswitch dflt lo hi offs, len)) (hx : x = k) (h1 : ¬ k.toInt < lo) (h2 : ¬ hi < k.toInt) (ho : offs[(k.toInt - lo).toNat]? = some off) (ht : (pc : Int) + off = (tgt : Int)) (kk : W p l e R s m args below meth c H locs 0 0 Qs (F0 m tgt ls rest)) : W p l e R s m args below meth c H locs 0 0 Qs (F0 m pc ls (.int x :: rest)) := by
  subst hx
  exact lv_tableIn C.1.1 C.1.2.1 hdg h1 h2 ho ht kk
theorem q_tout (C : Cx p s m args c cc nL own g) {dflt lo hi : Int} {offs : Array Int} {len : Nat} {x : Int32} {tgt : Nat} (hdg : decode cc pc = .ok (.tableswitch dflt lo hi offs, len)) (h : x.toInt < lo ∨ hi < x.toInt) (ht : (pc : Int) + dflt = (tgt : Int)) (kk : W p l e R s m args below meth c H locs 0 0 Qs (F0 m tgt ls rest)) : W p l e R s m args below meth c H locs 0 0 Qs (F0 m pc ls (.int x :: rest)) := lv_tableOut C.1.1 C.1.2.1 hdg h ht kk
theorem q_lin (C : Cx p s m args c cc nL own g) {dflt : Int} {ps : Array (Int × Int)} {len : Nat} {x k : Int32} {off : Int} {tgt : Nat} (hdg : decode cc pc = .ok (.lookupswitch dflt ps, len)) (hp : (ps.toList.zip (ps.toList.drop 1)).all (fun (a, next) => a.1 < next.1) = true) (hx : x = k) (ho : Op.lookupswitch.offset ps.toList dflt k.toInt = off) (ht : (pc : Int) + off = (tgt : Int)) (kk : W p l e R s m args below meth c H locs 0 0 Qs (F0 m tgt ls rest)) : W p l e R s m args below meth c H locs 0 0 Qs (F0 m pc ls (.int x :: rest)) := by
  subst hx
  exact lv_lookup C.1.1 C.1.2.1 hdg hp ho ht kk
theorem q_lout (C : Cx p s m args c cc nL own g) {dflt : Int} {ps : Array (Int × Int)} {len : Nat} {x : Int32} {off : Int} {tgt : Nat} (hdg : decode cc pc = .ok (.lookupswitch dflt ps, len)) (hp : (ps.toList.zip (ps.toList.drop 1)).all (fun (a, next) => a.1 < next.1) = true) (ho : Op.lookupswitch.offset ps.toList dflt x.toInt = off) (ht : (pc : Int) + off = (tgt : Int)) (kk : W p l e R s m args below meth c H locs 0 0 Qs (F0 m tgt ls rest)) : W p l e R s m args below meth c H locs 0 0 Qs (F0 m pc ls (.int x :: rest)) := lv_lookup C.1.1 C.1.2.1 hdg hp ho ht kk
end BZ
/-! loops, by a bound on their rounds -/
def fu1 {A1 : Type} (F : (A1 → Prop) → A1 → Prop) : Nat → A1 → Prop
  | 0, _ => False
  | n + 1, a1 => F (fu1 F n) a1
def fu2 {A1 A2 : Type} (F : (A1 → A2 → Prop) → A1 → A2 → Prop) : Nat → A1 → A2 → Prop
  | 0, _, _ => False
  | n + 1, a1, a2 => F (fu2 F n) a1 a2
def fu3 {A1 A2 A3 : Type} (F : (A1 → A2 → A3 → Prop) → A1 → A2 → A3 → Prop) : Nat → A1 → A2 → A3 → Prop
  | 0, _, _, _ => False
  | n + 1, a1, a2, a3 => F (fu3 F n) a1 a2 a3
def fu4 {A1 A2 A3 A4 : Type} (F : (A1 → A2 → A3 → A4 → Prop) → A1 → A2 → A3 → A4 → Prop) : Nat → A1 → A2 → A3 → A4 → Prop
  | 0, _, _, _, _ => False
  | n + 1, a1, a2, a3, a4 => F (fu4 F n) a1 a2 a3 a4
def fu5 {A1 A2 A3 A4 A5 : Type} (F : (A1 → A2 → A3 → A4 → A5 → Prop) → A1 → A2 → A3 → A4 → A5 → Prop) : Nat → A1 → A2 → A3 → A4 → A5 → Prop
  | 0, _, _, _, _, _ => False
  | n + 1, a1, a2, a3, a4, a5 => F (fu5 F n) a1 a2 a3 a4 a5
def fu6 {A1 A2 A3 A4 A5 A6 : Type} (F : (A1 → A2 → A3 → A4 → A5 → A6 → Prop) → A1 → A2 → A3 → A4 → A5 → A6 → Prop) : Nat → A1 → A2 → A3 → A4 → A5 → A6 → Prop
  | 0, _, _, _, _, _, _ => False
  | n + 1, a1, a2, a3, a4, a5, a6 => F (fu6 F n) a1 a2 a3 a4 a5 a6
def fu7 {A1 A2 A3 A4 A5 A6 A7 : Type} (F : (A1 → A2 → A3 → A4 → A5 → A6 → A7 → Prop) → A1 → A2 → A3 → A4 → A5 → A6 → A7 → Prop) : Nat → A1 → A2 → A3 → A4 → A5 → A6 → A7 → Prop
  | 0, _, _, _, _, _, _, _ => False
  | n + 1, a1, a2, a3, a4, a5, a6, a7 => F (fu7 F n) a1 a2 a3 a4 a5 a6 a7
def fu8 {A1 A2 A3 A4 A5 A6 A7 A8 : Type} (F : (A1 → A2 → A3 → A4 → A5 → A6 → A7 → A8 → Prop) → A1 → A2 → A3 → A4 → A5 → A6 → A7 → A8 → Prop) : Nat → A1 → A2 → A3 → A4 → A5 → A6 → A7 → A8 → Prop
  | 0, _, _, _, _, _, _, _, _ => False
  | n + 1, a1, a2, a3, a4, a5, a6, a7, a8 => F (fu8 F n) a1 a2 a3 a4 a5 a6 a7 a8
