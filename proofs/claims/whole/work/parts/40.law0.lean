/-! THE CLAIM OUT OF ONE WALK OF THE LAW'S BODY. Your part is whole_start (and what it stands on); all else here is the same for every law, but numbers. -/
def R_law : String := "EveningPoachLaw"
def lw_P (b : Addr) (xs : List Int32) (args : Array Value) (s : State) : Prop := args = #[.ref b] ∧ s.IntsAt b xs ∧ xs.length ≤ 320 ∧ (Jvm.Cond.and given_1 narrow_1).before args s = true
def lw_Q (_ : Array Value) (s : State) (o : Outcome) (t : State) : Prop := o = .returned (some (.int 1)) ∧ Framed s o t [] 600000 7302250
def lw_Z (below : List Frame) (a : Array Value) (s : State) : State → Prop := fun t => ∃ o, t.status = .running ∧ Ended t below o ∧ lw_Q a s o t
/-- the law's own end, with 1 on the stack, nothing written that was there before, its room as the claim has it -/
theorem lw_ret {p : Program} {l : Launch} {e : Env} {s : State} {m : MethodId} {below : List Frame} {meth : Method} {c : Code} {b : Nat} (hx : p.tables.exec = Jvm.exec) (hb : c.code = code) (hr : meth.sig.returnType = ret) (hlocks : meth.locks = false) {pc : Nat} {H : Heap} {ls : Array Slot} (hdg : decode code pc = .ok (.ireturn, 1)) : W p l e room_1 s m #[Value.ref b] below meth c H [] 600000 7302250 (lw_Z below #[Value.ref b] s) (F0 m pc ls [.int 1]) := by
  intro T hT X
  obtain ⟨fs, hret, hrun, hended, hW, hframe⟩ := X.leave (v := some (.int 1)) (hlocks := hlocks) (fun h => by rw [hr] at h; cases h)
  have hmeth' : T.vm.method? m = some meth := X.method'
  refine ⟨T.setFrames fs, ?_, .returned (some (.int 1)), hrun, hended, rfl, ⟨_, rfl⟩, hW, hframe⟩
  jvm_step X.here [X.here.top, hx, hb, hdg, hmeth', hr, ret, narrow_b1]
  (try refine ⟨rfl, ?_⟩); (try refine ⟨rfl, ?_⟩)
  first | (intro acts; rw [hret _ acts rfl rfl rfl]) | rw [hret _ _ rfl rfl rfl]
  exact Steps.refl _
/-- what holds at the law's entry: the machine, the code, the tables' words (any of lw_tbl by 'hts w (by decide +kernel)'), the script of L ints xs at the cell b, what the Statement gives of the start (any of its parts by flat_of_before) -/
def lw_At (p : Program) (s : State) (m : MethodId) (meth : Method) (c : Code) (b L : Nat) (xs : Nat → Int32) : Prop :=
  p.tables.exec = Jvm.exec ∧ c.code = code ∧ meth.sig.returnType = ret ∧ c.maxLocals = 4 ∧ s.vm.findClass R_law = some m.cls ∧ (∀ w ∈ lw_tbl, w.before #[Value.ref b] s = true) ∧ va_X b L xs s s.heap ∧ b < s.heap.size ∧ meth.locks = false ∧ (Jvm.Cond.and given_1 narrow_1).before #[Value.ref b] s = true
/-! the law: both worlds in one heap -/
def LW (s : State) (gX gM : Gt) (X M : Mem) (H : Heap) (locs : List Loc) : Prop := va_P (gD gX) vwCl (wsOf (gC gX) (ga gX) layX 68 X) H ∧ va_D (gF gX) (wsOf (gC gX) (ga gX) layX 68 X) ∧ va_P (gD gM) vwCl (wsOf (gC gM) (ga gM) layM 12 M) H ∧ va_D (gF gM) (wsOf (gC gM) (ga gM) layM 12 M) ∧ va_S (fun q => s.heap.size ≤ q) s.heap H locs
def LC (p : Program) (s : State) (m : MethodId) (c : Code) (b L : Nat) (xs : Nat → Int32) (gX gM : Gt) : Prop := Cx p s m #[Value.ref b] c cL_law 4 RL gX ∧ Cx p s m #[Value.ref b] c cL_law 4 RL gM ∧ va_X b L xs s s.heap ∧ b < s.heap.size ∧ (∀ q, gF gX q → s.heap.size ≤ q) ∧ (∀ q, gF gM q → s.heap.size ≤ q) ∧ (∀ q, gF gX q → ¬ gF gM q)
theorem lg_self (x : Int64) : lg_cmp x x = 0 := by simp [lg_cmp]
theorem lin {i L : Nat} (hL : L ≤ 320) (hi : i + 5 ≤ L) (k : Nat) (hk : k < 5) : vp_in (nI i + nI k) L := by
  rw [nI_add]
  exact vp_in_nI (by omega) (by omega)
theorem wsX0 (g : Gt) (X : Mem) : (wsOf (gC g) (ga g) layX 68 X)[0]? = some (ga g 0, .inr (7, fvs (ga g) (X 0) [some 1, some 11, some 24, some 22, some 25, some 29, some 37, some 38, some 39, none, none])) := by
  rw [wsOf_get (by omega), lx_0]
  rfl
theorem wsM0 (g : Gt) (M : Mem) : (wsOf (gC g) (ga g) layM 12 M)[0]? = some (ga g 0, .inr (8, fvs (ga g) (M 0) [some 1, none, some 2, none, none, some 3, none, none, none, none, none, none, none, none, some 4, some 5, none, none, none, none, some 6, none, some 7, some 8, some 9, some 10, some 11, none])) := by
  rw [wsOf_get (by omega), lm_0]
  rfl
section LY
variable {p : Program} {l : Launch} {e : Env} {R : Room} {s : State} {m : MethodId} {args : Array Value} {below : List Frame} {meth : Method} {c : Code} {H : Heap} {locs : List Loc} {Qs : State → Prop} {cells slots : Nat}
variable {cc : ByteArray} {pc nL : Nat} {ls : Array Slot} {rest : List Value} {own : String} {g : Gt} {lay : Nat → Lay} {N : Nat} {M : Mem}
variable {y : MethodName} {bc : ByteArray} {nB index n f L : Nat} {rt : Option FieldType} {Cn : String}
theorem y_calli {b : Nat} {Q : Int32 → Mem → Prop} (C : Cx p s m args c cc nL own g) (hP : va_P (gD g) vwCl (wsOf (gC g) (ga g) lay N M) H) (hD : va_D (gF g) (wsOf (gC g) (ga g) lay N M)) (hS : va_S (fun q => s.heap.size ≤ q) s.heap H locs) (hF : ∀ q, gF g q → s.heap.size ≤ q) (As : List Value) (hM : MI l y bc nB rt f L g lay N (.ref b :: As) M Q) (k : Kv Cn y bc nB rt n) (hlk : Cond.methodLink own index y ∈ ALL) (hrc : ∃ cell : Cell, H[b]? = some cell ∧ cell.vm.isStatics = false ∧ s.vm.findClass Cn = some cell.cls) (hn : As.length = n) (hsz : ls.size = nL) (hW : (rest.map fun v => v.category).sum ≤ 8) (hR : f + 1 ≤ R.frames ∧ 8 + (nB + 11) + L ≤ R.locals) (hR2 : cells ≤ R.cells ∧ slots ≤ R.slots) (hdg : decode cc pc = .ok (.invokevirtual index, 3))
    (kk : ∀ (r : Int32) (M1 : Mem) (H1 : Heap) (locs1 : List Loc), Q r M1 → va_P (gD g) vwCl (wsOf (gC g) (ga g) lay N M1) H1 → va_D (gF g) (wsOf (gC g) (ga g) lay N M1) → (∀ q : Nat, q < H.size → ¬ gF g q → H1[q]? = H[q]?) → va_S (fun q => s.heap.size ≤ q) s.heap H1 locs1 → W p l e R s m args below meth c H1 locs1 cells slots Qs (F0 m (pc + 3) ls (.int r :: rest))) : W p l e R s m args below meth c H locs cells slots Qs (F0 m pc ls (As.reverse ++ .ref b :: rest)) := by
  refine va_calli (va_runV (As := As) (rest := rest) C.1 hM (cv_of C k hlk hR) ⟨PreW.blind, hrc, fun U hU hW => ⟨rfl, by rw [hU]; exact hP, hD, va_K.moved hW.alike C.2.1, by
    rw [hU]
    exact (C.2.2.1.kept (fun a h1 h2 => hS.2.1 a h1 (Nat.not_le.mpr h1))).moved hW.alike, C.2.2.2.warm hW⟩⟩ rfl hn hsz rfl (lv_room hW) hdg hR2) hS (fun q _ h => hF q h) hF (fun r u t H1 locs1 ht hvm hw hB hz1 hk1 hS => ?_)
  obtain ⟨hP1, hD1⟩ := hB
  rw [ht] at hP1
  exact kk r u H1 locs1 hw hP1 hD1 hk1 hS
theorem y_calll {b : Nat} {Q : Int64 → Mem → Prop} (C : Cx p s m args c cc nL own g) (hP : va_P (gD g) vwCl (wsOf (gC g) (ga g) lay N M) H) (hD : va_D (gF g) (wsOf (gC g) (ga g) lay N M)) (hS : va_S (fun q => s.heap.size ≤ q) s.heap H locs) (hF : ∀ q, gF g q → s.heap.size ≤ q) (As : List Value) (hM : ML l y bc nB rt f L g lay N (.ref b :: As) M Q) (k : Kv Cn y bc nB rt n) (hlk : Cond.methodLink own index y ∈ ALL) (hrc : ∃ cell : Cell, H[b]? = some cell ∧ cell.vm.isStatics = false ∧ s.vm.findClass Cn = some cell.cls) (hn : As.length = n) (hsz : ls.size = nL) (hW : (rest.map fun v => v.category).sum ≤ 8) (hR : f + 1 ≤ R.frames ∧ 8 + (nB + 11) + L ≤ R.locals) (hR2 : cells ≤ R.cells ∧ slots ≤ R.slots) (hdg : decode cc pc = .ok (.invokevirtual index, 3))
    (kk : ∀ (r : Int64) (M1 : Mem) (H1 : Heap) (locs1 : List Loc), Q r M1 → va_P (gD g) vwCl (wsOf (gC g) (ga g) lay N M1) H1 → va_D (gF g) (wsOf (gC g) (ga g) lay N M1) → (∀ q : Nat, q < H.size → ¬ gF g q → H1[q]? = H[q]?) → va_S (fun q => s.heap.size ≤ q) s.heap H1 locs1 → W p l e R s m args below meth c H1 locs1 cells slots Qs (F0 m (pc + 3) ls (.long r :: rest))) : W p l e R s m args below meth c H locs cells slots Qs (F0 m pc ls (As.reverse ++ .ref b :: rest)) := by
  refine va_calll (va_runV (As := As) (rest := rest) C.1 hM (cv_of C k hlk hR) ⟨PreW.blind, hrc, fun U hU hW => ⟨rfl, by rw [hU]; exact hP, hD, va_K.moved hW.alike C.2.1, by
    rw [hU]
    exact (C.2.2.1.kept (fun a h1 h2 => hS.2.1 a h1 (Nat.not_le.mpr h1))).moved hW.alike, C.2.2.2.warm hW⟩⟩ rfl hn hsz rfl (lv_room hW) hdg hR2) hS (fun q _ h => hF q h) hF (fun r u t H1 locs1 ht hvm hw hB hz1 hk1 hS => ?_)
  obtain ⟨hP1, hD1⟩ := hB
  rw [ht] at hP1
  exact kk r u H1 locs1 hw hP1 hD1 hk1 hS
end LY
theorem LW.stepX {p : Program} {s : State} {m : MethodId} {c : Code} {b L : Nat} {xs : Nat → Int32} {gX gM : Gt} {X X1 M : Mem} {H H1 : Heap} {locs locs1 : List Loc} (C : LC p s m c b L xs gX gM) (w : LW s gX gM X M H locs) (hP1 : va_P (gD gX) vwCl (wsOf (gC gX) (ga gX) layX 68 X1) H1) (hD1 : va_D (gF gX) (wsOf (gC gX) (ga gX) layX 68 X1)) (hk : ∀ q : Nat, q < H.size → ¬ gF gX q → H1[q]? = H[q]?) (hS1 : va_S (fun q => s.heap.size ≤ q) s.heap H1 locs1) : LW s gX gM X1 M H1 locs1 :=
  ⟨hP1, hD1, fun k q hq => (w.2.2.1 k q hq).kept (hk q.1 (w.2.2.1 k q hq).lt (fun h => C.2.2.2.2.2.2 q.1 h (w.2.2.2.1.2 k q hq))), w.2.2.2.1, hS1⟩
theorem LW.stepM {p : Program} {s : State} {m : MethodId} {c : Code} {b L : Nat} {xs : Nat → Int32} {gX gM : Gt} {X M M1 : Mem} {H H1 : Heap} {locs locs1 : List Loc} (C : LC p s m c b L xs gX gM) (w : LW s gX gM X M H locs) (hP1 : va_P (gD gM) vwCl (wsOf (gC gM) (ga gM) layM 12 M1) H1) (hD1 : va_D (gF gM) (wsOf (gC gM) (ga gM) layM 12 M1)) (hk : ∀ q : Nat, q < H.size → ¬ gF gM q → H1[q]? = H[q]?) (hS1 : va_S (fun q => s.heap.size ≤ q) s.heap H1 locs1) : LW s gX gM X M1 H1 locs1 :=
  ⟨fun k q hq => (w.1 k q hq).kept (hk q.1 (w.1 k q hq).lt (fun h => C.2.2.2.2.2.2 q.1 (w.2.1.2 k q hq) h)), w.2.1, hP1, hD1, hS1⟩
def op_feed (Rel : Mem → Mem → Prop) : Prop := ∀ (X M : Mem) (x1 : Int32), Rel X M → w_X7_feed x1 X (fun r X1 => w_X8_feed x1 M (fun r1 M1 => r = r1 ∧ Rel X1 M1))
def op_end (Rel : Mem → Mem → Prop) : Prop := ∀ (X M : Mem) (x1 : Int32), Rel X M → w_X7_end x1 X (fun r X1 => w_X8_end x1 M (fun r1 M1 => r = r1 ∧ Rel X1 M1))
def op_text (Rel : Mem → Mem → Prop) : Prop := ∀ (X M : Mem), Rel X M → w_X7_text X (fun r X1 => w_X8_text M (fun r1 M1 => r = r1 ∧ Rel X1 M1))
def op_fault (Rel : Mem → Mem → Prop) : Prop := ∀ (X M : Mem), Rel X M → w_X7_fault X (fun r => w_X8_fault M (fun r1 => r = r1))
def op_rule (Rel : Mem → Mem → Prop) : Prop := ∀ (X M : Mem) (x1 : Int32), Rel X M → w_X7_rule x1 X (fun r => w_X8_rule x1 M (fun r1 => r = r1))
def op_gate (Rel : Mem → Mem → Prop) : Prop := ∀ (X M : Mem) (x1 : Int32) (x2 : Int32), Rel X M → w_X7_gate x1 x2 X (fun r => w_X8_gate x1 x2 M (fun r1 => r = r1))
def op_taker (Rel : Mem → Mem → Prop) : Prop := ∀ (X M : Mem) (x1 : Int32) (x2 : Int32), Rel X M → w_X7_taker x1 x2 X (fun r => w_X8_taker x1 x2 M (fun r1 => r = r1))
def op_keeper (Rel : Mem → Mem → Prop) : Prop := ∀ (X M : Mem) (x1 : Int32) (x2 : Int32), Rel X M → w_X7_keeper x1 x2 X (fun r => w_X8_keeper x1 x2 M (fun r1 => r = r1))
def op_alter (Rel : Mem → Mem → Prop) : Prop := ∀ (X M : Mem) (x1 : Int32) (x2 : Int32) (x3 : Int32), Rel X M → w_X7_alter x1 x2 x3 X (fun r X1 => w_X8_alter x1 x2 x3 M (fun r1 M1 => r = r1 ∧ Rel X1 M1))
def op_order (Rel : Mem → Mem → Prop) : Prop := ∀ (X M : Mem) (x1 : Int32) (x2 : Int32) (x3 : Int32), Rel X M → w_X7_order x1 x2 x3 X (fun r X1 => w_X8_order x1 x2 x3 M (fun r1 M1 => r = r1 ∧ Rel X1 M1))
def op_tend (Rel : Mem → Mem → Prop) : Prop := ∀ (X M : Mem) (x1 : Int32) (x2 : Int32) (x3 : Int32), Rel X M → w_X7_tend x1 x2 x3 X (fun r X1 => w_X8_tend x1 x2 x3 M (fun r1 M1 => r = r1 ∧ Rel X1 M1))
def op_free (Rel : Mem → Mem → Prop) : Prop := ∀ (X M : Mem) (x1 : Int32), Rel X M → w_X7_free x1 X (fun r X1 => w_X8_free x1 M (fun r1 M1 => r = r1 ∧ Rel X1 M1))
def op_hire (Rel : Mem → Mem → Prop) : Prop := ∀ (X M : Mem) (x1 : Int32) (x2 : Int32) (x3 : Int32), Rel X M → w_X7_hire x1 x2 x3 X (fun r X1 => w_X8_hire x1 x2 x3 M (fun r1 M1 => r = r1 ∧ Rel X1 M1))
def op_dismiss (Rel : Mem → Mem → Prop) : Prop := ∀ (X M : Mem) (x1 : Int32), Rel X M → w_X7_dismiss x1 X (fun r X1 => w_X8_dismiss x1 M (fun r1 M1 => r = r1 ∧ Rel X1 M1))
def op_nights (Rel : Mem → Mem → Prop) : Prop := ∀ (X M : Mem) (x1 : Int32), Rel X M → w_X7_nights x1 X (fun r X1 => w_X8_nights x1 M (fun r1 M1 => r = r1 ∧ Rel X1 M1))
def op_runs (Rel : Mem → Mem → Prop) : Prop := ∀ (X M : Mem) (x1 : Int32) (x2 : Int32), Rel X M → w_X7_runs x1 x2 X (fun r X1 => w_X8_runs x1 x2 M (fun r1 M1 => r = r1 ∧ Rel X1 M1))
def op_ahead (Rel : Mem → Mem → Prop) : Prop := ∀ (X M : Mem) (x1 : Int32) (x2 : Int32) (x3 : Int32), Rel X M → w_X7_ahead x1 x2 x3 X (fun r X1 => w_X8_ahead x1 x2 x3 M (fun r1 M1 => r = r1 ∧ Rel X1 M1))
def op_glow (Rel : Mem → Mem → Prop) : Prop := ∀ (X M : Mem) (x1 : Int32) (x2 : Int32), Rel X M → w_X7_glow x1 x2 X (fun r X1 => w_X8_glow x1 x2 M (fun r1 M1 => r = r1 ∧ Rel X1 M1))
def op_caught (Rel : Mem → Mem → Prop) : Prop := ∀ (X M : Mem) (x1 : Int32), Rel X M → w_X7_caught x1 X (fun r X1 => w_X8_caught x1 M (fun r1 M1 => r = r1 ∧ Rel X1 M1))
def op_best (Rel : Mem → Mem → Prop) : Prop := ∀ (X M : Mem) (x1 : Int32) (x2 : Int32) (x3 : Int32), Rel X M → w_X7_best x1 x2 x3 X (fun r X1 => w_X8_best x1 x2 x3 M (fun r1 M1 => r = r1 ∧ Rel X1 M1))
def op_ripen (Rel : Mem → Mem → Prop) : Prop := ∀ (X M : Mem) (x1 : Int32) (x2 : Int32) (x3 : Int32), Rel X M → w_X7_ripen x1 x2 x3 X (fun r X1 => w_X8_ripen x1 x2 x3 M (fun r1 M1 => r = r1 ∧ Rel X1 M1))
def op_swap (Rel : Mem → Mem → Prop) : Prop := ∀ (X M : Mem) (x1 : Int32) (x2 : Int32), Rel X M → w_X7_swap x1 x2 X (fun r X1 => w_X8_swap x1 x2 M (fun r1 M1 => r = r1 ∧ Rel X1 M1))
def op_round (Rel : Mem → Mem → Prop) : Prop := ∀ (X M : Mem) (x1 : Int32) (x2 : Int32) (x3 : Int32), Rel X M → w_X7_round x1 x2 x3 X (fun r X1 => w_X8_round x1 x2 x3 M (fun r1 M1 => r = r1 ∧ Rel X1 M1))
def op_post (Rel : Mem → Mem → Prop) : Prop := ∀ (X M : Mem) (x1 : Int32) (x2 : Int32) (x3 : Int32), Rel X M → w_X7_post x1 x2 x3 X (fun r X1 => w_X8_post x1 x2 x3 M (fun r1 M1 => r = r1 ∧ Rel X1 M1))
def op_kind (Rel : Mem → Mem → Prop) : Prop := ∀ (X M : Mem) (x1 : Int32) (x2 : Int32) (x3 : Int32), Rel X M → w_X7_kind x1 x2 x3 X (fun r X1 => w_X8_kind x1 x2 x3 M (fun r1 M1 => r = r1 ∧ Rel X1 M1))
def op_sharp (Rel : Mem → Mem → Prop) : Prop := ∀ (X M : Mem) (x1 : Int32) (x2 : Int32) (x3 : Int32), Rel X M → w_X7_sharp x1 x2 x3 X (fun r X1 => w_X8_sharp x1 x2 x3 M (fun r1 M1 => r = r1 ∧ Rel X1 M1))
def op_luck (Rel : Mem → Mem → Prop) : Prop := ∀ (X M : Mem) (x1 : Int32) (x2 : Int32) (x3 : Int32) (x4 : Int32), Rel X M → w_X7_luck x1 x2 x3 x4 X (fun r X1 => w_X8_luck x1 x2 x3 x4 M (fun r1 M1 => r = r1 ∧ Rel X1 M1))
def op_mean (Rel : Mem → Mem → Prop) : Prop := ∀ (X M : Mem) (x1 : Int32) (x2 : Int32) (x3 : Int32), Rel X M → w_X7_mean x1 x2 x3 X (fun r X1 => w_X8_mean x1 x2 x3 M (fun r1 M1 => r = r1 ∧ Rel X1 M1))
def op_see (Rel : Mem → Mem → Prop) : Prop := ∀ (X M : Mem) (x1 : Int32) (x2 : Int32) (x3 : Int32), Rel X M → w_X7_see x1 x2 x3 X (fun r X1 => w_X8_see x1 x2 x3 M (fun r1 M1 => r = r1 ∧ Rel X1 M1))
def op_forget (Rel : Mem → Mem → Prop) : Prop := ∀ (X M : Mem) (x1 : Int32), Rel X M → w_X7_forget x1 X (fun r X1 => w_X8_forget x1 M (fun r1 M1 => r = r1 ∧ Rel X1 M1))
def op_kinds (Rel : Mem → Mem → Prop) : Prop := ∀ (X M : Mem) (x1 : Int32), Rel X M → w_X7_kinds x1 X (fun r X1 => w_X8_kinds x1 M (fun r1 M1 => r = r1 ∧ Rel X1 M1))
def op_gates (Rel : Mem → Mem → Prop) : Prop := ∀ (X M : Mem) (x1 : Int32), Rel X M → w_X7_gates x1 X (fun r X1 => w_X8_gates x1 M (fun r1 M1 => r = r1 ∧ Rel X1 M1))
def op_ask (Rel : Mem → Mem → Prop) : Prop := ∀ (X M : Mem) (x1 : Int32) (x2 : Int32), Rel X M → w_X7_ask x1 x2 X (fun r X1 => w_X8_ask x1 x2 M (fun r1 M1 => r = r1 ∧ Rel X1 M1))
def op_drift (Rel : Mem → Mem → Prop) : Prop := ∀ (X M : Mem) (x1 : Int32) (x2 : Int32) (x3 : Int32), Rel X M → w_X7_drift x1 x2 x3 X (fun r X1 => w_X8_drift x1 x2 x3 M (fun r1 M1 => r = r1 ∧ Rel X1 M1))
def op_keep (Rel : Mem → Mem → Prop) : Prop := ∀ (X M : Mem) (x1 : Int32), Rel X M → w_X7_keep x1 X (fun r X1 => w_X8_keep x1 M (fun r1 M1 => r = r1 ∧ Rel X1 M1))
def op_back (Rel : Mem → Mem → Prop) : Prop := ∀ (X M : Mem) (x1 : Int32), Rel X M → w_X7_back x1 X (fun r X1 => w_X8_back x1 M (fun r1 M1 => r = r1 ∧ Rel X1 M1))
def op_sheet (Rel : Mem → Mem → Prop) : Prop := ∀ (X M : Mem) (x1 : Int32) (x2 : Int32) (x3 : Int32), Rel X M → w_X7_sheet x1 x2 x3 X (fun r X1 => w_X8_sheet x1 x2 x3 M (fun r1 M1 => r = r1 ∧ Rel X1 M1))
def op_lay (Rel : Mem → Mem → Prop) : Prop := ∀ (X M : Mem) (x1 : Int32) (x2 : Int32) (x3 : Int32), Rel X M → w_X7_lay x1 x2 x3 X (fun r X1 => w_X8_lay x1 x2 x3 M (fun r1 M1 => r = r1 ∧ Rel X1 M1))
def op_read (Rel : Mem → Mem → Prop) : Prop := ∀ (X M : Mem) (x1 : Int32) (x2 : Int32) (x3 : Int32) (x4 : Int32), Rel X M → w_X7_read x1 x2 x3 x4 X (fun r X1 => w_X8_read x1 x2 x3 x4 M (fun r1 M1 => r = r1 ∧ Rel X1 M1))
def op_torn (Rel : Mem → Mem → Prop) : Prop := ∀ (X M : Mem), Rel X M → w_X7_torn X (fun r => w_X8_torn M (fun r1 => r = r1))
def op_count (Rel : Mem → Mem → Prop) : Prop := ∀ (X M : Mem) (x1 : Int32), Rel X M → w_X7_count x1 X (fun r => w_X8_count x1 M (fun r1 => r = r1))
def Ops (Rel : Mem → Mem → Prop) : Prop := op_feed Rel ∧ op_end Rel ∧ op_text Rel ∧ op_fault Rel ∧ op_rule Rel ∧ op_gate Rel ∧ op_taker Rel ∧ op_keeper Rel ∧ op_alter Rel ∧ op_order Rel ∧ op_tend Rel ∧ op_free Rel ∧ op_hire Rel ∧ op_dismiss Rel ∧ op_nights Rel ∧ op_runs Rel ∧ op_ahead Rel ∧ op_glow Rel ∧ op_caught Rel ∧ op_best Rel ∧ op_ripen Rel ∧ op_swap Rel ∧ op_round Rel ∧ op_post Rel ∧ op_kind Rel ∧ op_sharp Rel ∧ op_luck Rel ∧ op_mean Rel ∧ op_see Rel ∧ op_forget Rel ∧ op_kinds Rel ∧ op_gates Rel ∧ op_ask Rel ∧ op_drift Rel ∧ op_keep Rel ∧ op_back Rel ∧ op_sheet Rel ∧ op_lay Rel ∧ op_read Rel ∧ op_torn Rel ∧ op_count Rel
