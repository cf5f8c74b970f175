set_option maxHeartbeats 8000000 in
set_option maxRecDepth 200000 in
/-- THE LAW, from its entry, given what the calls do -/
theorem start_of {p : Program} {e : Env} {s : State} {m : MethodId} {below : List Frame} {meth : Method} {c : Code} (l : Launch) {b L : Nat} {xs : Nat → Int32} {Rel : Mem → Mem → Prop} (hO : Ops Rel) (h0 : ∀ X, initX X → Rel X mm8) (hL : L ≤ 320) (C0 : lw_At p s m meth c b L xs) : W p l e room_1 s m #[Value.ref b] below meth c s.heap [] 0 0 (lw_Z below #[Value.ref b] s) (entryFrame m ([Value.ref b] : List Value).toArray 4) := by
  obtain ⟨g, hgF, C, hEx⟩ := st_all C0
  obtain ⟨hx, hb, hr, hml, hown, hts, hX, hbl, hlocks, hgv⟩ := C0
  have hA : ∀ q : Nat, s.heap.size ≤ q → gF g q := fun q h => by rw [hgF]; exact h
  have b0 : Bd g s.heap [] s.heap [] := ⟨fun k q h => by simp at h, ⟨fun i j p q h => by simp at h, fun k q h => by simp at h⟩, va_S.rf⟩
  have hl := lv_entry ([.ref b]) (n := 4) (Nat.le_of_ble_eq_true rfl)
  rw [lg_entry_eq]
  generalize (lg_sl ([.ref b]) ++ List.replicate (4 - (lg_sl ([.ref b])).length) Slot.unset).toArray = ls at hl ⊢
  have hl : lv_has ls 4 [(0, .ref b)] := hl
  refine n_obj C b0 hA kc_X7 ⟨aw_law ks_w34 rfl, aw_law ks_w32 rfl, aw_law ks_w38 rfl⟩ [.null, .null, .null, .null, .null, .null, .null, .null, .null, .int 0, .int 0] kd_X7 ⟨Nat.le_of_ble_eq_true rfl, Nat.le_of_ble_eq_true rfl⟩ dL_law_0 (fun q1 H b1 => ?_)
  refine lv_dup C.1.1 C.1.2.1 dL_law_3 rfl ?_
  refine n_callI C (wr := []) (h0 := q1) b1 hA [] (c_X7_init g q1 _) ExB_x (fun U _ hW => hEx.warm hW) ki_X7_init (aw_law ks_w36 rfl) rfl hl.1 (Nat.le_of_ble_eq_true rfl) ⟨Nat.le_of_ble_eq_true rfl, Nat.le_of_ble_eq_true rfl⟩ ⟨Nat.le_of_ble_eq_true rfl, Nat.le_of_ble_eq_true rfl⟩ dL_law_4 (fun u H locs hu b2 => ?_)
  obtain ⟨eu, hi7⟩ := hu
  subst eu
  refine lv_astore_n (lv' := [(1, .ref (u.1 0)), (0, .ref b)]) C.1.1 C.1.2.1 dL_law_7 rfl hl (by decide) rfl (fun ls hl => ?_)
  refine n_obj C b2 hA kc_X8 ⟨aw_law ks_w35 rfl, aw_law ks_w33 rfl, aw_law ks_w39 rfl⟩ [.null, .int 0, .null, .int 0, .int 0, .null, .int 0, .int 0, .int 0, .int 0, .int 0, .int 0, .int 0, .int 0, .null, .null, .int 0, .int 0, .int 0, .int 0, .null, .int 0, .null, .null, .null, .null, .null, .int 0] kd_X8 ⟨Nat.le_of_ble_eq_true rfl, Nat.le_of_ble_eq_true rfl⟩ dL_law_8 (fun q2 H b3 => ?_)
  refine lv_dup C.1.1 C.1.2.1 dL_law_11 rfl ?_
  refine n_callI C (h0 := q2) b3 hA [] (c_X8_init g q2 _) ExB_t (fun _ _ _ => trivial) ki_X8_init (aw_law ks_w37 rfl) rfl hl.1 (Nat.le_of_ble_eq_true rfl) ⟨Nat.le_of_ble_eq_true rfl, Nat.le_of_ble_eq_true rfl⟩ ⟨Nat.le_of_ble_eq_true rfl, Nat.le_of_ble_eq_true rfl⟩ dL_law_12 (fun v H locs hv b4 => ?_)
  obtain ⟨ev, hv8⟩ := hv
  subst ev
  refine lv_astore_n (lv' := [(2, .ref (v.1 0)), (1, .ref (u.1 0)), (0, .ref b)]) C.1.1 C.1.2.1 dL_law_15 rfl hl (by decide) rfl (fun ls hl => ?_)
  refine lv_iconst (v := 0) C.1.1 C.1.2.1 dL_law_16 (by decide) ?_
  refine lv_istore_n (lv' := [(3, .int 0), (2, .ref (v.1 0)), (1, .ref (u.1 0)), (0, .ref b)]) C.1.1 C.1.2.1 dL_law_17 rfl hl (by decide) rfl (fun ls hl => ?_)
  refine W.widen (k := 600000) (n := 7302250) (Nat.le_of_ble_eq_true rfl) (Nat.le_of_ble_eq_true rfl) ?_
  have b4 : Bd g s.heap (wsOf (gC g) u.1 layX 68 u.2 ++ wsOf (gC g) v.1 layM 12 v.2) H locs := b4
  rw [hv8] at b4
  have len : ∀ (cA : Nat → ClassId) (ad : Nat → Nat) (lay : Nat → Lay) (N : Nat) (M : Mem), (wsOf cA ad lay N M).length = N := fun cA ad lay N M => by unfold wsOf; simp
  have atX : ∀ (k : Nat), k < 68 → (wsOf (gC g) u.1 layX 68 u.2 ++ wsOf (gC g) v.1 layM 12 mm8)[k]? = some (u.1 k, cellOf (gC g) u.1 (layX k) (u.2 k)) := fun k hk => by rw [List.getElem?_append_left (by rw [len]; exact hk), wsOf_get hk]
  have atM : ∀ (k : Nat), k < 12 → (wsOf (gC g) u.1 layX 68 u.2 ++ wsOf (gC g) v.1 layM 12 mm8)[68 + k]? = some (v.1 k, cellOf (gC g) v.1 (layM k) (mm8 k)) := fun k hk => by rw [List.getElem?_append_right (by rw [len]; omega), len, Nat.add_sub_cancel_left, wsOf_get hk]
  have geX : ∀ k, k < 68 → s.heap.size ≤ u.1 k := fun k hk => by have := b4.2.1.2 _ _ (atX k hk); rw [hgF] at this; exact this
  have geM : ∀ k, k < 12 → s.heap.size ≤ v.1 k := fun k hk => by have := b4.2.1.2 _ _ (atM k hk); rw [hgF] at this; exact this
  have idx : ∀ (cA : Nat → ClassId) (ad : Nat → Nat) (lay : Nat → Lay) (N : Nat) (M : Mem) (k : Nat) (q : Nat × va_E), (wsOf cA ad lay N M)[k]? = some q → k < N ∧ q = (ad k, cellOf cA ad (lay k) (M k)) := fun cA ad lay N M k q hq => by
    have hk : k < N := by have := (List.getElem?_eq_some_iff.mp hq).1; rw [len] at this; exact this
    rw [wsOf_get hk] at hq
    exact ⟨hk, (Option.some.inj hq).symm⟩
  have hZ : StZ (gw g (fun q => s.heap.size ≤ q)) s s.heap := by
    have := C.2.2.1
    rw [show gw g (fun q => s.heap.size ≤ q) = g from by rw [← hgF]; rfl]
    exact this
  have CX : ∀ (ad : Nat → Nat) (F : Nat → Prop), (∀ q, F q → s.heap.size ≤ q) → Cx p s m #[Value.ref b] c cL_law 4 RL (g.1, g.2.1, ad, F, g.2.2.2.2) := fun ad F hF => ⟨C.1, C.2.1, StZ.narrow (g := (g.1, g.2.1, ad, F, g.2.2.2.2)) hZ hF, C.2.2.2⟩
  have hC : LC p s m c b L xs (g.1, g.2.1, u.1, (fun q => ∃ k, k < 68 ∧ q = u.1 k), g.2.2.2.2) (g.1, g.2.1, v.1, (fun q => ∃ k, k < 12 ∧ q = v.1 k), g.2.2.2.2) := by
    have f1 : ∀ q, (∃ k, k < 68 ∧ q = u.1 k) → s.heap.size ≤ q := fun q ⟨k, hk, e⟩ => by rw [e]; exact geX k hk
    have f2 : ∀ q, (∃ k, k < 12 ∧ q = v.1 k) → s.heap.size ≤ q := fun q ⟨k, hk, e⟩ => by rw [e]; exact geM k hk
    refine ⟨CX _ _ f1, CX _ _ f2, hX, hbl, f1, f2, ?_⟩
    rintro q ⟨k, hk, e⟩ ⟨j, hj, e2⟩
    have := b4.2.1.1 k (68 + j) _ _ (atX k hk) (atM j hj) (e.symm.trans e2)
    omega
  have hw : LW s (g.1, g.2.1, u.1, (fun q => ∃ k, k < 68 ∧ q = u.1 k), g.2.2.2.2) (g.1, g.2.1, v.1, (fun q => ∃ k, k < 12 ∧ q = v.1 k), g.2.2.2.2) u.2 mm8 H locs := by
    refine ⟨fun k q hq => ?_, ⟨fun i j x z hi hj hxz => ?_, fun k q hq => ?_⟩, fun k q hq => ?_, ⟨fun i j x z hi hj hxz => ?_, fun k q hq => ?_⟩, ?_⟩
    · obtain ⟨hk, rfl⟩ := idx _ _ _ _ _ _ _ hq
      exact b4.1 k _ (atX k hk)
    · obtain ⟨hk, rfl⟩ := idx _ _ _ _ _ _ _ hi
      obtain ⟨hk2, rfl⟩ := idx _ _ _ _ _ _ _ hj
      exact b4.2.1.1 i j _ _ (atX i hk) (atX j hk2) hxz
    · obtain ⟨hk, rfl⟩ := idx _ _ _ _ _ _ _ hq
      exact ⟨k, hk, rfl⟩
    · obtain ⟨hk, rfl⟩ := idx _ _ _ _ _ _ _ hq
      exact b4.1 (68 + k) _ (atM k hk)
    · obtain ⟨hk, rfl⟩ := idx _ _ _ _ _ _ _ hi
      obtain ⟨hk2, rfl⟩ := idx _ _ _ _ _ _ _ hj
      have := b4.2.1.1 (68 + i) (68 + j) _ _ (atM i hk) (atM j hk2) hxz
      omega
    · obtain ⟨hk, rfl⟩ := idx _ _ _ _ _ _ _ hq
      exact ⟨k, hk, rfl⟩
    · have := b4.2.2
      rw [hgF] at this
      exact this
  exact law_loop hO hC hr hlocks hL (L + 6) 0 u.2 mm8 H locs ls (by omega) (by omega) (h0 _ hi7) hw (lv_sub hl [3, 2, 1, 0] rfl)
