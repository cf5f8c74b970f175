-- isOutside
def w_X7_isOutside (x0 : Int32) (x1 : Int32) (x2 : Int32) (M : Mem) (Q : Int32 → Prop) : Prop :=
  narrow .boolean (.int (if x0 < x1 then (1 : Int32) else (if x0 ≤ x2 then (0 : Int32) else 1))) = .int (if x0 < x1 then (1 : Int32) else (if x0 ≤ x2 then (0 : Int32) else 1)) ∧ Q (if x0 < x1 then (1 : Int32) else (if x0 ≤ x2 then (0 : Int32) else 1))
-- feed
def w_X7_feed (x1 : Int32) (M : Mem) (Q : Int32 → Mem → Prop) : Prop :=
  w_X7_isOutside x1 0 127 M (fun r1 => (r1 = 0 → w_X4_append x1 M (fun r3 M4 => Q (if r3 = 0 then (-3 : Int32) else (M4 22 1)) M4)) ∧ (¬ r1 = 0 → Q (-1) M))
-- end
def w_X7_end (x1 : Int32) (M : Mem) (Q : Int32 → Mem → Prop) : Prop :=
  w_X7_isOutside x1 0 (M 22 1) M (fun r1 => (r1 = 0 → ∀ M3, M3 = mu M 22 1 x1 → Q (M 22 1) M3) ∧ (¬ r1 = 0 → Q (-1) M))
-- text
def w_X7_text_79 (x1 : Int32) (Q : Int32 → Mem → Prop) (K79 : Int32 → Mem → Prop) (x2 : Int32) (M : Mem) : Prop :=
  (2 ≤ x2 → Q x1 M) ∧ (¬ 2 ≤ x2 → vp_in x2 2 ∧ ∀ M10, M10 = mu M 38 x2.toNatClampNeg (vp_nar .boolean 0) → K79 (x2 + 1) M10)
def w_X7_text (M : Mem) (Q : Int32 → Mem → Prop) : Prop :=
  w_X5_readLines M (fun r1 M2 => ∀ M3, M3 = mu M2 22 1 0 → ∀ M4, M4 = mu M3 0 9 (M3 24 6) → ((M4 24 6) = 0 → w_X0_copyFrom 1 12 M4 (fun M7 => ∀ M8, M8 = mu M7 25 3 0 → ∃ n, fu2 (w_X7_text_79 r1 Q) n 0 M8)) ∧ (¬ (M4 24 6) = 0 → Q ((-10) - (M4 24 7)) M4))
-- fault
def w_X7_fault (M : Mem) (Q : Int32 → Prop) : Prop :=
  Q (M 0 9)
-- rule
def w_X7_rule (x1 : Int32) (M : Mem) (Q : Int32 → Prop) : Prop :=
  (x1 = 0 → Q (M 1 9)) ∧ (¬ x1 = 0 → (x1 = 1 → Q (M 1 10)) ∧ (¬ x1 = 1 → (x1 = 2 → Q (M 1 11)) ∧ (¬ x1 = 2 → (x1 = 3 → Q (M 1 12)) ∧ (¬ x1 = 3 → (x1 = 4 → w_X0_lightOfAll 1 M (fun r6 => Q r6)) ∧ (¬ x1 = 4 → (x1 = 5 → w_X0_bagsOfAll 1 M (fun r8 => Q r8)) ∧ (¬ x1 = 5 → (x1 = 6 → w_X0_heldBits 1 M (fun r10 => Q r10)) ∧ (¬ x1 = 6 → (x1 = 7 → w_X0_nextCaughtBits 1 M (fun r12 => Q r12)) ∧ (¬ x1 = 7 → Q (-1)))))))))
-- isNoGate
def w_X7_isNoGate (x0 : Int32) (M : Mem) (Q : Int32 → Prop) : Prop :=
  w_X7_isOutside x0 0 5 M (fun r1 => narrow .boolean (.int r1) = .int r1 ∧ Q r1)
-- gate
def w_X7_gate (x1 : Int32) (x2 : Int32) (M : Mem) (Q : Int32 → Prop) : Prop :=
  w_X7_isNoGate x1 M (fun r1 => (r1 = 0 → (x2 = 0 → vp_in x1 6 ∧ Q (M 2 x1.toNatClampNeg)) ∧ (¬ x2 = 0 → (x2 = 1 → vp_in x1 6 ∧ Q (M 3 x1.toNatClampNeg)) ∧ (¬ x2 = 1 → (x2 = 2 → w_X0_takerBitsAt 1 x1 M (fun r6 => Q r6)) ∧ (¬ x2 = 2 → (x2 = 3 → w_X0_keeperBitsAt 1 x1 M (fun r8 => Q r8)) ∧ (¬ x2 = 3 → Q (-1)))))) ∧ (¬ r1 = 0 → Q (-1)))
-- isNoTaker
def w_X7_isNoTaker (x1 : Int32) (M : Mem) (Q : Int32 → Prop) : Prop :=
  w_X7_isOutside x1 0 ((M 1 9) - 1) M (fun r1 => narrow .boolean (.int r1) = .int r1 ∧ Q r1)
-- taker
def w_X7_taker (x1 : Int32) (x2 : Int32) (M : Mem) (Q : Int32 → Prop) : Prop :=
  w_X7_isNoTaker x1 M (fun r1 => (r1 = 0 → (x2 = 0 → vp_in x1 5 ∧ Q (M 4 x1.toNatClampNeg)) ∧ (¬ x2 = 0 → (x2 = 1 → vp_in x1 5 ∧ Q (M 5 x1.toNatClampNeg)) ∧ (¬ x2 = 1 → (x2 = 2 → vp_in x1 5 ∧ Q (M 6 x1.toNatClampNeg)) ∧ (¬ x2 = 2 → (x2 = 3 → vp_in x1 5 ∧ Q (M 7 x1.toNatClampNeg)) ∧ (¬ x2 = 3 → (x2 = 4 → w_X0_takes 1 x1 M (fun r8 => Q r8)) ∧ (¬ x2 = 4 → (x2 = 5 → w_X0_noise 1 x1 M (fun r10 => Q r10)) ∧ (¬ x2 = 5 → Q (-1)))))))) ∧ (¬ r1 = 0 → Q (-1)))
-- isNoKeeper
def w_X7_isNoKeeper (x1 : Int32) (M : Mem) (Q : Int32 → Prop) : Prop :=
  w_X7_isOutside x1 0 ((M 1 10) - 1) M (fun r1 => narrow .boolean (.int r1) = .int r1 ∧ Q r1)
-- keeper
def w_X7_keeper (x1 : Int32) (x2 : Int32) (M : Mem) (Q : Int32 → Prop) : Prop :=
  w_X7_isNoKeeper x1 M (fun r1 => (r1 = 0 → (x2 = 0 → vp_in x1 3 ∧ Q (M 8 x1.toNatClampNeg)) ∧ (¬ x2 = 0 → (x2 = 1 → vp_in x1 3 ∧ Q (M 9 x1.toNatClampNeg)) ∧ (¬ x2 = 1 → (x2 = 2 → vp_in x1 3 ∧ Q (M 10 x1.toNatClampNeg)) ∧ (¬ x2 = 2 → (x2 = 3 → w_X0_placeOf 1 x1 M (fun r7 => Q r7)) ∧ (¬ x2 = 3 → Q (-1)))))) ∧ (¬ r1 = 0 → Q (-1)))
-- replace
def w_X7_replace (r : Nat) (nr : Nat) (x1 : Int32) (x2 : Int32) (x3 : Int32) (x4 : Int32) (M : Mem) (Q : Int32 → Mem → Prop) : Prop :=
  w_X7_isOutside x2 x3 x4 M (fun r1 => (r1 = 0 → w_X7_isOutside x1 0 ((nI nr) - 1) M (fun r3 => (r3 = 0 → vp_in x1 nr ∧ vp_in x1 nr ∧ ∀ M5, M5 = mu M r x1.toNatClampNeg x2 → Q (M r x1.toNatClampNeg) M5) ∧ (¬ r3 = 0 → Q (-1) M))) ∧ (¬ r1 = 0 → Q (-1) M))
-- alter
def w_X7_alter (x1 : Int32) (x2 : Int32) (x3 : Int32) (M : Mem) (Q : Int32 → Mem → Prop) : Prop :=
  w_X7_isNoTaker x1 M (fun r1 => (r1 = 0 → (x2 = 0 → w_X7_replace 4 5 x1 x3 0 3 M (fun r4 M5 => Q r4 M5)) ∧ (¬ x2 = 0 → (x2 = 1 → w_X7_replace 5 5 x1 x3 0 5 M (fun r7 M8 => Q r7 M8)) ∧ (¬ x2 = 1 → (x2 = 2 → w_X7_replace 6 5 x1 x3 0 999 M (fun r10 M11 => Q r10 M11)) ∧ (¬ x2 = 2 → Q (-1) M)))) ∧ (¬ r1 = 0 → Q (-1) M))
-- order
def w_X7_order (x1 : Int32) (x2 : Int32) (x3 : Int32) (M : Mem) (Q : Int32 → Mem → Prop) : Prop :=
  w_X7_isNoKeeper x1 M (fun r1 => (r1 = 0 → (x2 = 0 → w_X7_replace 8 3 x1 x3 0 5 M (fun r4 M5 => Q r4 M5)) ∧ (¬ x2 = 0 → (x2 = 1 → w_X7_replace 9 3 x1 x3 0 5 M (fun r7 M8 => Q r7 M8)) ∧ (¬ x2 = 1 → (x2 = 2 → w_X7_replace 10 3 x1 x3 1 9 M (fun r10 M11 => Q r10 M11)) ∧ (¬ x2 = 2 → Q (-1) M)))) ∧ (¬ r1 = 0 → Q (-1) M))
-- tend
def w_X7_tend (x1 : Int32) (x2 : Int32) (x3 : Int32) (M : Mem) (Q : Int32 → Mem → Prop) : Prop :=
  w_X7_isNoGate x1 M (fun r1 => (r1 = 0 → (x2 = 0 → w_X7_replace 2 6 x1 x3 0 60 M (fun r4 M5 => Q r4 M5)) ∧ (¬ x2 = 0 → (x2 = 1 → w_X7_replace 3 6 x1 x3 0 9 M (fun r7 M8 => Q r7 M8)) ∧ (¬ x2 = 1 → Q (-1) M))) ∧ (¬ r1 = 0 → Q (-1) M))
-- free
def w_X7_free (x1 : Int32) (M : Mem) (Q : Int32 → Mem → Prop) : Prop :=
  w_X7_isNoTaker x1 M (fun r1 => (r1 = 0 → vp_in x1 5 ∧ ((M 7 x1.toNatClampNeg) = 0 → Q (-2) M) ∧ (¬ (M 7 x1.toNatClampNeg) = 0 → w_X7_replace 7 5 x1 0 0 0 M (fun r4 M5 => Q r4 M5))) ∧ (¬ r1 = 0 → Q (-1) M))
-- hire
def w_X7_hire (x1 : Int32) (x2 : Int32) (x3 : Int32) (M : Mem) (Q : Int32 → Mem → Prop) : Prop :=
  w_X7_isNoGate x1 M (fun r1 => (r1 = 0 → w_X7_isOutside x2 0 5 M (fun r3 => (r3 = 0 → w_X7_isOutside x3 1 9 M (fun r5 => (r5 = 0 → w_X0_addKeeper 1 x1 x2 x3 M (fun r7 M8 => Q (if r7 = 0 then (-3 : Int32) else (M8 1 10)) M8)) ∧ (¬ r5 = 0 → Q (-1) M))) ∧ (¬ r3 = 0 → Q (-1) M))) ∧ (¬ r1 = 0 → Q (-1) M))
-- dismiss
def w_X7_dismiss (x1 : Int32) (M : Mem) (Q : Int32 → Mem → Prop) : Prop :=
  w_X7_isOutside x1 0 (M 1 10) M (fun r1 => (r1 = 0 → ∀ M3, M3 = mu M 1 10 x1 → Q (M 1 10) M3) ∧ (¬ r1 = 0 → Q (-1) M))
-- nights
def w_X7_nights_34 (x1 : Int32) (Q : Int32 → Mem → Prop) (K34 : Int32 → Int32 → Mem → Prop) (x2 : Int32) (x3 : Int32) (M : Mem) : Prop :=
  (x1 ≤ x3 → Q x2 M) ∧ (¬ x1 ≤ x3 → w_X0_passNight 1 0 M (fun r5 M6 => K34 (x2 + r5) (x3 + 1) M6))
def w_X7_nights (x1 : Int32) (M : Mem) (Q : Int32 → Mem → Prop) : Prop :=
  w_X7_isOutside x1 0 30 M (fun r1 => (r1 = 0 → (((M 1 11) + x1) ≤ 999 → ∃ n, fu3 (w_X7_nights_34 x1 Q) n 0 0 M) ∧ (¬ ((M 1 11) + x1) ≤ 999 → Q (-3) M)) ∧ (¬ r1 = 0 → Q (-1) M))
-- runs
def w_X7_runs (x1 : Int32) (x2 : Int32) (M : Mem) (Q : Int32 → Mem → Prop) : Prop :=
  w_X7_isOutside x1 0 60 M (fun r1 => (r1 = 0 → w_X7_isOutside x2 0 4 M (fun r3 => (r3 = 0 → w_X6_begin M (fun M6 => w_X6_pass x1 M6 (fun M8 => (x2 = 0 → Q (M8 11 2) M8) ∧ (¬ x2 = 0 → (x2 = 1 → Q (M8 11 4) M8) ∧ (¬ x2 = 1 → (x2 = 2 → Q (M8 11 3) M8) ∧ (¬ x2 = 2 → (x2 = 3 → w_X0_lightOfAll 12 M8 (fun r13 => Q r13 M8)) ∧ (¬ x2 = 3 → Q (if (M8 11 5) = 0 then (-4 : Int32) else (M8 11 5)) M8))))))) ∧ (¬ r3 = 0 → Q (-1) M))) ∧ (¬ r1 = 0 → Q (-1) M))
-- isNoQuestion
def w_X7_isNoQuestion (x0 : Int32) (x1 : Int32) (M : Mem) (Q : Int32 → Prop) : Prop :=
  w_X7_isOutside x0 0 60 M (fun r1 => (r1 = 0 → w_X7_isOutside x1 0 1 M (fun r3 => (r3 = 0 → Q 0) ∧ (¬ r3 = 0 → Q 1))) ∧ (¬ r1 = 0 → Q 1))
-- ahead
def w_X7_ahead (x1 : Int32) (x2 : Int32) (x3 : Int32) (M : Mem) (Q : Int32 → Mem → Prop) : Prop :=
  w_X7_isNoTaker x1 M (fun r1 => (r1 = 0 → w_X7_isNoQuestion x2 x3 M (fun r3 => (r3 = 0 → w_X6_begin M (fun M6 => w_X6_pass x2 M6 (fun M8 => (x3 = 0 → vp_in x1 5 ∧ Q (M8 17 x1.toNatClampNeg) M8) ∧ (¬ x3 = 0 → vp_in x1 5 ∧ Q (M8 18 x1.toNatClampNeg) M8)))) ∧ (¬ r3 = 0 → Q (-1) M))) ∧ (¬ r1 = 0 → Q (-1) M))
-- glow
def w_X7_glow (x1 : Int32) (x2 : Int32) (M : Mem) (Q : Int32 → Mem → Prop) : Prop :=
  w_X7_isNoGate x1 M (fun r1 => (r1 = 0 → w_X7_isOutside x2 0 60 M (fun r3 => (r3 = 0 → w_X6_begin M (fun M6 => w_X6_pass x2 M6 (fun M8 => vp_in x1 6 ∧ Q (M8 13 x1.toNatClampNeg) M8))) ∧ (¬ r3 = 0 → Q (-1) M))) ∧ (¬ r1 = 0 → Q (-1) M))
section
variable {p : Program} {l : Launch} {e : Env} {s : State} {m : MethodId} {args : Array Value} {below : List Frame} {meth : Method} {c : Code} {g : Gt}
-- isOutside
set_option maxHeartbeats 4000000 in
set_option maxRecDepth 100000 in
theorem c_X7_isOutside {l : Launch} {g : Gt} {x0 : Int32} {x1 : Int32} {x2 : Int32} {M : Mem} {Q : Int32 → Prop} (h : w_X7_isOutside x0 x1 x2 M Q) : MI l yX7_isOutside cX7_isOutside 3 (some .boolean) 0 0 g layX 68 [.int x0, .int x1, .int x2] M (fun r M9 => M9 = M ∧ Q r) :=
  m_of (by decide +kernel) (Nat.le_of_ble_eq_true rfl) (fun p e s m args below meth c ls C hr hk w hl => by
    have C : Cx p s m args c cX7_isOutside 3 RX7 g := C
    have hl : lv_has ls 3 [(0, .int x0), (1, .int x1), (2, .int x2)] := hl
    unfold w_X7_isOutside at h
    obtain ⟨H, eH⟩ : ∃ H : Heap, H = s.heap := ⟨_, rfl⟩
    obtain ⟨locs, el⟩ : ∃ locs : List Loc, locs = [] := ⟨_, rfl⟩
    have w : Wd g layX 68 s.heap M H locs := by rw [eH, el]; exact w
    suffices hw : W p l e (rmOf 0 0) s m args below meth c H locs 0 0 (MQ below (va_Qi (fun r M9 => M9 = M ∧ Q r) (PostW g layX 68) (gF g)) args s 0 0 (gF g)) (F0 m 0 ls []) by rw [eH, el] at hw; exact hw
    clear eH el
    refine lv_iload_n C.1.1 C.1.2.1 dX7_isOutside_0 rfl (lv_at hl 0 rfl) ?_
    refine lv_iload_n C.1.1 C.1.2.1 dX7_isOutside_1 rfl (lv_at hl 1 rfl) ?_
    have J : ∀ ls : Array Slot, lv_has ls 3 [] → W p l e (rmOf 0 0) s m args below meth c H locs 0 0 (MQ below (va_Qi (fun r M9 => M9 = M ∧ Q r) (PostW g layX 68) (gF g)) args s 0 0 (gF g)) (F0 m 15 ls [.int (if x0 < x1 then (1 : Int32) else (if x0 ≤ x2 then (0 : Int32) else 1))]) := by
      intro ls hl
      exact q_iret C hr hk w h.1 ⟨rfl, h.2⟩ dX7_isOutside_15
    refine lv_icmp_lt (tgt := 10) C.1.1 C.1.2.1 dX7_isOutside_2 (by decide) (fun hc1 => ?_) (fun hc1 => ?_)
    · refine lv_iconst (v := 1) C.1.1 C.1.2.1 dX7_isOutside_10 (by decide) ?_
      refine lv_goto (tgt := 15) C.1.1 C.1.2.1 dX7_isOutside_11 (by decide) ?_
      simp only [if_pos hc1] at J hl
      exact J ls (lv_sub hl [] rfl)
    · refine lv_iload_n C.1.1 C.1.2.1 dX7_isOutside_5 rfl (lv_at hl 0 rfl) ?_
      refine lv_iload_n C.1.1 C.1.2.1 dX7_isOutside_6 rfl (lv_at hl 2 rfl) ?_
      refine lv_icmp_le (tgt := 14) C.1.1 C.1.2.1 dX7_isOutside_7 (by decide) (fun hc2 => ?_) (fun hc2 => ?_)
      · refine lv_iconst (v := 0) C.1.1 C.1.2.1 dX7_isOutside_14 (by decide) ?_
        simp only [if_neg hc1, if_pos hc2] at J hl
        exact J ls (lv_sub hl [] rfl)
      · refine lv_iconst (v := 1) C.1.1 C.1.2.1 dX7_isOutside_10 (by decide) ?_
        refine lv_goto (tgt := 15) C.1.1 C.1.2.1 dX7_isOutside_11 (by decide) ?_
        simp only [if_neg hc1, if_neg hc2] at J hl
        exact J ls (lv_sub hl [] rfl))
-- feed
set_option maxHeartbeats 4000000 in
set_option maxRecDepth 100000 in
theorem c_X7_feed {l : Launch} {g : Gt} {x1 : Int32} {M : Mem} {Q : Int32 → Mem → Prop} (h : w_X7_feed x1 M Q) : MI l yX7_feed cX7_feed 2 (some .int) 1 22 g layX 68 [.ref (ga g 0), .int x1] M Q :=
  m_of (by decide +kernel) (Nat.le_of_ble_eq_true rfl) (fun p e s m args below meth c ls C hr hk w hl => by
    have C : Cx p s m args c cX7_feed 2 RX7 g := C
    have hl : lv_has ls 2 [(0, .ref (ga g 0)), (1, .int x1)] := hl
    unfold w_X7_feed at h
    obtain ⟨H, eH⟩ : ∃ H : Heap, H = s.heap := ⟨_, rfl⟩
    obtain ⟨locs, el⟩ : ∃ locs : List Loc, locs = [] := ⟨_, rfl⟩
    have w : Wd g layX 68 s.heap M H locs := by rw [eH, el]; exact w
    suffices hw : W p l e (rmOf 1 22) s m args below meth c H locs 0 0 (MQ below (va_Qi Q (PostW g layX 68) (gF g)) args s 0 0 (gF g)) (F0 m 0 ls []) by rw [eH, el] at hw; exact hw
    clear eH el
    refine lv_iload_n C.1.1 C.1.2.1 dX7_feed_0 rfl (lv_at hl 1 rfl) ?_
    refine lv_iconst (v := 0) C.1.1 C.1.2.1 dX7_feed_1 (by decide) ?_
    refine lv_bipush (v := 127) C.1.1 C.1.2.1 dX7_feed_2 (by decide) ?_
    refine q_pSi C w [.int x1, .int 0, .int 127] (c_X7_isOutside  h) ks_X7_isOutside k_45  rfl hl.1 (Nat.le_of_ble_eq_true rfl) ⟨Nat.le_of_ble_eq_true rfl, Nat.le_of_ble_eq_true rfl⟩ dX7_feed_4 (fun r1 H locs h w => ?_)
    refine lv_if_eq (tgt := 12) C.1.1 C.1.2.1 dX7_feed_7 (by decide) (fun hc2 => ?_) (fun hc2 => ?_)
    · replace h := h.1 hc2
      refine lv_aload_n C.1.1 C.1.2.1 dX7_feed_12 rfl (lv_at hl 0 rfl) ?_
      refine gr_RX7_34 C w hx_0 lx_0 rfl dX7_feed_13 ?_
      refine lv_iload_n C.1.1 C.1.2.1 dX7_feed_16 rfl (lv_at hl 1 rfl) ?_
      refine q_cVi C w [.int x1] (c_X4_append  h) kv_X4_append k_46 (rcv C w kc_X4 hx_22 lx_22) rfl hl.1 (Nat.le_of_ble_eq_true rfl) ⟨Nat.le_of_ble_eq_true rfl, Nat.le_of_ble_eq_true rfl⟩ dX7_feed_17 (fun r3 M4 H locs h w => ?_)
      have J : ∀ ls : Array Slot, lv_has ls 2 [] → W p l e (rmOf 1 22) s m args below meth c H locs 0 0 (MQ below (va_Qi Q (PostW g layX 68) (gF g)) args s 0 0 (gF g)) (F0 m 35 ls [.int (if r3 = 0 then (-3 : Int32) else (M4 22 1))]) := by
        intro ls hl
        exact q_iret C hr hk w rfl h dX7_feed_35
      refine lv_if_eq (tgt := 33) C.1.1 C.1.2.1 dX7_feed_20 (by decide) (fun hc5 => ?_) (fun hc5 => ?_)
      · refine lv_bipush (v := (-3)) C.1.1 C.1.2.1 dX7_feed_33 (by decide) ?_
        simp only [if_pos hc5] at J hl
        exact J ls (lv_sub hl [] rfl)
      · refine lv_aload_n C.1.1 C.1.2.1 dX7_feed_23 rfl (lv_at hl 0 rfl) ?_
        refine gr_RX7_34 C w hx_0 lx_0 rfl dX7_feed_24 ?_
        refine gi_RX7_74 C w hx_22 lx_22 rfl dX7_feed_27 ?_
        refine lv_goto (tgt := 35) C.1.1 C.1.2.1 dX7_feed_30 (by decide) ?_
        simp only [if_neg hc5] at J hl
        exact J ls (lv_sub hl [] rfl)
    · replace h := h.2 hc2
      refine lv_iconst (v := (-1)) C.1.1 C.1.2.1 dX7_feed_10 (by decide) ?_
      exact q_iret C hr hk w rfl h dX7_feed_11)
-- end
set_option maxHeartbeats 4000000 in
set_option maxRecDepth 100000 in
theorem c_X7_end {l : Launch} {g : Gt} {x1 : Int32} {M : Mem} {Q : Int32 → Mem → Prop} (h : w_X7_end x1 M Q) : MI l yX7_end cX7_end 3 (some .int) 1 22 g layX 68 [.ref (ga g 0), .int x1] M Q :=
  m_of (by decide +kernel) (Nat.le_of_ble_eq_true rfl) (fun p e s m args below meth c ls C hr hk w hl => by
    have C : Cx p s m args c cX7_end 3 RX7 g := C
    have hl : lv_has ls 3 [(0, .ref (ga g 0)), (1, .int x1)] := hl
    unfold w_X7_end at h
    obtain ⟨H, eH⟩ : ∃ H : Heap, H = s.heap := ⟨_, rfl⟩
    obtain ⟨locs, el⟩ : ∃ locs : List Loc, locs = [] := ⟨_, rfl⟩
    have w : Wd g layX 68 s.heap M H locs := by rw [eH, el]; exact w
    suffices hw : W p l e (rmOf 1 22) s m args below meth c H locs 0 0 (MQ below (va_Qi Q (PostW g layX 68) (gF g)) args s 0 0 (gF g)) (F0 m 0 ls []) by rw [eH, el] at hw; exact hw
    clear eH el
    refine lv_iload_n C.1.1 C.1.2.1 dX7_end_0 rfl (lv_at hl 1 rfl) ?_
    refine lv_iconst (v := 0) C.1.1 C.1.2.1 dX7_end_1 (by decide) ?_
    refine lv_aload_n C.1.1 C.1.2.1 dX7_end_2 rfl (lv_at hl 0 rfl) ?_
    refine gr_RX7_34 C w hx_0 lx_0 rfl dX7_end_3 ?_
    refine gi_RX7_74 C w hx_22 lx_22 rfl dX7_end_6 ?_
    refine q_pSi C w [.int x1, .int 0, .int (M 22 1)] (c_X7_isOutside  h) ks_X7_isOutside k_45  rfl hl.1 (Nat.le_of_ble_eq_true rfl) ⟨Nat.le_of_ble_eq_true rfl, Nat.le_of_ble_eq_true rfl⟩ dX7_end_9 (fun r1 H locs h w => ?_)
    refine lv_if_eq (tgt := 17) C.1.1 C.1.2.1 dX7_end_12 (by decide) (fun hc2 => ?_) (fun hc2 => ?_)
    · replace h := h.1 hc2
      refine lv_aload_n C.1.1 C.1.2.1 dX7_end_17 rfl (lv_at hl 0 rfl) ?_
      refine gr_RX7_34 C w hx_0 lx_0 rfl dX7_end_18 ?_
      refine gi_RX7_74 C w hx_22 lx_22 rfl dX7_end_21 ?_
      refine lv_istore_n (lv' := [(2, .int (M 22 1)), (0, .ref (ga g 0)), (1, .int x1)]) C.1.1 C.1.2.1 dX7_end_24 rfl hl (by decide) rfl (fun ls hl => ?_)
      refine lv_aload_n C.1.1 C.1.2.1 dX7_end_25 rfl (lv_at hl 1 rfl) ?_
      refine gr_RX7_34 C w hx_0 lx_0 rfl dX7_end_26 ?_
      refine lv_iload_n C.1.1 C.1.2.1 dX7_end_29 rfl (lv_at hl 2 rfl) ?_
      refine pi_RX7_74 C w hx_22 lx_22 rfl dX7_end_30 (fun M3 H locs eM3 w => ?_)
      replace h := h M3 eM3
      refine lv_iload_n C.1.1 C.1.2.1 dX7_end_33 rfl (lv_at hl 0 rfl) ?_
      exact q_iret C hr hk w rfl h dX7_end_34
    · replace h := h.2 hc2
      refine lv_iconst (v := (-1)) C.1.1 C.1.2.1 dX7_end_15 (by decide) ?_
      exact q_iret C hr hk w rfl h dX7_end_16)
-- text
set_option maxHeartbeats 4000000 in
set_option maxRecDepth 100000 in
theorem v_X7_text_79 {x1 : Int32} {x2 : Int32} {M : Mem} {K79 : Int32 → Mem → Prop} {Q : Int32 → Mem → Prop} {H : Heap} {locs : List Loc} {ls : Array Slot} (C : Cx p s m args c cX7_text 3 RX7 g) (hr : meth.sig.returnType = (some .int)) (hk : meth.locks = false) (hK79 : ∀ (x2 : Int32) (M : Mem) (H : Heap) (locs : List Loc) (ls : Array Slot), K79 x2 M → Wd g layX 68 s.heap M H locs → lv_has ls 3 [(0, .ref (ga g 0)), (1, .int x1), (2, .int x2)] → W p l e (rmOf 7 152) s m args below meth c H locs 0 0 (MQ below (va_Qi Q (PostW g layX 68) (gF g)) args s 0 0 (gF g)) (F0 m 79 ls [])) (h : w_X7_text_79 x1 Q K79 x2 M) (w : Wd g layX 68 s.heap M H locs) (hl : lv_has ls 3 [(0, .ref (ga g 0)), (1, .int x1), (2, .int x2)]) : W p l e (rmOf 7 152) s m args below meth c H locs 0 0 (MQ below (va_Qi Q (PostW g layX 68) (gF g)) args s 0 0 (gF g)) (F0 m 79 ls []) := by
  unfold w_X7_text_79 at h
  refine lv_iload_n C.1.1 C.1.2.1 dX7_text_79 rfl (lv_at hl 2 rfl) ?_
  refine lv_iconst (v := 2) C.1.1 C.1.2.1 dX7_text_80 (by decide) ?_
  refine lv_icmp_ge (tgt := 97) C.1.1 C.1.2.1 dX7_text_81 (by decide) (fun hc9 => ?_) (fun hc9 => ?_)
  · replace h := h.1 hc9
    refine lv_iload_n C.1.1 C.1.2.1 dX7_text_97 rfl (lv_at hl 1 rfl) ?_
    exact q_iret C hr hk w rfl h dX7_text_98
  · replace h := h.2 hc9
    refine lv_aload_n C.1.1 C.1.2.1 dX7_text_84 rfl (lv_at hl 0 rfl) ?_
    refine gr_RX7_53 C w hx_0 lx_0 rfl dX7_text_85 ?_
    refine lv_iload_n C.1.1 C.1.2.1 dX7_text_88 rfl (lv_at hl 2 rfl) ?_
    refine lv_iconst (v := 0) C.1.1 C.1.2.1 dX7_text_89 (by decide) ?_
    refine q_zas C w hx_38 lx_38 h.1 dX7_text_90 (fun M10 H locs eM10 w => ?_)
    replace h := h.2 M10 eM10
    refine lv_iinc (v := x2 + 1) (lv' := [(2, .int (x2 + 1)), (0, .ref (ga g 0)), (1, .int x1)]) C.1.1 C.1.2.1 dX7_text_91 hl (k := 2) rfl rfl (by decide) rfl (fun ls hl => ?_)
    refine lv_goto (tgt := 79) C.1.1 C.1.2.1 dX7_text_94 (by decide) ?_
    exact hK79 _ _ _ _ _ h w (lv_sub hl [1, 2, 0] rfl)
set_option maxHeartbeats 4000000 in
set_option maxRecDepth 100000 in
theorem l_X7_text_79 {x1 : Int32} {Q : Int32 → Mem → Prop} (C : Cx p s m args c cX7_text 3 RX7 g) (hr : meth.sig.returnType = (some .int)) (hk : meth.locks = false)  : ∀ (n : Nat) (x2 : Int32) (M : Mem) (H : Heap) (locs : List Loc) (ls : Array Slot), fu2 (w_X7_text_79 x1 Q) n x2 M → Wd g layX 68 s.heap M H locs → lv_has ls 3 [(0, .ref (ga g 0)), (1, .int x1), (2, .int x2)] → W p l e (rmOf 7 152) s m args below meth c H locs 0 0 (MQ below (va_Qi Q (PostW g layX 68) (gF g)) args s 0 0 (gF g)) (F0 m 79 ls []) := by
  intro n
  induction n with
  | zero => intro x2 M H locs ls h; exact h.elim
  | succ n ih => intro x2 M H locs ls h w hl; exact v_X7_text_79 C hr hk   ih h w hl
set_option maxHeartbeats 4000000 in
set_option maxRecDepth 100000 in
theorem c_X7_text {l : Launch} {g : Gt} {M : Mem} {Q : Int32 → Mem → Prop} (h : w_X7_text M Q) : MI l yX7_text cX7_text 3 (some .int) 7 152 g layX 68 [.ref (ga g 0)] M Q :=
  m_of (by decide +kernel) (Nat.le_of_ble_eq_true rfl) (fun p e s m args below meth c ls C hr hk w hl => by
    have C : Cx p s m args c cX7_text 3 RX7 g := C
    have hl : lv_has ls 3 [(0, .ref (ga g 0))] := hl
    unfold w_X7_text at h
    obtain ⟨H, eH⟩ : ∃ H : Heap, H = s.heap := ⟨_, rfl⟩
    obtain ⟨locs, el⟩ : ∃ locs : List Loc, locs = [] := ⟨_, rfl⟩
    have w : Wd g layX 68 s.heap M H locs := by rw [eH, el]; exact w
    suffices hw : W p l e (rmOf 7 152) s m args below meth c H locs 0 0 (MQ below (va_Qi Q (PostW g layX 68) (gF g)) args s 0 0 (gF g)) (F0 m 0 ls []) by rw [eH, el] at hw; exact hw
    clear eH el
    refine lv_aload_n C.1.1 C.1.2.1 dX7_text_0 rfl (lv_at hl 0 rfl) ?_
    refine gr_RX7_26 C w hx_0 lx_0 rfl dX7_text_1 ?_
    refine lv_aload_n C.1.1 C.1.2.1 dX7_text_4 rfl (lv_at hl 0 rfl) ?_
    refine gr_RX7_19 C w hx_0 lx_0 rfl dX7_text_5 ?_
    refine gr_RX7_78 C w hx_11 lx_11 rfl dX7_text_8 ?_
    refine q_cVi C w [.ref (ga g 12)] (c_X5_readLines  h) kv_X5_readLines k_47 (rcv C w kc_X5 hx_24 lx_24) rfl hl.1 (Nat.le_of_ble_eq_true rfl) ⟨Nat.le_of_ble_eq_true rfl, Nat.le_of_ble_eq_true rfl⟩ dX7_text_11 (fun r1 M2 H locs h w => ?_)
    refine lv_istore_n (lv' := [(1, .int r1), (0, .ref (ga g 0))]) C.1.1 C.1.2.1 dX7_text_14 rfl hl (by decide) rfl (fun ls hl => ?_)
    refine lv_aload_n C.1.1 C.1.2.1 dX7_text_15 rfl (lv_at hl 1 rfl) ?_
    refine gr_RX7_34 C w hx_0 lx_0 rfl dX7_text_16 ?_
    refine lv_iconst (v := 0) C.1.1 C.1.2.1 dX7_text_19 (by decide) ?_
    refine pi_RX7_74 C w hx_22 lx_22 rfl dX7_text_20 (fun M3 H locs eM3 w => ?_)
    replace h := h M3 eM3
    refine lv_aload_n C.1.1 C.1.2.1 dX7_text_23 rfl (lv_at hl 1 rfl) ?_
    refine lv_aload_n C.1.1 C.1.2.1 dX7_text_24 rfl (lv_at hl 1 rfl) ?_
    refine gr_RX7_26 C w hx_0 lx_0 rfl dX7_text_25 ?_
    refine gi_RX7_85 C w hx_24 lx_24 rfl dX7_text_28 ?_
    refine pi_RX7_88 C w hx_0 lx_0 rfl dX7_text_31 (fun M4 H locs eM4 w => ?_)
    replace h := h M4 eM4
    refine lv_aload_n C.1.1 C.1.2.1 dX7_text_34 rfl (lv_at hl 1 rfl) ?_
    refine gr_RX7_26 C w hx_0 lx_0 rfl dX7_text_35 ?_
    refine gi_RX7_85 C w hx_24 lx_24 rfl dX7_text_38 ?_
    refine lv_if_eq (tgt := 55) C.1.1 C.1.2.1 dX7_text_41 (by decide) (fun hc5 => ?_) (fun hc5 => ?_)
    · replace h := h.1 hc5
      refine lv_aload_n C.1.1 C.1.2.1 dX7_text_55 rfl (lv_at hl 1 rfl) ?_
      refine gr_RX7_10 C w hx_0 lx_0 rfl dX7_text_56 ?_
      refine lv_aload_n C.1.1 C.1.2.1 dX7_text_59 rfl (lv_at hl 1 rfl) ?_
      refine gr_RX7_19 C w hx_0 lx_0 rfl dX7_text_60 ?_
      refine gr_RX7_78 C w hx_11 lx_11 rfl dX7_text_63 ?_
      refine q_cVv C w [.ref (ga g 12)] (c_X0_copyFrom isE_1 isE_12 h) kv_X0_copyFrom k_48 (rcv C w kc_X0 hx_1 lx_1) rfl hl.1 (Nat.le_of_ble_eq_true rfl) ⟨Nat.le_of_ble_eq_true rfl, Nat.le_of_ble_eq_true rfl⟩ dX7_text_66 (fun M7 H locs h w => ?_)
      refine lv_aload_n C.1.1 C.1.2.1 dX7_text_69 rfl (lv_at hl 1 rfl) ?_
      refine gr_RX7_38 C w hx_0 lx_0 rfl dX7_text_70 ?_
      refine lv_iconst (v := 0) C.1.1 C.1.2.1 dX7_text_73 (by decide) ?_
      refine pi_RX7_98 C w hx_25 lx_25 rfl dX7_text_74 (fun M8 H locs eM8 w => ?_)
      replace h := h M8 eM8
      refine lv_iconst (v := 0) C.1.1 C.1.2.1 dX7_text_77 (by decide) ?_
      refine lv_istore_n (lv' := [(2, .int 0), (1, .int r1), (0, .ref (ga g 0))]) C.1.1 C.1.2.1 dX7_text_78 rfl hl (by decide) rfl (fun ls hl => ?_)
      obtain ⟨n, h⟩ := h
      exact l_X7_text_79 C hr hk   n _ _ _ _ _ h w (lv_sub hl [2, 1, 0] rfl)
    · replace h := h.2 hc5
      refine lv_bipush (v := (-10)) C.1.1 C.1.2.1 dX7_text_44 (by decide) ?_
      refine lv_aload_n C.1.1 C.1.2.1 dX7_text_46 rfl (lv_at hl 1 rfl) ?_
      refine gr_RX7_26 C w hx_0 lx_0 rfl dX7_text_47 ?_
      refine gi_RX7_91 C w hx_24 lx_24 rfl dX7_text_50 ?_
      refine lv_isub C.1.1 C.1.2.1 dX7_text_53 ?_
      exact q_iret C hr hk w rfl h dX7_text_54)
-- fault
set_option maxHeartbeats 4000000 in
set_option maxRecDepth 100000 in
theorem c_X7_fault {l : Launch} {g : Gt} {M : Mem} {Q : Int32 → Prop} (h : w_X7_fault M Q) : MI l yX7_fault cX7_fault 1 (some .int) 0 0 g layX 68 [.ref (ga g 0)] M (fun r M9 => M9 = M ∧ Q r) :=
  m_of (by decide +kernel) (Nat.le_of_ble_eq_true rfl) (fun p e s m args below meth c ls C hr hk w hl => by
    have C : Cx p s m args c cX7_fault 1 RX7 g := C
    have hl : lv_has ls 1 [(0, .ref (ga g 0))] := hl
    unfold w_X7_fault at h
    obtain ⟨H, eH⟩ : ∃ H : Heap, H = s.heap := ⟨_, rfl⟩
    obtain ⟨locs, el⟩ : ∃ locs : List Loc, locs = [] := ⟨_, rfl⟩
    have w : Wd g layX 68 s.heap M H locs := by rw [eH, el]; exact w
    suffices hw : W p l e (rmOf 0 0) s m args below meth c H locs 0 0 (MQ below (va_Qi (fun r M9 => M9 = M ∧ Q r) (PostW g layX 68) (gF g)) args s 0 0 (gF g)) (F0 m 0 ls []) by rw [eH, el] at hw; exact hw
    clear eH el
    refine lv_aload_n C.1.1 C.1.2.1 dX7_fault_0 rfl (lv_at hl 0 rfl) ?_
    refine gi_RX7_88 C w hx_0 lx_0 rfl dX7_fault_1 ?_
    exact q_iret C hr hk w rfl ⟨rfl, h⟩ dX7_fault_4)
-- rule
set_option maxHeartbeats 4000000 in
set_option maxRecDepth 100000 in
theorem c_X7_rule {l : Launch} {g : Gt} {x1 : Int32} {M : Mem} {Q : Int32 → Prop} (h : w_X7_rule x1 M Q) : MI l yX7_rule cX7_rule 2 (some .int) 3 65 g layX 68 [.ref (ga g 0), .int x1] M (fun r M9 => M9 = M ∧ Q r) :=
  m_of (by decide +kernel) (Nat.le_of_ble_eq_true rfl) (fun p e s m args below meth c ls C hr hk w hl => by
    have C : Cx p s m args c cX7_rule 2 RX7 g := C
    have hl : lv_has ls 2 [(0, .ref (ga g 0)), (1, .int x1)] := hl
    unfold w_X7_rule at h
    obtain ⟨H, eH⟩ : ∃ H : Heap, H = s.heap := ⟨_, rfl⟩
    obtain ⟨locs, el⟩ : ∃ locs : List Loc, locs = [] := ⟨_, rfl⟩
    have w : Wd g layX 68 s.heap M H locs := by rw [eH, el]; exact w
    suffices hw : W p l e (rmOf 3 65) s m args below meth c H locs 0 0 (MQ below (va_Qi (fun r M9 => M9 = M ∧ Q r) (PostW g layX 68) (gF g)) args s 0 0 (gF g)) (F0 m 0 ls []) by rw [eH, el] at hw; exact hw
    clear eH el
    refine lv_iload_n C.1.1 C.1.2.1 dX7_rule_0 rfl (lv_at hl 1 rfl) ?_
    by_cases hc1 : x1 = 0
    · replace h := h.1 hc1
      refine q_tin C (off := 47) (tgt := 48) dX7_rule_1 hc1 (by decide) (by decide) (by decide) (by decide) ?_
      refine lv_aload_n C.1.1 C.1.2.1 dX7_rule_48 rfl (lv_at hl 0 rfl) ?_
      refine gr_RX7_10 C w hx_0 lx_0 rfl dX7_rule_49 ?_
      refine gi_RX7_101 C w hx_1 lx_1 rfl dX7_rule_52 ?_
      exact q_iret C hr hk w rfl ⟨rfl, h⟩ dX7_rule_55
    replace h := h.2 hc1
    by_cases hc2 : x1 = 1
    · replace h := h.1 hc2
      refine q_tin C (off := 55) (tgt := 56) dX7_rule_1 hc2 (by decide) (by decide) (by decide) (by decide) ?_
      refine lv_aload_n C.1.1 C.1.2.1 dX7_rule_56 rfl (lv_at hl 0 rfl) ?_
      refine gr_RX7_10 C w hx_0 lx_0 rfl dX7_rule_57 ?_
      refine gi_RX7_104 C w hx_1 lx_1 rfl dX7_rule_60 ?_
      exact q_iret C hr hk w rfl ⟨rfl, h⟩ dX7_rule_63
    replace h := h.2 hc2
    by_cases hc3 : x1 = 2
    · replace h := h.1 hc3
      refine q_tin C (off := 63) (tgt := 64) dX7_rule_1 hc3 (by decide) (by decide) (by decide) (by decide) ?_
      refine lv_aload_n C.1.1 C.1.2.1 dX7_rule_64 rfl (lv_at hl 0 rfl) ?_
      refine gr_RX7_10 C w hx_0 lx_0 rfl dX7_rule_65 ?_
      refine gi_RX7_107 C w hx_1 lx_1 rfl dX7_rule_68 ?_
      exact q_iret C hr hk w rfl ⟨rfl, h⟩ dX7_rule_71
    replace h := h.2 hc3
    by_cases hc4 : x1 = 3
    · replace h := h.1 hc4
      refine q_tin C (off := 71) (tgt := 72) dX7_rule_1 hc4 (by decide) (by decide) (by decide) (by decide) ?_
      refine lv_aload_n C.1.1 C.1.2.1 dX7_rule_72 rfl (lv_at hl 0 rfl) ?_
      refine gr_RX7_10 C w hx_0 lx_0 rfl dX7_rule_73 ?_
      refine gi_RX7_110 C w hx_1 lx_1 rfl dX7_rule_76 ?_
      exact q_iret C hr hk w rfl ⟨rfl, h⟩ dX7_rule_79
    replace h := h.2 hc4
    by_cases hc5 : x1 = 4
    · replace h := h.1 hc5
      refine q_tin C (off := 79) (tgt := 80) dX7_rule_1 hc5 (by decide) (by decide) (by decide) (by decide) ?_
      refine lv_aload_n C.1.1 C.1.2.1 dX7_rule_80 rfl (lv_at hl 0 rfl) ?_
      refine gr_RX7_10 C w hx_0 lx_0 rfl dX7_rule_81 ?_
      refine q_pVi C w [] (c_X0_lightOfAll isE_1 h) kv_X0_lightOfAll k_49 (rcv C w kc_X0 hx_1 lx_1) rfl hl.1 (Nat.le_of_ble_eq_true rfl) ⟨Nat.le_of_ble_eq_true rfl, Nat.le_of_ble_eq_true rfl⟩ dX7_rule_84 (fun r6 H locs h w => ?_)
      exact q_iret C hr hk w rfl ⟨rfl, h⟩ dX7_rule_87
    replace h := h.2 hc5
    by_cases hc7 : x1 = 5
    · replace h := h.1 hc7
      refine q_tin C (off := 87) (tgt := 88) dX7_rule_1 hc7 (by decide) (by decide) (by decide) (by decide) ?_
      refine lv_aload_n C.1.1 C.1.2.1 dX7_rule_88 rfl (lv_at hl 0 rfl) ?_
      refine gr_RX7_10 C w hx_0 lx_0 rfl dX7_rule_89 ?_
      refine q_pVi C w [] (c_X0_bagsOfAll isE_1 h) kv_X0_bagsOfAll k_50 (rcv C w kc_X0 hx_1 lx_1) rfl hl.1 (Nat.le_of_ble_eq_true rfl) ⟨Nat.le_of_ble_eq_true rfl, Nat.le_of_ble_eq_true rfl⟩ dX7_rule_92 (fun r8 H locs h w => ?_)
      exact q_iret C hr hk w rfl ⟨rfl, h⟩ dX7_rule_95
    replace h := h.2 hc7
    by_cases hc9 : x1 = 6
    · replace h := h.1 hc9
      refine q_tin C (off := 95) (tgt := 96) dX7_rule_1 hc9 (by decide) (by decide) (by decide) (by decide) ?_
      refine lv_aload_n C.1.1 C.1.2.1 dX7_rule_96 rfl (lv_at hl 0 rfl) ?_
      refine gr_RX7_10 C w hx_0 lx_0 rfl dX7_rule_97 ?_
      refine q_pVi C w [] (c_X0_heldBits isE_1 h) kv_X0_heldBits k_51 (rcv C w kc_X0 hx_1 lx_1) rfl hl.1 (Nat.le_of_ble_eq_true rfl) ⟨Nat.le_of_ble_eq_true rfl, Nat.le_of_ble_eq_true rfl⟩ dX7_rule_100 (fun r10 H locs h w => ?_)
      exact q_iret C hr hk w rfl ⟨rfl, h⟩ dX7_rule_103
    replace h := h.2 hc9
    by_cases hc11 : x1 = 7
    · replace h := h.1 hc11
      refine q_tin C (off := 103) (tgt := 104) dX7_rule_1 hc11 (by decide) (by decide) (by decide) (by decide) ?_
      refine lv_aload_n C.1.1 C.1.2.1 dX7_rule_104 rfl (lv_at hl 0 rfl) ?_
      refine gr_RX7_10 C w hx_0 lx_0 rfl dX7_rule_105 ?_
      refine q_pVi C w [] (c_X0_nextCaughtBits isE_1 h) kv_X0_nextCaughtBits k_52 (rcv C w kc_X0 hx_1 lx_1) rfl hl.1 (Nat.le_of_ble_eq_true rfl) ⟨Nat.le_of_ble_eq_true rfl, Nat.le_of_ble_eq_true rfl⟩ dX7_rule_108 (fun r12 H locs h w => ?_)
      exact q_iret C hr hk w rfl ⟨rfl, h⟩ dX7_rule_111
    replace h := h.2 hc11
    have nhc1 : ¬ x1.toInt = 0 := lv_neT hc1 (by decide)
    have nhc2 : ¬ x1.toInt = 1 := lv_neT hc2 (by decide)
    have nhc3 : ¬ x1.toInt = 2 := lv_neT hc3 (by decide)
    have nhc4 : ¬ x1.toInt = 3 := lv_neT hc4 (by decide)
    have nhc5 : ¬ x1.toInt = 4 := lv_neT hc5 (by decide)
    have nhc7 : ¬ x1.toInt = 5 := lv_neT hc7 (by decide)
    have nhc9 : ¬ x1.toInt = 6 := lv_neT hc9 (by decide)
    have nhc11 : ¬ x1.toInt = 7 := lv_neT hc11 (by decide)
    refine q_tout C (tgt := 112) dX7_rule_1 (by omega) (by decide) ?_
    refine lv_iconst (v := (-1)) C.1.1 C.1.2.1 dX7_rule_112 (by decide) ?_
    exact q_iret C hr hk w rfl ⟨rfl, h⟩ dX7_rule_113)
-- isNoGate
set_option maxHeartbeats 4000000 in
set_option maxRecDepth 100000 in
theorem c_X7_isNoGate {l : Launch} {g : Gt} {x0 : Int32} {M : Mem} {Q : Int32 → Prop} (h : w_X7_isNoGate x0 M Q) : MI l yX7_isNoGate cX7_isNoGate 1 (some .boolean) 1 22 g layX 68 [.int x0] M (fun r M9 => M9 = M ∧ Q r) :=
  m_of (by decide +kernel) (Nat.le_of_ble_eq_true rfl) (fun p e s m args below meth c ls C hr hk w hl => by
    have C : Cx p s m args c cX7_isNoGate 1 RX7 g := C
    have hl : lv_has ls 1 [(0, .int x0)] := hl
    unfold w_X7_isNoGate at h
    obtain ⟨H, eH⟩ : ∃ H : Heap, H = s.heap := ⟨_, rfl⟩
    obtain ⟨locs, el⟩ : ∃ locs : List Loc, locs = [] := ⟨_, rfl⟩
    have w : Wd g layX 68 s.heap M H locs := by rw [eH, el]; exact w
    suffices hw : W p l e (rmOf 1 22) s m args below meth c H locs 0 0 (MQ below (va_Qi (fun r M9 => M9 = M ∧ Q r) (PostW g layX 68) (gF g)) args s 0 0 (gF g)) (F0 m 0 ls []) by rw [eH, el] at hw; exact hw
    clear eH el
    refine lv_iload_n C.1.1 C.1.2.1 dX7_isNoGate_0 rfl (lv_at hl 0 rfl) ?_
    refine lv_iconst (v := 0) C.1.1 C.1.2.1 dX7_isNoGate_1 (by decide) ?_
    refine lv_iconst (v := 5) C.1.1 C.1.2.1 dX7_isNoGate_2 (by decide) ?_
    refine q_pSi C w [.int x0, .int 0, .int 5] (c_X7_isOutside  h) ks_X7_isOutside k_45  rfl hl.1 (Nat.le_of_ble_eq_true rfl) ⟨Nat.le_of_ble_eq_true rfl, Nat.le_of_ble_eq_true rfl⟩ dX7_isNoGate_3 (fun r1 H locs h w => ?_)
    exact q_iret C hr hk w h.1 ⟨rfl, h.2⟩ dX7_isNoGate_6)
-- gate
set_option maxHeartbeats 4000000 in
set_option maxRecDepth 100000 in
theorem c_X7_gate {l : Launch} {g : Gt} {x1 : Int32} {x2 : Int32} {M : Mem} {Q : Int32 → Prop} (h : w_X7_gate x1 x2 M Q) : MI l yX7_gate cX7_gate 3 (some .int) 2 44 g layX 68 [.ref (ga g 0), .int x1, .int x2] M (fun r M9 => M9 = M ∧ Q r) :=
  m_of (by decide +kernel) (Nat.le_of_ble_eq_true rfl) (fun p e s m args below meth c ls C hr hk w hl => by
    have C : Cx p s m args c cX7_gate 3 RX7 g := C
    have hl : lv_has ls 3 [(0, .ref (ga g 0)), (1, .int x1), (2, .int x2)] := hl
    unfold w_X7_gate at h
    obtain ⟨H, eH⟩ : ∃ H : Heap, H = s.heap := ⟨_, rfl⟩
    obtain ⟨locs, el⟩ : ∃ locs : List Loc, locs = [] := ⟨_, rfl⟩
    have w : Wd g layX 68 s.heap M H locs := by rw [eH, el]; exact w
    suffices hw : W p l e (rmOf 2 44) s m args below meth c H locs 0 0 (MQ below (va_Qi (fun r M9 => M9 = M ∧ Q r) (PostW g layX 68) (gF g)) args s 0 0 (gF g)) (F0 m 0 ls []) by rw [eH, el] at hw; exact hw
    clear eH el
    refine lv_iload_n C.1.1 C.1.2.1 dX7_gate_0 rfl (lv_at hl 1 rfl) ?_
    refine q_pSi C w [.int x1] (c_X7_isNoGate  h) ks_X7_isNoGate k_53  rfl hl.1 (Nat.le_of_ble_eq_true rfl) ⟨Nat.le_of_ble_eq_true rfl, Nat.le_of_ble_eq_true rfl⟩ dX7_gate_1 (fun r1 H locs h w => ?_)
    refine lv_if_eq (tgt := 9) C.1.1 C.1.2.1 dX7_gate_4 (by decide) (fun hc2 => ?_) (fun hc2 => ?_)
    · replace h := h.1 hc2
      refine lv_iload_n C.1.1 C.1.2.1 dX7_gate_9 rfl (lv_at hl 2 rfl) ?_
      by_cases hc3 : x2 = 0
      · replace h := h.1 hc3
        refine q_tin C (off := 30) (tgt := 40) dX7_gate_10 hc3 (by decide) (by decide) (by decide) (by decide) ?_
        refine lv_aload_n C.1.1 C.1.2.1 dX7_gate_40 rfl (lv_at hl 0 rfl) ?_
        refine gr_RX7_10 C w hx_0 lx_0 rfl dX7_gate_41 ?_
        refine gr_RX7_129 C w hx_1 lx_1 rfl dX7_gate_44 ?_
        refine lv_iload_n C.1.1 C.1.2.1 dX7_gate_47 rfl (lv_at hl 1 rfl) ?_
        refine q_ial C w hx_2 lx_2 h.1 dX7_gate_48 ?_
        replace h := h.2
        exact q_iret C hr hk w rfl ⟨rfl, h⟩ dX7_gate_49
      replace h := h.2 hc3
      by_cases hc4 : x2 = 1
      · replace h := h.1 hc4
        refine q_tin C (off := 40) (tgt := 50) dX7_gate_10 hc4 (by decide) (by decide) (by decide) (by decide) ?_
        refine lv_aload_n C.1.1 C.1.2.1 dX7_gate_50 rfl (lv_at hl 0 rfl) ?_
        refine gr_RX7_10 C w hx_0 lx_0 rfl dX7_gate_51 ?_
        refine gr_RX7_133 C w hx_1 lx_1 rfl dX7_gate_54 ?_
        refine lv_iload_n C.1.1 C.1.2.1 dX7_gate_57 rfl (lv_at hl 1 rfl) ?_
        refine q_ial C w hx_3 lx_3 h.1 dX7_gate_58 ?_
        replace h := h.2
        exact q_iret C hr hk w rfl ⟨rfl, h⟩ dX7_gate_59
      replace h := h.2 hc4
      by_cases hc5 : x2 = 2
      · replace h := h.1 hc5
        refine q_tin C (off := 50) (tgt := 60) dX7_gate_10 hc5 (by decide) (by decide) (by decide) (by decide) ?_
        refine lv_aload_n C.1.1 C.1.2.1 dX7_gate_60 rfl (lv_at hl 0 rfl) ?_
        refine gr_RX7_10 C w hx_0 lx_0 rfl dX7_gate_61 ?_
        refine lv_iload_n C.1.1 C.1.2.1 dX7_gate_64 rfl (lv_at hl 1 rfl) ?_
        refine q_pVi C w [.int x1] (c_X0_takerBitsAt isE_1 h) kv_X0_takerBitsAt k_54 (rcv C w kc_X0 hx_1 lx_1) rfl hl.1 (Nat.le_of_ble_eq_true rfl) ⟨Nat.le_of_ble_eq_true rfl, Nat.le_of_ble_eq_true rfl⟩ dX7_gate_65 (fun r6 H locs h w => ?_)
        exact q_iret C hr hk w rfl ⟨rfl, h⟩ dX7_gate_68
      replace h := h.2 hc5
      by_cases hc7 : x2 = 3
      · replace h := h.1 hc7
        refine q_tin C (off := 59) (tgt := 69) dX7_gate_10 hc7 (by decide) (by decide) (by decide) (by decide) ?_
        refine lv_aload_n C.1.1 C.1.2.1 dX7_gate_69 rfl (lv_at hl 0 rfl) ?_
        refine gr_RX7_10 C w hx_0 lx_0 rfl dX7_gate_70 ?_
        refine lv_iload_n C.1.1 C.1.2.1 dX7_gate_73 rfl (lv_at hl 1 rfl) ?_
        refine q_pVi C w [.int x1] (c_X0_keeperBitsAt isE_1 h) kv_X0_keeperBitsAt k_55 (rcv C w kc_X0 hx_1 lx_1) rfl hl.1 (Nat.le_of_ble_eq_true rfl) ⟨Nat.le_of_ble_eq_true rfl, Nat.le_of_ble_eq_true rfl⟩ dX7_gate_74 (fun r8 H locs h w => ?_)
        exact q_iret C hr hk w rfl ⟨rfl, h⟩ dX7_gate_77
      replace h := h.2 hc7
      have nhc3 : ¬ x2.toInt = 0 := lv_neT hc3 (by decide)
      have nhc4 : ¬ x2.toInt = 1 := lv_neT hc4 (by decide)
      have nhc5 : ¬ x2.toInt = 2 := lv_neT hc5 (by decide)
      have nhc7 : ¬ x2.toInt = 3 := lv_neT hc7 (by decide)
      refine q_tout C (tgt := 78) dX7_gate_10 (by omega) (by decide) ?_
      refine lv_iconst (v := (-1)) C.1.1 C.1.2.1 dX7_gate_78 (by decide) ?_
      exact q_iret C hr hk w rfl ⟨rfl, h⟩ dX7_gate_79
    · replace h := h.2 hc2
      refine lv_iconst (v := (-1)) C.1.1 C.1.2.1 dX7_gate_7 (by decide) ?_
      exact q_iret C hr hk w rfl ⟨rfl, h⟩ dX7_gate_8)
-- isNoTaker
set_option maxHeartbeats 4000000 in
set_option maxRecDepth 100000 in
theorem c_X7_isNoTaker {l : Launch} {g : Gt} {x1 : Int32} {M : Mem} {Q : Int32 → Prop} (h : w_X7_isNoTaker x1 M Q) : MI l yX7_isNoTaker cX7_isNoTaker 2 (some .boolean) 1 22 g layX 68 [.ref (ga g 0), .int x1] M (fun r M9 => M9 = M ∧ Q r) :=
  m_of (by decide +kernel) (Nat.le_of_ble_eq_true rfl) (fun p e s m args below meth c ls C hr hk w hl => by
    have C : Cx p s m args c cX7_isNoTaker 2 RX7 g := C
    have hl : lv_has ls 2 [(0, .ref (ga g 0)), (1, .int x1)] := hl
    unfold w_X7_isNoTaker at h
    obtain ⟨H, eH⟩ : ∃ H : Heap, H = s.heap := ⟨_, rfl⟩
    obtain ⟨locs, el⟩ : ∃ locs : List Loc, locs = [] := ⟨_, rfl⟩
    have w : Wd g layX 68 s.heap M H locs := by rw [eH, el]; exact w
    suffices hw : W p l e (rmOf 1 22) s m args below meth c H locs 0 0 (MQ below (va_Qi (fun r M9 => M9 = M ∧ Q r) (PostW g layX 68) (gF g)) args s 0 0 (gF g)) (F0 m 0 ls []) by rw [eH, el] at hw; exact hw
    clear eH el
    refine lv_iload_n C.1.1 C.1.2.1 dX7_isNoTaker_0 rfl (lv_at hl 1 rfl) ?_
    refine lv_iconst (v := 0) C.1.1 C.1.2.1 dX7_isNoTaker_1 (by decide) ?_
    refine lv_aload_n C.1.1 C.1.2.1 dX7_isNoTaker_2 rfl (lv_at hl 0 rfl) ?_
    refine gr_RX7_10 C w hx_0 lx_0 rfl dX7_isNoTaker_3 ?_
    refine gi_RX7_101 C w hx_1 lx_1 rfl dX7_isNoTaker_6 ?_
    refine lv_iconst (v := 1) C.1.1 C.1.2.1 dX7_isNoTaker_9 (by decide) ?_
    refine lv_isub C.1.1 C.1.2.1 dX7_isNoTaker_10 ?_
    refine q_pSi C w [.int x1, .int 0, .int ((M 1 9) - 1)] (c_X7_isOutside  h) ks_X7_isOutside k_45  rfl hl.1 (Nat.le_of_ble_eq_true rfl) ⟨Nat.le_of_ble_eq_true rfl, Nat.le_of_ble_eq_true rfl⟩ dX7_isNoTaker_11 (fun r1 H locs h w => ?_)
    exact q_iret C hr hk w h.1 ⟨rfl, h.2⟩ dX7_isNoTaker_14)
-- taker
set_option maxHeartbeats 4000000 in
set_option maxRecDepth 100000 in
theorem c_X7_taker {l : Launch} {g : Gt} {x1 : Int32} {x2 : Int32} {M : Mem} {Q : Int32 → Prop} (h : w_X7_taker x1 x2 M Q) : MI l yX7_taker cX7_taker 3 (some .int) 2 43 g layX 68 [.ref (ga g 0), .int x1, .int x2] M (fun r M9 => M9 = M ∧ Q r) :=
  m_of (by decide +kernel) (Nat.le_of_ble_eq_true rfl) (fun p e s m args below meth c ls C hr hk w hl => by
    have C : Cx p s m args c cX7_taker 3 RX7 g := C
    have hl : lv_has ls 3 [(0, .ref (ga g 0)), (1, .int x1), (2, .int x2)] := hl
    unfold w_X7_taker at h
    obtain ⟨H, eH⟩ : ∃ H : Heap, H = s.heap := ⟨_, rfl⟩
    obtain ⟨locs, el⟩ : ∃ locs : List Loc, locs = [] := ⟨_, rfl⟩
    have w : Wd g layX 68 s.heap M H locs := by rw [eH, el]; exact w
    suffices hw : W p l e (rmOf 2 43) s m args below meth c H locs 0 0 (MQ below (va_Qi (fun r M9 => M9 = M ∧ Q r) (PostW g layX 68) (gF g)) args s 0 0 (gF g)) (F0 m 0 ls []) by rw [eH, el] at hw; exact hw
    clear eH el
    refine lv_aload_n C.1.1 C.1.2.1 dX7_taker_0 rfl (lv_at hl 0 rfl) ?_
    refine lv_iload_n C.1.1 C.1.2.1 dX7_taker_1 rfl (lv_at hl 1 rfl) ?_
    refine q_pVi C w [.int x1] (c_X7_isNoTaker  h) kv_X7_isNoTaker k_56 (rcv C w kc_X7 hx_0 lx_0) rfl hl.1 (Nat.le_of_ble_eq_true rfl) ⟨Nat.le_of_ble_eq_true rfl, Nat.le_of_ble_eq_true rfl⟩ dX7_taker_2 (fun r1 H locs h w => ?_)
    refine lv_if_eq (tgt := 10) C.1.1 C.1.2.1 dX7_taker_5 (by decide) (fun hc2 => ?_) (fun hc2 => ?_)
    · replace h := h.1 hc2
      refine lv_iload_n C.1.1 C.1.2.1 dX7_taker_10 rfl (lv_at hl 2 rfl) ?_
      by_cases hc3 : x2 = 0
      · replace h := h.1 hc3
        refine q_tin C (off := 37) (tgt := 48) dX7_taker_11 hc3 (by decide) (by decide) (by decide) (by decide) ?_
        refine lv_aload_n C.1.1 C.1.2.1 dX7_taker_48 rfl (lv_at hl 0 rfl) ?_
        refine gr_RX7_10 C w hx_0 lx_0 rfl dX7_taker_49 ?_
        refine gr_RX7_146 C w hx_1 lx_1 rfl dX7_taker_52 ?_
        refine lv_iload_n C.1.1 C.1.2.1 dX7_taker_55 rfl (lv_at hl 1 rfl) ?_
        refine q_ial C w hx_4 lx_4 h.1 dX7_taker_56 ?_
        replace h := h.2
        exact q_iret C hr hk w rfl ⟨rfl, h⟩ dX7_taker_57
      replace h := h.2 hc3
      by_cases hc4 : x2 = 1
      · replace h := h.1 hc4
        refine q_tin C (off := 47) (tgt := 58) dX7_taker_11 hc4 (by decide) (by decide) (by decide) (by decide) ?_
        refine lv_aload_n C.1.1 C.1.2.1 dX7_taker_58 rfl (lv_at hl 0 rfl) ?_
        refine gr_RX7_10 C w hx_0 lx_0 rfl dX7_taker_59 ?_
        refine gr_RX7_149 C w hx_1 lx_1 rfl dX7_taker_62 ?_
        refine lv_iload_n C.1.1 C.1.2.1 dX7_taker_65 rfl (lv_at hl 1 rfl) ?_
        refine q_ial C w hx_5 lx_5 h.1 dX7_taker_66 ?_
        replace h := h.2
        exact q_iret C hr hk w rfl ⟨rfl, h⟩ dX7_taker_67
      replace h := h.2 hc4
      by_cases hc5 : x2 = 2
      · replace h := h.1 hc5
        refine q_tin C (off := 57) (tgt := 68) dX7_taker_11 hc5 (by decide) (by decide) (by decide) (by decide) ?_
        refine lv_aload_n C.1.1 C.1.2.1 dX7_taker_68 rfl (lv_at hl 0 rfl) ?_
        refine gr_RX7_10 C w hx_0 lx_0 rfl dX7_taker_69 ?_
        refine gr_RX7_152 C w hx_1 lx_1 rfl dX7_taker_72 ?_
        refine lv_iload_n C.1.1 C.1.2.1 dX7_taker_75 rfl (lv_at hl 1 rfl) ?_
        refine q_ial C w hx_6 lx_6 h.1 dX7_taker_76 ?_
        replace h := h.2
        exact q_iret C hr hk w rfl ⟨rfl, h⟩ dX7_taker_77
      replace h := h.2 hc5
      by_cases hc6 : x2 = 3
      · replace h := h.1 hc6
        refine q_tin C (off := 67) (tgt := 78) dX7_taker_11 hc6 (by decide) (by decide) (by decide) (by decide) ?_
        refine lv_aload_n C.1.1 C.1.2.1 dX7_taker_78 rfl (lv_at hl 0 rfl) ?_
        refine gr_RX7_10 C w hx_0 lx_0 rfl dX7_taker_79 ?_
        refine gr_RX7_155 C w hx_1 lx_1 rfl dX7_taker_82 ?_
        refine lv_iload_n C.1.1 C.1.2.1 dX7_taker_85 rfl (lv_at hl 1 rfl) ?_
        refine q_ial C w hx_7 lx_7 h.1 dX7_taker_86 ?_
        replace h := h.2
        exact q_iret C hr hk w rfl ⟨rfl, h⟩ dX7_taker_87
      replace h := h.2 hc6
      by_cases hc7 : x2 = 4
      · replace h := h.1 hc7
        refine q_tin C (off := 77) (tgt := 88) dX7_taker_11 hc7 (by decide) (by decide) (by decide) (by decide) ?_
        refine lv_aload_n C.1.1 C.1.2.1 dX7_taker_88 rfl (lv_at hl 0 rfl) ?_
        refine gr_RX7_10 C w hx_0 lx_0 rfl dX7_taker_89 ?_
        refine lv_iload_n C.1.1 C.1.2.1 dX7_taker_92 rfl (lv_at hl 1 rfl) ?_
        refine q_pVi C w [.int x1] (c_X0_takes isE_1 h) kv_X0_takes k_57 (rcv C w kc_X0 hx_1 lx_1) rfl hl.1 (Nat.le_of_ble_eq_true rfl) ⟨Nat.le_of_ble_eq_true rfl, Nat.le_of_ble_eq_true rfl⟩ dX7_taker_93 (fun r8 H locs h w => ?_)
        exact q_iret C hr hk w rfl ⟨rfl, h⟩ dX7_taker_96
      replace h := h.2 hc7
      by_cases hc9 : x2 = 5
      · replace h := h.1 hc9
        refine q_tin C (off := 86) (tgt := 97) dX7_taker_11 hc9 (by decide) (by decide) (by decide) (by decide) ?_
        refine lv_aload_n C.1.1 C.1.2.1 dX7_taker_97 rfl (lv_at hl 0 rfl) ?_
        refine gr_RX7_10 C w hx_0 lx_0 rfl dX7_taker_98 ?_
        refine lv_iload_n C.1.1 C.1.2.1 dX7_taker_101 rfl (lv_at hl 1 rfl) ?_
        refine q_pVi C w [.int x1] (c_X0_noise isE_1 h) kv_X0_noise k_58 (rcv C w kc_X0 hx_1 lx_1) rfl hl.1 (Nat.le_of_ble_eq_true rfl) ⟨Nat.le_of_ble_eq_true rfl, Nat.le_of_ble_eq_true rfl⟩ dX7_taker_102 (fun r10 H locs h w => ?_)
        exact q_iret C hr hk w rfl ⟨rfl, h⟩ dX7_taker_105
      replace h := h.2 hc9
      have nhc3 : ¬ x2.toInt = 0 := lv_neT hc3 (by decide)
      have nhc4 : ¬ x2.toInt = 1 := lv_neT hc4 (by decide)
      have nhc5 : ¬ x2.toInt = 2 := lv_neT hc5 (by decide)
      have nhc6 : ¬ x2.toInt = 3 := lv_neT hc6 (by decide)
      have nhc7 : ¬ x2.toInt = 4 := lv_neT hc7 (by decide)
      have nhc9 : ¬ x2.toInt = 5 := lv_neT hc9 (by decide)
      refine q_tout C (tgt := 106) dX7_taker_11 (by omega) (by decide) ?_
      refine lv_iconst (v := (-1)) C.1.1 C.1.2.1 dX7_taker_106 (by decide) ?_
      exact q_iret C hr hk w rfl ⟨rfl, h⟩ dX7_taker_107
    · replace h := h.2 hc2
      refine lv_iconst (v := (-1)) C.1.1 C.1.2.1 dX7_taker_8 (by decide) ?_
      exact q_iret C hr hk w rfl ⟨rfl, h⟩ dX7_taker_9)
-- isNoKeeper
set_option maxHeartbeats 4000000 in
set_option maxRecDepth 100000 in
theorem c_X7_isNoKeeper {l : Launch} {g : Gt} {x1 : Int32} {M : Mem} {Q : Int32 → Prop} (h : w_X7_isNoKeeper x1 M Q) : MI l yX7_isNoKeeper cX7_isNoKeeper 2 (some .boolean) 1 22 g layX 68 [.ref (ga g 0), .int x1] M (fun r M9 => M9 = M ∧ Q r) :=
  m_of (by decide +kernel) (Nat.le_of_ble_eq_true rfl) (fun p e s m args below meth c ls C hr hk w hl => by
    have C : Cx p s m args c cX7_isNoKeeper 2 RX7 g := C
    have hl : lv_has ls 2 [(0, .ref (ga g 0)), (1, .int x1)] := hl
    unfold w_X7_isNoKeeper at h
    obtain ⟨H, eH⟩ : ∃ H : Heap, H = s.heap := ⟨_, rfl⟩
    obtain ⟨locs, el⟩ : ∃ locs : List Loc, locs = [] := ⟨_, rfl⟩
    have w : Wd g layX 68 s.heap M H locs := by rw [eH, el]; exact w
    suffices hw : W p l e (rmOf 1 22) s m args below meth c H locs 0 0 (MQ below (va_Qi (fun r M9 => M9 = M ∧ Q r) (PostW g layX 68) (gF g)) args s 0 0 (gF g)) (F0 m 0 ls []) by rw [eH, el] at hw; exact hw
    clear eH el
    refine lv_iload_n C.1.1 C.1.2.1 dX7_isNoKeeper_0 rfl (lv_at hl 1 rfl) ?_
    refine lv_iconst (v := 0) C.1.1 C.1.2.1 dX7_isNoKeeper_1 (by decide) ?_
    refine lv_aload_n C.1.1 C.1.2.1 dX7_isNoKeeper_2 rfl (lv_at hl 0 rfl) ?_
    refine gr_RX7_10 C w hx_0 lx_0 rfl dX7_isNoKeeper_3 ?_
    refine gi_RX7_104 C w hx_1 lx_1 rfl dX7_isNoKeeper_6 ?_
    refine lv_iconst (v := 1) C.1.1 C.1.2.1 dX7_isNoKeeper_9 (by decide) ?_
    refine lv_isub C.1.1 C.1.2.1 dX7_isNoKeeper_10 ?_
    refine q_pSi C w [.int x1, .int 0, .int ((M 1 10) - 1)] (c_X7_isOutside  h) ks_X7_isOutside k_45  rfl hl.1 (Nat.le_of_ble_eq_true rfl) ⟨Nat.le_of_ble_eq_true rfl, Nat.le_of_ble_eq_true rfl⟩ dX7_isNoKeeper_11 (fun r1 H locs h w => ?_)
    exact q_iret C hr hk w h.1 ⟨rfl, h.2⟩ dX7_isNoKeeper_14)
-- keeper
set_option maxHeartbeats 4000000 in
set_option maxRecDepth 100000 in
theorem c_X7_keeper {l : Launch} {g : Gt} {x1 : Int32} {x2 : Int32} {M : Mem} {Q : Int32 → Prop} (h : w_X7_keeper x1 x2 M Q) : MI l yX7_keeper cX7_keeper 3 (some .int) 2 43 g layX 68 [.ref (ga g 0), .int x1, .int x2] M (fun r M9 => M9 = M ∧ Q r) :=
  m_of (by decide +kernel) (Nat.le_of_ble_eq_true rfl) (fun p e s m args below meth c ls C hr hk w hl => by
    have C : Cx p s m args c cX7_keeper 3 RX7 g := C
    have hl : lv_has ls 3 [(0, .ref (ga g 0)), (1, .int x1), (2, .int x2)] := hl
    unfold w_X7_keeper at h
    obtain ⟨H, eH⟩ : ∃ H : Heap, H = s.heap := ⟨_, rfl⟩
    obtain ⟨locs, el⟩ : ∃ locs : List Loc, locs = [] := ⟨_, rfl⟩
    have w : Wd g layX 68 s.heap M H locs := by rw [eH, el]; exact w
    suffices hw : W p l e (rmOf 2 43) s m args below meth c H locs 0 0 (MQ below (va_Qi (fun r M9 => M9 = M ∧ Q r) (PostW g layX 68) (gF g)) args s 0 0 (gF g)) (F0 m 0 ls []) by rw [eH, el] at hw; exact hw
    clear eH el
    refine lv_aload_n C.1.1 C.1.2.1 dX7_keeper_0 rfl (lv_at hl 0 rfl) ?_
    refine lv_iload_n C.1.1 C.1.2.1 dX7_keeper_1 rfl (lv_at hl 1 rfl) ?_
    refine q_pVi C w [.int x1] (c_X7_isNoKeeper  h) kv_X7_isNoKeeper k_59 (rcv C w kc_X7 hx_0 lx_0) rfl hl.1 (Nat.le_of_ble_eq_true rfl) ⟨Nat.le_of_ble_eq_true rfl, Nat.le_of_ble_eq_true rfl⟩ dX7_keeper_2 (fun r1 H locs h w => ?_)
    refine lv_if_eq (tgt := 10) C.1.1 C.1.2.1 dX7_keeper_5 (by decide) (fun hc2 => ?_) (fun hc2 => ?_)
    · replace h := h.1 hc2
      refine lv_iload_n C.1.1 C.1.2.1 dX7_keeper_10 rfl (lv_at hl 2 rfl) ?_
      by_cases hc3 : x2 = 0
      · replace h := h.1 hc3
        refine q_tin C (off := 29) (tgt := 40) dX7_keeper_11 hc3 (by decide) (by decide) (by decide) (by decide) ?_
        refine lv_aload_n C.1.1 C.1.2.1 dX7_keeper_40 rfl (lv_at hl 0 rfl) ?_
        refine gr_RX7_10 C w hx_0 lx_0 rfl dX7_keeper_41 ?_
        refine gr_RX7_167 C w hx_1 lx_1 rfl dX7_keeper_44 ?_
        refine lv_iload_n C.1.1 C.1.2.1 dX7_keeper_47 rfl (lv_at hl 1 rfl) ?_
        refine q_ial C w hx_8 lx_8 h.1 dX7_keeper_48 ?_
        replace h := h.2
        exact q_iret C hr hk w rfl ⟨rfl, h⟩ dX7_keeper_49
      replace h := h.2 hc3
      by_cases hc4 : x2 = 1
      · replace h := h.1 hc4
        refine q_tin C (off := 39) (tgt := 50) dX7_keeper_11 hc4 (by decide) (by decide) (by decide) (by decide) ?_
        refine lv_aload_n C.1.1 C.1.2.1 dX7_keeper_50 rfl (lv_at hl 0 rfl) ?_
        refine gr_RX7_10 C w hx_0 lx_0 rfl dX7_keeper_51 ?_
        refine gr_RX7_170 C w hx_1 lx_1 rfl dX7_keeper_54 ?_
        refine lv_iload_n C.1.1 C.1.2.1 dX7_keeper_57 rfl (lv_at hl 1 rfl) ?_
        refine q_ial C w hx_9 lx_9 h.1 dX7_keeper_58 ?_
        replace h := h.2
        exact q_iret C hr hk w rfl ⟨rfl, h⟩ dX7_keeper_59
      replace h := h.2 hc4
      by_cases hc5 : x2 = 2
      · replace h := h.1 hc5
        refine q_tin C (off := 49) (tgt := 60) dX7_keeper_11 hc5 (by decide) (by decide) (by decide) (by decide) ?_
        refine lv_aload_n C.1.1 C.1.2.1 dX7_keeper_60 rfl (lv_at hl 0 rfl) ?_
        refine gr_RX7_10 C w hx_0 lx_0 rfl dX7_keeper_61 ?_
        refine gr_RX7_173 C w hx_1 lx_1 rfl dX7_keeper_64 ?_
        refine lv_iload_n C.1.1 C.1.2.1 dX7_keeper_67 rfl (lv_at hl 1 rfl) ?_
        refine q_ial C w hx_10 lx_10 h.1 dX7_keeper_68 ?_
        replace h := h.2
        exact q_iret C hr hk w rfl ⟨rfl, h⟩ dX7_keeper_69
      replace h := h.2 hc5
      by_cases hc6 : x2 = 3
      · replace h := h.1 hc6
        refine q_tin C (off := 59) (tgt := 70) dX7_keeper_11 hc6 (by decide) (by decide) (by decide) (by decide) ?_
        refine lv_aload_n C.1.1 C.1.2.1 dX7_keeper_70 rfl (lv_at hl 0 rfl) ?_
        refine gr_RX7_10 C w hx_0 lx_0 rfl dX7_keeper_71 ?_
        refine lv_iload_n C.1.1 C.1.2.1 dX7_keeper_74 rfl (lv_at hl 1 rfl) ?_
        refine q_pVi C w [.int x1] (c_X0_placeOf isE_1 h) kv_X0_placeOf k_60 (rcv C w kc_X0 hx_1 lx_1) rfl hl.1 (Nat.le_of_ble_eq_true rfl) ⟨Nat.le_of_ble_eq_true rfl, Nat.le_of_ble_eq_true rfl⟩ dX7_keeper_75 (fun r7 H locs h w => ?_)
        exact q_iret C hr hk w rfl ⟨rfl, h⟩ dX7_keeper_78
      replace h := h.2 hc6
      have nhc3 : ¬ x2.toInt = 0 := lv_neT hc3 (by decide)
      have nhc4 : ¬ x2.toInt = 1 := lv_neT hc4 (by decide)
      have nhc5 : ¬ x2.toInt = 2 := lv_neT hc5 (by decide)
      have nhc6 : ¬ x2.toInt = 3 := lv_neT hc6 (by decide)
      refine q_tout C (tgt := 79) dX7_keeper_11 (by omega) (by decide) ?_
      refine lv_iconst (v := (-1)) C.1.1 C.1.2.1 dX7_keeper_79 (by decide) ?_
      exact q_iret C hr hk w rfl ⟨rfl, h⟩ dX7_keeper_80
    · replace h := h.2 hc2
      refine lv_iconst (v := (-1)) C.1.1 C.1.2.1 dX7_keeper_8 (by decide) ?_
      exact q_iret C hr hk w rfl ⟨rfl, h⟩ dX7_keeper_9)
-- replace
set_option maxHeartbeats 4000000 in
set_option maxRecDepth 100000 in
theorem c_X7_replace {l : Launch} {g : Gt} {r : Nat} {nr : Nat} {x1 : Int32} {x2 : Int32} {x3 : Int32} {x4 : Int32} {M : Mem} {Q : Int32 → Mem → Prop} (hA : r < 68 ∧ layX r = .inr (.inl (0, nr))) (h : w_X7_replace r nr x1 x2 x3 x4 M Q) : MI l yX7_replace cX7_replace 6 (some .int) 1 22 g layX 68 [.ref (ga g r), .int x1, .int x2, .int x3, .int x4] M Q :=
  m_of (by decide +kernel) (Nat.le_of_ble_eq_true rfl) (fun p e s m args below meth c ls C hr hk w hl => by
    have C : Cx p s m args c cX7_replace 6 RX7 g := C
    have hl : lv_has ls 6 [(0, .ref (ga g r)), (1, .int x1), (2, .int x2), (3, .int x3), (4, .int x4)] := hl
    unfold w_X7_replace at h
    obtain ⟨H, eH⟩ : ∃ H : Heap, H = s.heap := ⟨_, rfl⟩
    obtain ⟨locs, el⟩ : ∃ locs : List Loc, locs = [] := ⟨_, rfl⟩
    have w : Wd g layX 68 s.heap M H locs := by rw [eH, el]; exact w
    suffices hw : W p l e (rmOf 1 22) s m args below meth c H locs 0 0 (MQ below (va_Qi Q (PostW g layX 68) (gF g)) args s 0 0 (gF g)) (F0 m 0 ls []) by rw [eH, el] at hw; exact hw
    clear eH el
    refine lv_iload_n C.1.1 C.1.2.1 dX7_replace_0 rfl (lv_at hl 2 rfl) ?_
    refine lv_iload_n C.1.1 C.1.2.1 dX7_replace_1 rfl (lv_at hl 3 rfl) ?_
    refine lv_iload C.1.1 C.1.2.1 dX7_replace_2 (lv_at hl 4 rfl) ?_
    refine q_pSi C w [.int x2, .int x3, .int x4] (c_X7_isOutside  h) ks_X7_isOutside k_45  rfl hl.1 (Nat.le_of_ble_eq_true rfl) ⟨Nat.le_of_ble_eq_true rfl, Nat.le_of_ble_eq_true rfl⟩ dX7_replace_4 (fun r1 H locs h w => ?_)
    refine lv_if_ne (tgt := 22) C.1.1 C.1.2.1 dX7_replace_7 (by decide) (fun hc2 => ?_) (fun hc2 => ?_)
    · replace h := h.2 hc2
      refine lv_iconst (v := (-1)) C.1.1 C.1.2.1 dX7_replace_22 (by decide) ?_
      exact q_iret C hr hk w rfl h dX7_replace_23
    · replace h := h.1 hc2
      refine lv_iload_n C.1.1 C.1.2.1 dX7_replace_10 rfl (lv_at hl 1 rfl) ?_
      refine lv_iconst (v := 0) C.1.1 C.1.2.1 dX7_replace_11 (by decide) ?_
      refine lv_aload_n C.1.1 C.1.2.1 dX7_replace_12 rfl (lv_at hl 0 rfl) ?_
      refine q_alen C w hA.1 hA.2 (by decide) dX7_replace_13 ?_
      refine lv_iconst (v := 1) C.1.1 C.1.2.1 dX7_replace_14 (by decide) ?_
      refine lv_isub C.1.1 C.1.2.1 dX7_replace_15 ?_
      refine q_pSi C w [.int x1, .int 0, .int ((nI nr) - 1)] (c_X7_isOutside  h) ks_X7_isOutside k_45  rfl hl.1 (Nat.le_of_ble_eq_true rfl) ⟨Nat.le_of_ble_eq_true rfl, Nat.le_of_ble_eq_true rfl⟩ dX7_replace_16 (fun r3 H locs h w => ?_)
      refine lv_if_eq (tgt := 24) C.1.1 C.1.2.1 dX7_replace_19 (by decide) (fun hc4 => ?_) (fun hc4 => ?_)
      · replace h := h.1 hc4
        refine lv_aload_n C.1.1 C.1.2.1 dX7_replace_24 rfl (lv_at hl 0 rfl) ?_
        refine lv_iload_n C.1.1 C.1.2.1 dX7_replace_25 rfl (lv_at hl 1 rfl) ?_
        refine q_ial C w hA.1 hA.2 h.1 dX7_replace_26 ?_
        replace h := h.2
        refine lv_istore (lv' := [(5, .int (M r x1.toNatClampNeg)), (0, .ref (ga g r)), (1, .int x1), (2, .int x2), (3, .int x3), (4, .int x4)]) C.1.1 C.1.2.1 dX7_replace_27 hl (by decide) rfl (fun ls hl => ?_)
        refine lv_aload_n C.1.1 C.1.2.1 dX7_replace_29 rfl (lv_at hl 1 rfl) ?_
        refine lv_iload_n C.1.1 C.1.2.1 dX7_replace_30 rfl (lv_at hl 2 rfl) ?_
        refine lv_iload_n C.1.1 C.1.2.1 dX7_replace_31 rfl (lv_at hl 3 rfl) ?_
        refine q_ias C w hA.1 hA.2 h.1 dX7_replace_32 (fun M5 H locs eM5 w => ?_)
        replace h := h.2 M5 eM5
        refine lv_iload C.1.1 C.1.2.1 dX7_replace_33 (lv_at hl 0 rfl) ?_
        exact q_iret C hr hk w rfl h dX7_replace_35
      · replace h := h.2 hc4
        refine lv_iconst (v := (-1)) C.1.1 C.1.2.1 dX7_replace_22 (by decide) ?_
        exact q_iret C hr hk w rfl h dX7_replace_23)
-- alter
set_option maxHeartbeats 4000000 in
set_option maxRecDepth 100000 in
theorem c_X7_alter {l : Launch} {g : Gt} {x1 : Int32} {x2 : Int32} {x3 : Int32} {M : Mem} {Q : Int32 → Mem → Prop} (h : w_X7_alter x1 x2 x3 M Q) : MI l yX7_alter cX7_alter 4 (some .int) 2 47 g layX 68 [.ref (ga g 0), .int x1, .int x2, .int x3] M Q :=
  m_of (by decide +kernel) (Nat.le_of_ble_eq_true rfl) (fun p e s m args below meth c ls C hr hk w hl => by
    have C : Cx p s m args c cX7_alter 4 RX7 g := C
    have hl : lv_has ls 4 [(0, .ref (ga g 0)), (1, .int x1), (2, .int x2), (3, .int x3)] := hl
    unfold w_X7_alter at h
    obtain ⟨H, eH⟩ : ∃ H : Heap, H = s.heap := ⟨_, rfl⟩
    obtain ⟨locs, el⟩ : ∃ locs : List Loc, locs = [] := ⟨_, rfl⟩
    have w : Wd g layX 68 s.heap M H locs := by rw [eH, el]; exact w
    suffices hw : W p l e (rmOf 2 47) s m args below meth c H locs 0 0 (MQ below (va_Qi Q (PostW g layX 68) (gF g)) args s 0 0 (gF g)) (F0 m 0 ls []) by rw [eH, el] at hw; exact hw
    clear eH el
    refine lv_aload_n C.1.1 C.1.2.1 dX7_alter_0 rfl (lv_at hl 0 rfl) ?_
    refine lv_iload_n C.1.1 C.1.2.1 dX7_alter_1 rfl (lv_at hl 1 rfl) ?_
    refine q_pVi C w [.int x1] (c_X7_isNoTaker  h) kv_X7_isNoTaker k_56 (rcv C w kc_X7 hx_0 lx_0) rfl hl.1 (Nat.le_of_ble_eq_true rfl) ⟨Nat.le_of_ble_eq_true rfl, Nat.le_of_ble_eq_true rfl⟩ dX7_alter_2 (fun r1 H locs h w => ?_)
    refine lv_if_eq (tgt := 10) C.1.1 C.1.2.1 dX7_alter_5 (by decide) (fun hc2 => ?_) (fun hc2 => ?_)
    · replace h := h.1 hc2
      refine lv_iload_n C.1.1 C.1.2.1 dX7_alter_10 rfl (lv_at hl 2 rfl) ?_
      by_cases hc3 : x2 = 0
      · replace h := h.1 hc3
        refine q_tin C (off := 25) (tgt := 36) dX7_alter_11 hc3 (by decide) (by decide) (by decide) (by decide) ?_
        refine lv_aload_n C.1.1 C.1.2.1 dX7_alter_36 rfl (lv_at hl 0 rfl) ?_
        refine gr_RX7_10 C w hx_0 lx_0 rfl dX7_alter_37 ?_
        refine gr_RX7_146 C w hx_1 lx_1 rfl dX7_alter_40 ?_
        refine lv_iload_n C.1.1 C.1.2.1 dX7_alter_43 rfl (lv_at hl 1 rfl) ?_
        refine lv_iload_n C.1.1 C.1.2.1 dX7_alter_44 rfl (lv_at hl 3 rfl) ?_
        refine lv_iconst (v := 0) C.1.1 C.1.2.1 dX7_alter_45 (by decide) ?_
        refine lv_iconst (v := 3) C.1.1 C.1.2.1 dX7_alter_46 (by decide) ?_
        refine q_cSi C w [.ref (ga g 4), .int x1, .int x3, .int 0, .int 3] (c_X7_replace ⟨hx_4, lx_4⟩ h) ks_X7_replace k_61  rfl hl.1 (Nat.le_of_ble_eq_true rfl) ⟨Nat.le_of_ble_eq_true rfl, Nat.le_of_ble_eq_true rfl⟩ dX7_alter_47 (fun r4 M5 H locs h w => ?_)
        exact q_iret C hr hk w rfl h dX7_alter_50
      replace h := h.2 hc3
      by_cases hc6 : x2 = 1
      · replace h := h.1 hc6
        refine q_tin C (off := 40) (tgt := 51) dX7_alter_11 hc6 (by decide) (by decide) (by decide) (by decide) ?_
        refine lv_aload_n C.1.1 C.1.2.1 dX7_alter_51 rfl (lv_at hl 0 rfl) ?_
        refine gr_RX7_10 C w hx_0 lx_0 rfl dX7_alter_52 ?_
        refine gr_RX7_149 C w hx_1 lx_1 rfl dX7_alter_55 ?_
        refine lv_iload_n C.1.1 C.1.2.1 dX7_alter_58 rfl (lv_at hl 1 rfl) ?_
        refine lv_iload_n C.1.1 C.1.2.1 dX7_alter_59 rfl (lv_at hl 3 rfl) ?_
        refine lv_iconst (v := 0) C.1.1 C.1.2.1 dX7_alter_60 (by decide) ?_
        refine lv_iconst (v := 5) C.1.1 C.1.2.1 dX7_alter_61 (by decide) ?_
        refine q_cSi C w [.ref (ga g 5), .int x1, .int x3, .int 0, .int 5] (c_X7_replace ⟨hx_5, lx_5⟩ h) ks_X7_replace k_61  rfl hl.1 (Nat.le_of_ble_eq_true rfl) ⟨Nat.le_of_ble_eq_true rfl, Nat.le_of_ble_eq_true rfl⟩ dX7_alter_62 (fun r7 M8 H locs h w => ?_)
        exact q_iret C hr hk w rfl h dX7_alter_65
      replace h := h.2 hc6
      by_cases hc9 : x2 = 2
      · replace h := h.1 hc9
        refine q_tin C (off := 55) (tgt := 66) dX7_alter_11 hc9 (by decide) (by decide) (by decide) (by decide) ?_
        refine lv_aload_n C.1.1 C.1.2.1 dX7_alter_66 rfl (lv_at hl 0 rfl) ?_
        refine gr_RX7_10 C w hx_0 lx_0 rfl dX7_alter_67 ?_
        refine gr_RX7_152 C w hx_1 lx_1 rfl dX7_alter_70 ?_
        refine lv_iload_n C.1.1 C.1.2.1 dX7_alter_73 rfl (lv_at hl 1 rfl) ?_
        refine lv_iload_n C.1.1 C.1.2.1 dX7_alter_74 rfl (lv_at hl 3 rfl) ?_
        refine lv_iconst (v := 0) C.1.1 C.1.2.1 dX7_alter_75 (by decide) ?_
        refine lv_sipush (v := 999) C.1.1 C.1.2.1 dX7_alter_76 (by decide) ?_
        refine q_cSi C w [.ref (ga g 6), .int x1, .int x3, .int 0, .int 999] (c_X7_replace ⟨hx_6, lx_6⟩ h) ks_X7_replace k_61  rfl hl.1 (Nat.le_of_ble_eq_true rfl) ⟨Nat.le_of_ble_eq_true rfl, Nat.le_of_ble_eq_true rfl⟩ dX7_alter_79 (fun r10 M11 H locs h w => ?_)
        exact q_iret C hr hk w rfl h dX7_alter_82
      replace h := h.2 hc9
      have nhc3 : ¬ x2.toInt = 0 := lv_neT hc3 (by decide)
      have nhc6 : ¬ x2.toInt = 1 := lv_neT hc6 (by decide)
      have nhc9 : ¬ x2.toInt = 2 := lv_neT hc9 (by decide)
      refine q_tout C (tgt := 83) dX7_alter_11 (by omega) (by decide) ?_
      refine lv_iconst (v := (-1)) C.1.1 C.1.2.1 dX7_alter_83 (by decide) ?_
      exact q_iret C hr hk w rfl h dX7_alter_84
    · replace h := h.2 hc2
      refine lv_iconst (v := (-1)) C.1.1 C.1.2.1 dX7_alter_8 (by decide) ?_
      exact q_iret C hr hk w rfl h dX7_alter_9)
-- order
set_option maxHeartbeats 4000000 in
set_option maxRecDepth 100000 in
theorem c_X7_order {l : Launch} {g : Gt} {x1 : Int32} {x2 : Int32} {x3 : Int32} {M : Mem} {Q : Int32 → Mem → Prop} (h : w_X7_order x1 x2 x3 M Q) : MI l yX7_order cX7_order 4 (some .int) 2 47 g layX 68 [.ref (ga g 0), .int x1, .int x2, .int x3] M Q :=
  m_of (by decide +kernel) (Nat.le_of_ble_eq_true rfl) (fun p e s m args below meth c ls C hr hk w hl => by
    have C : Cx p s m args c cX7_order 4 RX7 g := C
    have hl : lv_has ls 4 [(0, .ref (ga g 0)), (1, .int x1), (2, .int x2), (3, .int x3)] := hl
    unfold w_X7_order at h
    obtain ⟨H, eH⟩ : ∃ H : Heap, H = s.heap := ⟨_, rfl⟩
    obtain ⟨locs, el⟩ : ∃ locs : List Loc, locs = [] := ⟨_, rfl⟩
    have w : Wd g layX 68 s.heap M H locs := by rw [eH, el]; exact w
    suffices hw : W p l e (rmOf 2 47) s m args below meth c H locs 0 0 (MQ below (va_Qi Q (PostW g layX 68) (gF g)) args s 0 0 (gF g)) (F0 m 0 ls []) by rw [eH, el] at hw; exact hw
    clear eH el
    refine lv_aload_n C.1.1 C.1.2.1 dX7_order_0 rfl (lv_at hl 0 rfl) ?_
    refine lv_iload_n C.1.1 C.1.2.1 dX7_order_1 rfl (lv_at hl 1 rfl) ?_
    refine q_pVi C w [.int x1] (c_X7_isNoKeeper  h) kv_X7_isNoKeeper k_59 (rcv C w kc_X7 hx_0 lx_0) rfl hl.1 (Nat.le_of_ble_eq_true rfl) ⟨Nat.le_of_ble_eq_true rfl, Nat.le_of_ble_eq_true rfl⟩ dX7_order_2 (fun r1 H locs h w => ?_)
    refine lv_if_eq (tgt := 10) C.1.1 C.1.2.1 dX7_order_5 (by decide) (fun hc2 => ?_) (fun hc2 => ?_)
    · replace h := h.1 hc2
      refine lv_iload_n C.1.1 C.1.2.1 dX7_order_10 rfl (lv_at hl 2 rfl) ?_
      by_cases hc3 : x2 = 0
      · replace h := h.1 hc3
        refine q_tin C (off := 25) (tgt := 36) dX7_order_11 hc3 (by decide) (by decide) (by decide) (by decide) ?_
        refine lv_aload_n C.1.1 C.1.2.1 dX7_order_36 rfl (lv_at hl 0 rfl) ?_
        refine gr_RX7_10 C w hx_0 lx_0 rfl dX7_order_37 ?_
        refine gr_RX7_167 C w hx_1 lx_1 rfl dX7_order_40 ?_
        refine lv_iload_n C.1.1 C.1.2.1 dX7_order_43 rfl (lv_at hl 1 rfl) ?_
        refine lv_iload_n C.1.1 C.1.2.1 dX7_order_44 rfl (lv_at hl 3 rfl) ?_
        refine lv_iconst (v := 0) C.1.1 C.1.2.1 dX7_order_45 (by decide) ?_
        refine lv_iconst (v := 5) C.1.1 C.1.2.1 dX7_order_46 (by decide) ?_
        refine q_cSi C w [.ref (ga g 8), .int x1, .int x3, .int 0, .int 5] (c_X7_replace ⟨hx_8, lx_8⟩ h) ks_X7_replace k_61  rfl hl.1 (Nat.le_of_ble_eq_true rfl) ⟨Nat.le_of_ble_eq_true rfl, Nat.le_of_ble_eq_true rfl⟩ dX7_order_47 (fun r4 M5 H locs h w => ?_)
        exact q_iret C hr hk w rfl h dX7_order_50
      replace h := h.2 hc3
      by_cases hc6 : x2 = 1
      · replace h := h.1 hc6
        refine q_tin C (off := 40) (tgt := 51) dX7_order_11 hc6 (by decide) (by decide) (by decide) (by decide) ?_
        refine lv_aload_n C.1.1 C.1.2.1 dX7_order_51 rfl (lv_at hl 0 rfl) ?_
        refine gr_RX7_10 C w hx_0 lx_0 rfl dX7_order_52 ?_
        refine gr_RX7_170 C w hx_1 lx_1 rfl dX7_order_55 ?_
        refine lv_iload_n C.1.1 C.1.2.1 dX7_order_58 rfl (lv_at hl 1 rfl) ?_
        refine lv_iload_n C.1.1 C.1.2.1 dX7_order_59 rfl (lv_at hl 3 rfl) ?_
        refine lv_iconst (v := 0) C.1.1 C.1.2.1 dX7_order_60 (by decide) ?_
        refine lv_iconst (v := 5) C.1.1 C.1.2.1 dX7_order_61 (by decide) ?_
        refine q_cSi C w [.ref (ga g 9), .int x1, .int x3, .int 0, .int 5] (c_X7_replace ⟨hx_9, lx_9⟩ h) ks_X7_replace k_61  rfl hl.1 (Nat.le_of_ble_eq_true rfl) ⟨Nat.le_of_ble_eq_true rfl, Nat.le_of_ble_eq_true rfl⟩ dX7_order_62 (fun r7 M8 H locs h w => ?_)
        exact q_iret C hr hk w rfl h dX7_order_65
      replace h := h.2 hc6
      by_cases hc9 : x2 = 2
      · replace h := h.1 hc9
        refine q_tin C (off := 55) (tgt := 66) dX7_order_11 hc9 (by decide) (by decide) (by decide) (by decide) ?_
        refine lv_aload_n C.1.1 C.1.2.1 dX7_order_66 rfl (lv_at hl 0 rfl) ?_
        refine gr_RX7_10 C w hx_0 lx_0 rfl dX7_order_67 ?_
        refine gr_RX7_173 C w hx_1 lx_1 rfl dX7_order_70 ?_
        refine lv_iload_n C.1.1 C.1.2.1 dX7_order_73 rfl (lv_at hl 1 rfl) ?_
        refine lv_iload_n C.1.1 C.1.2.1 dX7_order_74 rfl (lv_at hl 3 rfl) ?_
        refine lv_iconst (v := 1) C.1.1 C.1.2.1 dX7_order_75 (by decide) ?_
        refine lv_bipush (v := 9) C.1.1 C.1.2.1 dX7_order_76 (by decide) ?_
        refine q_cSi C w [.ref (ga g 10), .int x1, .int x3, .int 1, .int 9] (c_X7_replace ⟨hx_10, lx_10⟩ h) ks_X7_replace k_61  rfl hl.1 (Nat.le_of_ble_eq_true rfl) ⟨Nat.le_of_ble_eq_true rfl, Nat.le_of_ble_eq_true rfl⟩ dX7_order_78 (fun r10 M11 H locs h w => ?_)
        exact q_iret C hr hk w rfl h dX7_order_81
      replace h := h.2 hc9
      have nhc3 : ¬ x2.toInt = 0 := lv_neT hc3 (by decide)
      have nhc6 : ¬ x2.toInt = 1 := lv_neT hc6 (by decide)
      have nhc9 : ¬ x2.toInt = 2 := lv_neT hc9 (by decide)
      refine q_tout C (tgt := 82) dX7_order_11 (by omega) (by decide) ?_
      refine lv_iconst (v := (-1)) C.1.1 C.1.2.1 dX7_order_82 (by decide) ?_
      exact q_iret C hr hk w rfl h dX7_order_83
    · replace h := h.2 hc2
      refine lv_iconst (v := (-1)) C.1.1 C.1.2.1 dX7_order_8 (by decide) ?_
      exact q_iret C hr hk w rfl h dX7_order_9)
-- tend
set_option maxHeartbeats 4000000 in
set_option maxRecDepth 100000 in
theorem c_X7_tend {l : Launch} {g : Gt} {x1 : Int32} {x2 : Int32} {x3 : Int32} {M : Mem} {Q : Int32 → Mem → Prop} (h : w_X7_tend x1 x2 x3 M Q) : MI l yX7_tend cX7_tend 4 (some .int) 2 47 g layX 68 [.ref (ga g 0), .int x1, .int x2, .int x3] M Q :=
  m_of (by decide +kernel) (Nat.le_of_ble_eq_true rfl) (fun p e s m args below meth c ls C hr hk w hl => by
    have C : Cx p s m args c cX7_tend 4 RX7 g := C
    have hl : lv_has ls 4 [(0, .ref (ga g 0)), (1, .int x1), (2, .int x2), (3, .int x3)] := hl
    unfold w_X7_tend at h
    obtain ⟨H, eH⟩ : ∃ H : Heap, H = s.heap := ⟨_, rfl⟩
    obtain ⟨locs, el⟩ : ∃ locs : List Loc, locs = [] := ⟨_, rfl⟩
    have w : Wd g layX 68 s.heap M H locs := by rw [eH, el]; exact w
    suffices hw : W p l e (rmOf 2 47) s m args below meth c H locs 0 0 (MQ below (va_Qi Q (PostW g layX 68) (gF g)) args s 0 0 (gF g)) (F0 m 0 ls []) by rw [eH, el] at hw; exact hw
    clear eH el
    refine lv_iload_n C.1.1 C.1.2.1 dX7_tend_0 rfl (lv_at hl 1 rfl) ?_
    refine q_pSi C w [.int x1] (c_X7_isNoGate  h) ks_X7_isNoGate k_53  rfl hl.1 (Nat.le_of_ble_eq_true rfl) ⟨Nat.le_of_ble_eq_true rfl, Nat.le_of_ble_eq_true rfl⟩ dX7_tend_1 (fun r1 H locs h w => ?_)
    refine lv_if_eq (tgt := 9) C.1.1 C.1.2.1 dX7_tend_4 (by decide) (fun hc2 => ?_) (fun hc2 => ?_)
    · replace h := h.1 hc2
      refine lv_iload_n C.1.1 C.1.2.1 dX7_tend_9 rfl (lv_at hl 2 rfl) ?_
      by_cases hc3 : x2 = 0
      · replace h := h.1 hc3
        refine q_lin C (off := 26) (tgt := 36) dX7_tend_10 (by decide) hc3 (by decide) (by decide) ?_
        refine lv_aload_n C.1.1 C.1.2.1 dX7_tend_36 rfl (lv_at hl 0 rfl) ?_
        refine gr_RX7_10 C w hx_0 lx_0 rfl dX7_tend_37 ?_
        refine gr_RX7_129 C w hx_1 lx_1 rfl dX7_tend_40 ?_
        refine lv_iload_n C.1.1 C.1.2.1 dX7_tend_43 rfl (lv_at hl 1 rfl) ?_
        refine lv_iload_n C.1.1 C.1.2.1 dX7_tend_44 rfl (lv_at hl 3 rfl) ?_
        refine lv_iconst (v := 0) C.1.1 C.1.2.1 dX7_tend_45 (by decide) ?_
        refine lv_bipush (v := 60) C.1.1 C.1.2.1 dX7_tend_46 (by decide) ?_
        refine q_cSi C w [.ref (ga g 2), .int x1, .int x3, .int 0, .int 60] (c_X7_replace ⟨hx_2, lx_2⟩ h) ks_X7_replace k_61  rfl hl.1 (Nat.le_of_ble_eq_true rfl) ⟨Nat.le_of_ble_eq_true rfl, Nat.le_of_ble_eq_true rfl⟩ dX7_tend_48 (fun r4 M5 H locs h w => ?_)
        exact q_iret C hr hk w rfl h dX7_tend_51
      replace h := h.2 hc3
      by_cases hc6 : x2 = 1
      · replace h := h.1 hc6
        refine q_lin C (off := 42) (tgt := 52) dX7_tend_10 (by decide) hc6 (by decide) (by decide) ?_
        refine lv_aload_n C.1.1 C.1.2.1 dX7_tend_52 rfl (lv_at hl 0 rfl) ?_
        refine gr_RX7_10 C w hx_0 lx_0 rfl dX7_tend_53 ?_
        refine gr_RX7_133 C w hx_1 lx_1 rfl dX7_tend_56 ?_
        refine lv_iload_n C.1.1 C.1.2.1 dX7_tend_59 rfl (lv_at hl 1 rfl) ?_
        refine lv_iload_n C.1.1 C.1.2.1 dX7_tend_60 rfl (lv_at hl 3 rfl) ?_
        refine lv_iconst (v := 0) C.1.1 C.1.2.1 dX7_tend_61 (by decide) ?_
        refine lv_bipush (v := 9) C.1.1 C.1.2.1 dX7_tend_62 (by decide) ?_
        refine q_cSi C w [.ref (ga g 3), .int x1, .int x3, .int 0, .int 9] (c_X7_replace ⟨hx_3, lx_3⟩ h) ks_X7_replace k_61  rfl hl.1 (Nat.le_of_ble_eq_true rfl) ⟨Nat.le_of_ble_eq_true rfl, Nat.le_of_ble_eq_true rfl⟩ dX7_tend_64 (fun r7 M8 H locs h w => ?_)
        exact q_iret C hr hk w rfl h dX7_tend_67
      replace h := h.2 hc6
      refine q_lout C (off := 58) (tgt := 68) dX7_tend_10 (by decide) (by rw [show (#[(0, 26), (1, 42)] : Array (Int × Int)).toList = [(0, 26), (1, 42)] from rfl, lv_osw hc3 (by decide), lv_osw hc6 (by decide)]; rfl) (by decide) ?_
      refine lv_iconst (v := (-1)) C.1.1 C.1.2.1 dX7_tend_68 (by decide) ?_
      exact q_iret C hr hk w rfl h dX7_tend_69
    · replace h := h.2 hc2
      refine lv_iconst (v := (-1)) C.1.1 C.1.2.1 dX7_tend_7 (by decide) ?_
      exact q_iret C hr hk w rfl h dX7_tend_8)
-- free
set_option maxHeartbeats 4000000 in
set_option maxRecDepth 100000 in
theorem c_X7_free {l : Launch} {g : Gt} {x1 : Int32} {M : Mem} {Q : Int32 → Mem → Prop} (h : w_X7_free x1 M Q) : MI l yX7_free cX7_free 2 (some .int) 2 47 g layX 68 [.ref (ga g 0), .int x1] M Q :=
  m_of (by decide +kernel) (Nat.le_of_ble_eq_true rfl) (fun p e s m args below meth c ls C hr hk w hl => by
    have C : Cx p s m args c cX7_free 2 RX7 g := C
    have hl : lv_has ls 2 [(0, .ref (ga g 0)), (1, .int x1)] := hl
    unfold w_X7_free at h
    obtain ⟨H, eH⟩ : ∃ H : Heap, H = s.heap := ⟨_, rfl⟩
    obtain ⟨locs, el⟩ : ∃ locs : List Loc, locs = [] := ⟨_, rfl⟩
    have w : Wd g layX 68 s.heap M H locs := by rw [eH, el]; exact w
    suffices hw : W p l e (rmOf 2 47) s m args below meth c H locs 0 0 (MQ below (va_Qi Q (PostW g layX 68) (gF g)) args s 0 0 (gF g)) (F0 m 0 ls []) by rw [eH, el] at hw; exact hw
    clear eH el
    refine lv_aload_n C.1.1 C.1.2.1 dX7_free_0 rfl (lv_at hl 0 rfl) ?_
    refine lv_iload_n C.1.1 C.1.2.1 dX7_free_1 rfl (lv_at hl 1 rfl) ?_
    refine q_pVi C w [.int x1] (c_X7_isNoTaker  h) kv_X7_isNoTaker k_56 (rcv C w kc_X7 hx_0 lx_0) rfl hl.1 (Nat.le_of_ble_eq_true rfl) ⟨Nat.le_of_ble_eq_true rfl, Nat.le_of_ble_eq_true rfl⟩ dX7_free_2 (fun r1 H locs h w => ?_)
    refine lv_if_eq (tgt := 10) C.1.1 C.1.2.1 dX7_free_5 (by decide) (fun hc2 => ?_) (fun hc2 => ?_)
    · replace h := h.1 hc2
      refine lv_aload_n C.1.1 C.1.2.1 dX7_free_10 rfl (lv_at hl 0 rfl) ?_
      refine gr_RX7_10 C w hx_0 lx_0 rfl dX7_free_11 ?_
      refine gr_RX7_155 C w hx_1 lx_1 rfl dX7_free_14 ?_
      refine lv_iload_n C.1.1 C.1.2.1 dX7_free_17 rfl (lv_at hl 1 rfl) ?_
      refine q_ial C w hx_7 lx_7 h.1 dX7_free_18 ?_
      replace h := h.2
      refine lv_if_ne (tgt := 25) C.1.1 C.1.2.1 dX7_free_19 (by decide) (fun hc3 => ?_) (fun hc3 => ?_)
      · replace h := h.2 hc3
        refine lv_aload_n C.1.1 C.1.2.1 dX7_free_25 rfl (lv_at hl 0 rfl) ?_
        refine gr_RX7_10 C w hx_0 lx_0 rfl dX7_free_26 ?_
        refine gr_RX7_155 C w hx_1 lx_1 rfl dX7_free_29 ?_
        refine lv_iload_n C.1.1 C.1.2.1 dX7_free_32 rfl (lv_at hl 1 rfl) ?_
        refine lv_iconst (v := 0) C.1.1 C.1.2.1 dX7_free_33 (by decide) ?_
        refine lv_iconst (v := 0) C.1.1 C.1.2.1 dX7_free_34 (by decide) ?_
        refine lv_iconst (v := 0) C.1.1 C.1.2.1 dX7_free_35 (by decide) ?_
        refine q_cSi C w [.ref (ga g 7), .int x1, .int 0, .int 0, .int 0] (c_X7_replace ⟨hx_7, lx_7⟩ h) ks_X7_replace k_61  rfl hl.1 (Nat.le_of_ble_eq_true rfl) ⟨Nat.le_of_ble_eq_true rfl, Nat.le_of_ble_eq_true rfl⟩ dX7_free_36 (fun r4 M5 H locs h w => ?_)
        exact q_iret C hr hk w rfl h dX7_free_39
      · replace h := h.1 hc3
        refine lv_bipush (v := (-2)) C.1.1 C.1.2.1 dX7_free_22 (by decide) ?_
        exact q_iret C hr hk w rfl h dX7_free_24
    · replace h := h.2 hc2
      refine lv_iconst (v := (-1)) C.1.1 C.1.2.1 dX7_free_8 (by decide) ?_
      exact q_iret C hr hk w rfl h dX7_free_9)
-- hire
set_option maxHeartbeats 4000000 in
set_option maxRecDepth 100000 in
theorem c_X7_hire {l : Launch} {g : Gt} {x1 : Int32} {x2 : Int32} {x3 : Int32} {M : Mem} {Q : Int32 → Mem → Prop} (h : w_X7_hire x1 x2 x3 M Q) : MI l yX7_hire cX7_hire 4 (some .int) 2 42 g layX 68 [.ref (ga g 0), .int x1, .int x2, .int x3] M Q :=
  m_of (by decide +kernel) (Nat.le_of_ble_eq_true rfl) (fun p e s m args below meth c ls C hr hk w hl => by
    have C : Cx p s m args c cX7_hire 4 RX7 g := C
    have hl : lv_has ls 4 [(0, .ref (ga g 0)), (1, .int x1), (2, .int x2), (3, .int x3)] := hl
    unfold w_X7_hire at h
    obtain ⟨H, eH⟩ : ∃ H : Heap, H = s.heap := ⟨_, rfl⟩
    obtain ⟨locs, el⟩ : ∃ locs : List Loc, locs = [] := ⟨_, rfl⟩
    have w : Wd g layX 68 s.heap M H locs := by rw [eH, el]; exact w
    suffices hw : W p l e (rmOf 2 42) s m args below meth c H locs 0 0 (MQ below (va_Qi Q (PostW g layX 68) (gF g)) args s 0 0 (gF g)) (F0 m 0 ls []) by rw [eH, el] at hw; exact hw
    clear eH el
    refine lv_iload_n C.1.1 C.1.2.1 dX7_hire_0 rfl (lv_at hl 1 rfl) ?_
    refine q_pSi C w [.int x1] (c_X7_isNoGate  h) ks_X7_isNoGate k_53  rfl hl.1 (Nat.le_of_ble_eq_true rfl) ⟨Nat.le_of_ble_eq_true rfl, Nat.le_of_ble_eq_true rfl⟩ dX7_hire_1 (fun r1 H locs h w => ?_)
    refine lv_if_ne (tgt := 26) C.1.1 C.1.2.1 dX7_hire_4 (by decide) (fun hc2 => ?_) (fun hc2 => ?_)
    · replace h := h.2 hc2
      refine lv_iconst (v := (-1)) C.1.1 C.1.2.1 dX7_hire_26 (by decide) ?_
      exact q_iret C hr hk w rfl h dX7_hire_27
    · replace h := h.1 hc2
      refine lv_iload_n C.1.1 C.1.2.1 dX7_hire_7 rfl (lv_at hl 2 rfl) ?_
      refine lv_iconst (v := 0) C.1.1 C.1.2.1 dX7_hire_8 (by decide) ?_
      refine lv_iconst (v := 5) C.1.1 C.1.2.1 dX7_hire_9 (by decide) ?_
      refine q_pSi C w [.int x2, .int 0, .int 5] (c_X7_isOutside  h) ks_X7_isOutside k_45  rfl hl.1 (Nat.le_of_ble_eq_true rfl) ⟨Nat.le_of_ble_eq_true rfl, Nat.le_of_ble_eq_true rfl⟩ dX7_hire_10 (fun r3 H locs h w => ?_)
      refine lv_if_ne (tgt := 26) C.1.1 C.1.2.1 dX7_hire_13 (by decide) (fun hc4 => ?_) (fun hc4 => ?_)
      · replace h := h.2 hc4
        refine lv_iconst (v := (-1)) C.1.1 C.1.2.1 dX7_hire_26 (by decide) ?_
        exact q_iret C hr hk w rfl h dX7_hire_27
      · replace h := h.1 hc4
        refine lv_iload_n C.1.1 C.1.2.1 dX7_hire_16 rfl (lv_at hl 3 rfl) ?_
        refine lv_iconst (v := 1) C.1.1 C.1.2.1 dX7_hire_17 (by decide) ?_
        refine lv_bipush (v := 9) C.1.1 C.1.2.1 dX7_hire_18 (by decide) ?_
        refine q_pSi C w [.int x3, .int 1, .int 9] (c_X7_isOutside  h) ks_X7_isOutside k_45  rfl hl.1 (Nat.le_of_ble_eq_true rfl) ⟨Nat.le_of_ble_eq_true rfl, Nat.le_of_ble_eq_true rfl⟩ dX7_hire_20 (fun r5 H locs h w => ?_)
        refine lv_if_eq (tgt := 28) C.1.1 C.1.2.1 dX7_hire_23 (by decide) (fun hc6 => ?_) (fun hc6 => ?_)
        · replace h := h.1 hc6
          refine lv_aload_n C.1.1 C.1.2.1 dX7_hire_28 rfl (lv_at hl 0 rfl) ?_
          refine gr_RX7_10 C w hx_0 lx_0 rfl dX7_hire_29 ?_
          refine lv_iload_n C.1.1 C.1.2.1 dX7_hire_32 rfl (lv_at hl 1 rfl) ?_
          refine lv_iload_n C.1.1 C.1.2.1 dX7_hire_33 rfl (lv_at hl 2 rfl) ?_
          refine lv_iload_n C.1.1 C.1.2.1 dX7_hire_34 rfl (lv_at hl 3 rfl) ?_
          refine q_cVi C w [.int x1, .int x2, .int x3] (c_X0_addKeeper isE_1 h) kv_X0_addKeeper k_62 (rcv C w kc_X0 hx_1 lx_1) rfl hl.1 (Nat.le_of_ble_eq_true rfl) ⟨Nat.le_of_ble_eq_true rfl, Nat.le_of_ble_eq_true rfl⟩ dX7_hire_35 (fun r7 M8 H locs h w => ?_)
          have J : ∀ ls : Array Slot, lv_has ls 4 [] → W p l e (rmOf 2 42) s m args below meth c H locs 0 0 (MQ below (va_Qi Q (PostW g layX 68) (gF g)) args s 0 0 (gF g)) (F0 m 53 ls [.int (if r7 = 0 then (-3 : Int32) else (M8 1 10))]) := by
            intro ls hl
            exact q_iret C hr hk w rfl h dX7_hire_53
          refine lv_if_eq (tgt := 51) C.1.1 C.1.2.1 dX7_hire_38 (by decide) (fun hc9 => ?_) (fun hc9 => ?_)
          · refine lv_bipush (v := (-3)) C.1.1 C.1.2.1 dX7_hire_51 (by decide) ?_
            simp only [if_pos hc9] at J hl
            exact J ls (lv_sub hl [] rfl)
          · refine lv_aload_n C.1.1 C.1.2.1 dX7_hire_41 rfl (lv_at hl 0 rfl) ?_
            refine gr_RX7_10 C w hx_0 lx_0 rfl dX7_hire_42 ?_
            refine gi_RX7_104 C w hx_1 lx_1 rfl dX7_hire_45 ?_
            refine lv_goto (tgt := 53) C.1.1 C.1.2.1 dX7_hire_48 (by decide) ?_
            simp only [if_neg hc9] at J hl
            exact J ls (lv_sub hl [] rfl)
        · replace h := h.2 hc6
          refine lv_iconst (v := (-1)) C.1.1 C.1.2.1 dX7_hire_26 (by decide) ?_
          exact q_iret C hr hk w rfl h dX7_hire_27)
-- dismiss
set_option maxHeartbeats 4000000 in
set_option maxRecDepth 100000 in
theorem c_X7_dismiss {l : Launch} {g : Gt} {x1 : Int32} {M : Mem} {Q : Int32 → Mem → Prop} (h : w_X7_dismiss x1 M Q) : MI l yX7_dismiss cX7_dismiss 3 (some .int) 1 22 g layX 68 [.ref (ga g 0), .int x1] M Q :=
  m_of (by decide +kernel) (Nat.le_of_ble_eq_true rfl) (fun p e s m args below meth c ls C hr hk w hl => by
    have C : Cx p s m args c cX7_dismiss 3 RX7 g := C
    have hl : lv_has ls 3 [(0, .ref (ga g 0)), (1, .int x1)] := hl
    unfold w_X7_dismiss at h
    obtain ⟨H, eH⟩ : ∃ H : Heap, H = s.heap := ⟨_, rfl⟩
    obtain ⟨locs, el⟩ : ∃ locs : List Loc, locs = [] := ⟨_, rfl⟩
    have w : Wd g layX 68 s.heap M H locs := by rw [eH, el]; exact w
    suffices hw : W p l e (rmOf 1 22) s m args below meth c H locs 0 0 (MQ below (va_Qi Q (PostW g layX 68) (gF g)) args s 0 0 (gF g)) (F0 m 0 ls []) by rw [eH, el] at hw; exact hw
    clear eH el
    refine lv_iload_n C.1.1 C.1.2.1 dX7_dismiss_0 rfl (lv_at hl 1 rfl) ?_
    refine lv_iconst (v := 0) C.1.1 C.1.2.1 dX7_dismiss_1 (by decide) ?_
    refine lv_aload_n C.1.1 C.1.2.1 dX7_dismiss_2 rfl (lv_at hl 0 rfl) ?_
    refine gr_RX7_10 C w hx_0 lx_0 rfl dX7_dismiss_3 ?_
    refine gi_RX7_104 C w hx_1 lx_1 rfl dX7_dismiss_6 ?_
    refine q_pSi C w [.int x1, .int 0, .int (M 1 10)] (c_X7_isOutside  h) ks_X7_isOutside k_45  rfl hl.1 (Nat.le_of_ble_eq_true rfl) ⟨Nat.le_of_ble_eq_true rfl, Nat.le_of_ble_eq_true rfl⟩ dX7_dismiss_9 (fun r1 H locs h w => ?_)
    refine lv_if_eq (tgt := 17) C.1.1 C.1.2.1 dX7_dismiss_12 (by decide) (fun hc2 => ?_) (fun hc2 => ?_)
    · replace h := h.1 hc2
      refine lv_aload_n C.1.1 C.1.2.1 dX7_dismiss_17 rfl (lv_at hl 0 rfl) ?_
      refine gr_RX7_10 C w hx_0 lx_0 rfl dX7_dismiss_18 ?_
      refine gi_RX7_104 C w hx_1 lx_1 rfl dX7_dismiss_21 ?_
      refine lv_istore_n (lv' := [(2, .int (M 1 10)), (0, .ref (ga g 0)), (1, .int x1)]) C.1.1 C.1.2.1 dX7_dismiss_24 rfl hl (by decide) rfl (fun ls hl => ?_)
      refine lv_aload_n C.1.1 C.1.2.1 dX7_dismiss_25 rfl (lv_at hl 1 rfl) ?_
      refine gr_RX7_10 C w hx_0 lx_0 rfl dX7_dismiss_26 ?_
      refine lv_iload_n C.1.1 C.1.2.1 dX7_dismiss_29 rfl (lv_at hl 2 rfl) ?_
      refine pi_RX7_104 C w hx_1 lx_1 rfl dX7_dismiss_30 (fun M3 H locs eM3 w => ?_)
      replace h := h M3 eM3
      refine lv_iload_n C.1.1 C.1.2.1 dX7_dismiss_33 rfl (lv_at hl 0 rfl) ?_
      exact q_iret C hr hk w rfl h dX7_dismiss_34
    · replace h := h.2 hc2
      refine lv_iconst (v := (-1)) C.1.1 C.1.2.1 dX7_dismiss_15 (by decide) ?_
      exact q_iret C hr hk w rfl h dX7_dismiss_16)
-- nights
set_option maxHeartbeats 4000000 in
set_option maxRecDepth 100000 in
theorem v_X7_nights_34 {x1 : Int32} {x2 : Int32} {x3 : Int32} {M : Mem} {K34 : Int32 → Int32 → Mem → Prop} {Q : Int32 → Mem → Prop} {H : Heap} {locs : List Loc} {ls : Array Slot} (C : Cx p s m args c cX7_nights 4 RX7 g) (hr : meth.sig.returnType = (some .int)) (hk : meth.locks = false) (hK34 : ∀ (x2 : Int32) (x3 : Int32) (M : Mem) (H : Heap) (locs : List Loc) (ls : Array Slot), K34 x2 x3 M → Wd g layX 68 s.heap M H locs → lv_has ls 4 [(0, .ref (ga g 0)), (1, .int x1), (2, .int x2), (3, .int x3)] → W p l e (rmOf 3 67) s m args below meth c H locs 0 0 (MQ below (va_Qi Q (PostW g layX 68) (gF g)) args s 0 0 (gF g)) (F0 m 34 ls [])) (h : w_X7_nights_34 x1 Q K34 x2 x3 M) (w : Wd g layX 68 s.heap M H locs) (hl : lv_has ls 4 [(0, .ref (ga g 0)), (1, .int x1), (2, .int x2), (3, .int x3)]) : W p l e (rmOf 3 67) s m args below meth c H locs 0 0 (MQ below (va_Qi Q (PostW g layX 68) (gF g)) args s 0 0 (gF g)) (F0 m 34 ls []) := by
  unfold w_X7_nights_34 at h
  refine lv_iload_n C.1.1 C.1.2.1 dX7_nights_34 rfl (lv_at hl 3 rfl) ?_
  refine lv_iload_n C.1.1 C.1.2.1 dX7_nights_35 rfl (lv_at hl 1 rfl) ?_
  refine lv_icmp_ge (tgt := 56) C.1.1 C.1.2.1 dX7_nights_36 (by decide) (fun hc4 => ?_) (fun hc4 => ?_)
  · replace h := h.1 hc4
    refine lv_iload_n C.1.1 C.1.2.1 dX7_nights_56 rfl (lv_at hl 2 rfl) ?_
    exact q_iret C hr hk w rfl h dX7_nights_57
  · replace h := h.2 hc4
    refine lv_iload_n C.1.1 C.1.2.1 dX7_nights_39 rfl (lv_at hl 2 rfl) ?_
    refine lv_aload_n C.1.1 C.1.2.1 dX7_nights_40 rfl (lv_at hl 0 rfl) ?_
    refine gr_RX7_10 C w hx_0 lx_0 rfl dX7_nights_41 ?_
    refine lv_iconst (v := 0) C.1.1 C.1.2.1 dX7_nights_44 (by decide) ?_
    refine q_cVi C w [.int 0] (c_X0_passNight isE_1 h) kv_X0_passNight k_63 (rcv C w kc_X0 hx_1 lx_1) rfl hl.1 (Nat.le_of_ble_eq_true rfl) ⟨Nat.le_of_ble_eq_true rfl, Nat.le_of_ble_eq_true rfl⟩ dX7_nights_45 (fun r5 M6 H locs h w => ?_)
    refine lv_iadd C.1.1 C.1.2.1 dX7_nights_48 ?_
    refine lv_istore_n (lv' := [(2, .int (x2 + r5)), (0, .ref (ga g 0)), (1, .int x1), (3, .int x3)]) C.1.1 C.1.2.1 dX7_nights_49 rfl hl (by decide) rfl (fun ls hl => ?_)
    refine lv_iinc (v := x3 + 1) (lv' := [(3, .int (x3 + 1)), (2, .int (x2 + r5)), (0, .ref (ga g 0)), (1, .int x1)]) C.1.1 C.1.2.1 dX7_nights_50 hl (k := 3) rfl rfl (by decide) rfl (fun ls hl => ?_)
    refine lv_goto (tgt := 34) C.1.1 C.1.2.1 dX7_nights_53 (by decide) ?_
    exact hK34 _ _ _ _ _ _ h w (lv_sub hl [2, 3, 1, 0] rfl)
set_option maxHeartbeats 4000000 in
set_option maxRecDepth 100000 in
theorem l_X7_nights_34 {x1 : Int32} {Q : Int32 → Mem → Prop} (C : Cx p s m args c cX7_nights 4 RX7 g) (hr : meth.sig.returnType = (some .int)) (hk : meth.locks = false)  : ∀ (n : Nat) (x2 : Int32) (x3 : Int32) (M : Mem) (H : Heap) (locs : List Loc) (ls : Array Slot), fu3 (w_X7_nights_34 x1 Q) n x2 x3 M → Wd g layX 68 s.heap M H locs → lv_has ls 4 [(0, .ref (ga g 0)), (1, .int x1), (2, .int x2), (3, .int x3)] → W p l e (rmOf 3 67) s m args below meth c H locs 0 0 (MQ below (va_Qi Q (PostW g layX 68) (gF g)) args s 0 0 (gF g)) (F0 m 34 ls []) := by
  intro n
  induction n with
  | zero => intro x2 x3 M H locs ls h; exact h.elim
  | succ n ih => intro x2 x3 M H locs ls h w hl; exact v_X7_nights_34 C hr hk   ih h w hl
set_option maxHeartbeats 4000000 in
set_option maxRecDepth 100000 in
theorem c_X7_nights {l : Launch} {g : Gt} {x1 : Int32} {M : Mem} {Q : Int32 → Mem → Prop} (h : w_X7_nights x1 M Q) : MI l yX7_nights cX7_nights 4 (some .int) 3 67 g layX 68 [.ref (ga g 0), .int x1] M Q :=
  m_of (by decide +kernel) (Nat.le_of_ble_eq_true rfl) (fun p e s m args below meth c ls C hr hk w hl => by
    have C : Cx p s m args c cX7_nights 4 RX7 g := C
    have hl : lv_has ls 4 [(0, .ref (ga g 0)), (1, .int x1)] := hl
    unfold w_X7_nights at h
    obtain ⟨H, eH⟩ : ∃ H : Heap, H = s.heap := ⟨_, rfl⟩
    obtain ⟨locs, el⟩ : ∃ locs : List Loc, locs = [] := ⟨_, rfl⟩
    have w : Wd g layX 68 s.heap M H locs := by rw [eH, el]; exact w
    suffices hw : W p l e (rmOf 3 67) s m args below meth c H locs 0 0 (MQ below (va_Qi Q (PostW g layX 68) (gF g)) args s 0 0 (gF g)) (F0 m 0 ls []) by rw [eH, el] at hw; exact hw
    clear eH el
    refine lv_iload_n C.1.1 C.1.2.1 dX7_nights_0 rfl (lv_at hl 1 rfl) ?_
    refine lv_iconst (v := 0) C.1.1 C.1.2.1 dX7_nights_1 (by decide) ?_
    refine lv_bipush (v := 30) C.1.1 C.1.2.1 dX7_nights_2 (by decide) ?_
    refine q_pSi C w [.int x1, .int 0, .int 30] (c_X7_isOutside  h) ks_X7_isOutside k_45  rfl hl.1 (Nat.le_of_ble_eq_true rfl) ⟨Nat.le_of_ble_eq_true rfl, Nat.le_of_ble_eq_true rfl⟩ dX7_nights_4 (fun r1 H locs h w => ?_)
    refine lv_if_eq (tgt := 12) C.1.1 C.1.2.1 dX7_nights_7 (by decide) (fun hc2 => ?_) (fun hc2 => ?_)
    · replace h := h.1 hc2
      refine lv_aload_n C.1.1 C.1.2.1 dX7_nights_12 rfl (lv_at hl 0 rfl) ?_
      refine gr_RX7_10 C w hx_0 lx_0 rfl dX7_nights_13 ?_
      refine gi_RX7_107 C w hx_1 lx_1 rfl dX7_nights_16 ?_
      refine lv_iload_n C.1.1 C.1.2.1 dX7_nights_19 rfl (lv_at hl 1 rfl) ?_
      refine lv_iadd C.1.1 C.1.2.1 dX7_nights_20 ?_
      refine lv_sipush (v := 999) C.1.1 C.1.2.1 dX7_nights_21 (by decide) ?_
      refine lv_icmp_le (tgt := 30) C.1.1 C.1.2.1 dX7_nights_24 (by decide) (fun hc3 => ?_) (fun hc3 => ?_)
      · replace h := h.1 hc3
        refine lv_iconst (v := 0) C.1.1 C.1.2.1 dX7_nights_30 (by decide) ?_
        refine lv_istore_n (lv' := [(2, .int 0), (0, .ref (ga g 0)), (1, .int x1)]) C.1.1 C.1.2.1 dX7_nights_31 rfl hl (by decide) rfl (fun ls hl => ?_)
        refine lv_iconst (v := 0) C.1.1 C.1.2.1 dX7_nights_32 (by decide) ?_
        refine lv_istore_n (lv' := [(3, .int 0), (2, .int 0), (0, .ref (ga g 0)), (1, .int x1)]) C.1.1 C.1.2.1 dX7_nights_33 rfl hl (by decide) rfl (fun ls hl => ?_)
        obtain ⟨n, h⟩ := h
        exact l_X7_nights_34 C hr hk   n _ _ _ _ _ _ h w (lv_sub hl [2, 3, 1, 0] rfl)
      · replace h := h.2 hc3
        refine lv_bipush (v := (-3)) C.1.1 C.1.2.1 dX7_nights_27 (by decide) ?_
        exact q_iret C hr hk w rfl h dX7_nights_29
    · replace h := h.2 hc2
      refine lv_iconst (v := (-1)) C.1.1 C.1.2.1 dX7_nights_10 (by decide) ?_
      exact q_iret C hr hk w rfl h dX7_nights_11)
-- runs
set_option maxHeartbeats 4000000 in
set_option maxRecDepth 100000 in
theorem c_X7_runs {l : Launch} {g : Gt} {x1 : Int32} {x2 : Int32} {M : Mem} {Q : Int32 → Mem → Prop} (h : w_X7_runs x1 x2 M Q) : MI l yX7_runs cX7_runs 3 (some .int) 5 111 g layX 68 [.ref (ga g 0), .int x1, .int x2] M Q :=
  m_of (by decide +kernel) (Nat.le_of_ble_eq_true rfl) (fun p e s m args below meth c ls C hr hk w hl => by
    have C : Cx p s m args c cX7_runs 3 RX7 g := C
    have hl : lv_has ls 3 [(0, .ref (ga g 0)), (1, .int x1), (2, .int x2)] := hl
    unfold w_X7_runs at h
    obtain ⟨H, eH⟩ : ∃ H : Heap, H = s.heap := ⟨_, rfl⟩
    obtain ⟨locs, el⟩ : ∃ locs : List Loc, locs = [] := ⟨_, rfl⟩
    have w : Wd g layX 68 s.heap M H locs := by rw [eH, el]; exact w
    suffices hw : W p l e (rmOf 5 111) s m args below meth c H locs 0 0 (MQ below (va_Qi Q (PostW g layX 68) (gF g)) args s 0 0 (gF g)) (F0 m 0 ls []) by rw [eH, el] at hw; exact hw
    clear eH el
    refine lv_iload_n C.1.1 C.1.2.1 dX7_runs_0 rfl (lv_at hl 1 rfl) ?_
    refine lv_iconst (v := 0) C.1.1 C.1.2.1 dX7_runs_1 (by decide) ?_
    refine lv_bipush (v := 60) C.1.1 C.1.2.1 dX7_runs_2 (by decide) ?_
    refine q_pSi C w [.int x1, .int 0, .int 60] (c_X7_isOutside  h) ks_X7_isOutside k_45  rfl hl.1 (Nat.le_of_ble_eq_true rfl) ⟨Nat.le_of_ble_eq_true rfl, Nat.le_of_ble_eq_true rfl⟩ dX7_runs_4 (fun r1 H locs h w => ?_)
    refine lv_if_ne (tgt := 19) C.1.1 C.1.2.1 dX7_runs_7 (by decide) (fun hc2 => ?_) (fun hc2 => ?_)
    · replace h := h.2 hc2
      refine lv_iconst (v := (-1)) C.1.1 C.1.2.1 dX7_runs_19 (by decide) ?_
      exact q_iret C hr hk w rfl h dX7_runs_20
    · replace h := h.1 hc2
      refine lv_iload_n C.1.1 C.1.2.1 dX7_runs_10 rfl (lv_at hl 2 rfl) ?_
      refine lv_iconst (v := 0) C.1.1 C.1.2.1 dX7_runs_11 (by decide) ?_
      refine lv_iconst (v := 4) C.1.1 C.1.2.1 dX7_runs_12 (by decide) ?_
      refine q_pSi C w [.int x2, .int 0, .int 4] (c_X7_isOutside  h) ks_X7_isOutside k_45  rfl hl.1 (Nat.le_of_ble_eq_true rfl) ⟨Nat.le_of_ble_eq_true rfl, Nat.le_of_ble_eq_true rfl⟩ dX7_runs_13 (fun r3 H locs h w => ?_)
      refine lv_if_eq (tgt := 21) C.1.1 C.1.2.1 dX7_runs_16 (by decide) (fun hc4 => ?_) (fun hc4 => ?_)
      · replace h := h.1 hc4
        refine lv_aload_n C.1.1 C.1.2.1 dX7_runs_21 rfl (lv_at hl 0 rfl) ?_
        refine gr_RX7_19 C w hx_0 lx_0 rfl dX7_runs_22 ?_
        refine lv_aload_n C.1.1 C.1.2.1 dX7_runs_25 rfl (lv_at hl 0 rfl) ?_
        refine gr_RX7_10 C w hx_0 lx_0 rfl dX7_runs_26 ?_
        refine q_cVv C w [.ref (ga g 1)] (c_X6_begin  h) kv_X6_begin k_64 (rcv C w kc_X6 hx_11 lx_11) rfl hl.1 (Nat.le_of_ble_eq_true rfl) ⟨Nat.le_of_ble_eq_true rfl, Nat.le_of_ble_eq_true rfl⟩ dX7_runs_29 (fun M6 H locs h w => ?_)
        refine lv_aload_n C.1.1 C.1.2.1 dX7_runs_32 rfl (lv_at hl 0 rfl) ?_
        refine gr_RX7_19 C w hx_0 lx_0 rfl dX7_runs_33 ?_
        refine lv_iload_n C.1.1 C.1.2.1 dX7_runs_36 rfl (lv_at hl 1 rfl) ?_
        refine q_cVv C w [.int x1] (c_X6_pass  h) kv_X6_pass k_65 (rcv C w kc_X6 hx_11 lx_11) rfl hl.1 (Nat.le_of_ble_eq_true rfl) ⟨Nat.le_of_ble_eq_true rfl, Nat.le_of_ble_eq_true rfl⟩ dX7_runs_37 (fun M8 H locs h w => ?_)
        refine lv_iload_n C.1.1 C.1.2.1 dX7_runs_40 rfl (lv_at hl 2 rfl) ?_
        by_cases hc9 : x2 = 0
        · replace h := h.1 hc9
          refine q_tin C (off := 31) (tgt := 72) dX7_runs_41 hc9 (by decide) (by decide) (by decide) (by decide) ?_
          refine lv_aload_n C.1.1 C.1.2.1 dX7_runs_72 rfl (lv_at hl 0 rfl) ?_
          refine gr_RX7_19 C w hx_0 lx_0 rfl dX7_runs_73 ?_
          refine gi_RX7_197 C w hx_11 lx_11 rfl dX7_runs_76 ?_
          exact q_iret C hr hk w rfl h dX7_runs_79
        replace h := h.2 hc9
        by_cases hc10 : x2 = 1
        · replace h := h.1 hc10
          refine q_tin C (off := 39) (tgt := 80) dX7_runs_41 hc10 (by decide) (by decide) (by decide) (by decide) ?_
          refine lv_aload_n C.1.1 C.1.2.1 dX7_runs_80 rfl (lv_at hl 0 rfl) ?_
          refine gr_RX7_19 C w hx_0 lx_0 rfl dX7_runs_81 ?_
          refine gi_RX7_200 C w hx_11 lx_11 rfl dX7_runs_84 ?_
          exact q_iret C hr hk w rfl h dX7_runs_87
        replace h := h.2 hc10
        by_cases hc11 : x2 = 2
        · replace h := h.1 hc11
          refine q_tin C (off := 47) (tgt := 88) dX7_runs_41 hc11 (by decide) (by decide) (by decide) (by decide) ?_
          refine lv_aload_n C.1.1 C.1.2.1 dX7_runs_88 rfl (lv_at hl 0 rfl) ?_
          refine gr_RX7_19 C w hx_0 lx_0 rfl dX7_runs_89 ?_
          refine gi_RX7_203 C w hx_11 lx_11 rfl dX7_runs_92 ?_
          exact q_iret C hr hk w rfl h dX7_runs_95
        replace h := h.2 hc11
        by_cases hc12 : x2 = 3
        · replace h := h.1 hc12
          refine q_tin C (off := 55) (tgt := 96) dX7_runs_41 hc12 (by decide) (by decide) (by decide) (by decide) ?_
          refine lv_aload_n C.1.1 C.1.2.1 dX7_runs_96 rfl (lv_at hl 0 rfl) ?_
          refine gr_RX7_19 C w hx_0 lx_0 rfl dX7_runs_97 ?_
          refine gr_RX7_78 C w hx_11 lx_11 rfl dX7_runs_100 ?_
          refine q_pVi C w [] (c_X0_lightOfAll isE_12 h) kv_X0_lightOfAll k_49 (rcv C w kc_X0 hx_12 lx_12) rfl hl.1 (Nat.le_of_ble_eq_true rfl) ⟨Nat.le_of_ble_eq_true rfl, Nat.le_of_ble_eq_true rfl⟩ dX7_runs_103 (fun r13 H locs h w => ?_)
          exact q_iret C hr hk w rfl h dX7_runs_106
        replace h := h.2 hc12
        have nhc9 : ¬ x2.toInt = 0 := lv_neT hc9 (by decide)
        have nhc10 : ¬ x2.toInt = 1 := lv_neT hc10 (by decide)
        have nhc11 : ¬ x2.toInt = 2 := lv_neT hc11 (by decide)
        have nhc12 : ¬ x2.toInt = 3 := lv_neT hc12 (by decide)
        refine q_tout C (tgt := 107) dX7_runs_41 (by omega) (by decide) ?_
        refine lv_aload_n C.1.1 C.1.2.1 dX7_runs_107 rfl (lv_at hl 0 rfl) ?_
        refine gr_RX7_19 C w hx_0 lx_0 rfl dX7_runs_108 ?_
        refine gi_RX7_206 C w hx_11 lx_11 rfl dX7_runs_111 ?_
        have J : ∀ ls : Array Slot, lv_has ls 3 [] → W p l e (rmOf 5 111) s m args below meth c H locs 0 0 (MQ below (va_Qi Q (PostW g layX 68) (gF g)) args s 0 0 (gF g)) (F0 m 129 ls [.int (if (M8 11 5) = 0 then (-4 : Int32) else (M8 11 5))]) := by
          intro ls hl
          exact q_iret C hr hk w rfl h dX7_runs_129
        refine lv_if_ne (tgt := 122) C.1.1 C.1.2.1 dX7_runs_114 (by decide) (fun hc14 => ?_) (fun hc14 => ?_)
        · refine lv_aload_n C.1.1 C.1.2.1 dX7_runs_122 rfl (lv_at hl 0 rfl) ?_
          refine gr_RX7_19 C w hx_0 lx_0 rfl dX7_runs_123 ?_
          refine gi_RX7_206 C w hx_11 lx_11 rfl dX7_runs_126 ?_
          simp only [if_neg hc14] at J hl
          exact J ls (lv_sub hl [] rfl)
        · refine lv_bipush (v := (-4)) C.1.1 C.1.2.1 dX7_runs_117 (by decide) ?_
          refine lv_goto (tgt := 129) C.1.1 C.1.2.1 dX7_runs_119 (by decide) ?_
          simp only [if_pos hc14] at J hl
          exact J ls (lv_sub hl [] rfl)
      · replace h := h.2 hc4
        refine lv_iconst (v := (-1)) C.1.1 C.1.2.1 dX7_runs_19 (by decide) ?_
        exact q_iret C hr hk w rfl h dX7_runs_20)
-- isNoQuestion
set_option maxHeartbeats 4000000 in
set_option maxRecDepth 100000 in
theorem c_X7_isNoQuestion {l : Launch} {g : Gt} {x0 : Int32} {x1 : Int32} {M : Mem} {Q : Int32 → Prop} (h : w_X7_isNoQuestion x0 x1 M Q) : MI l yX7_isNoQuestion cX7_isNoQuestion 2 (some .boolean) 1 22 g layX 68 [.int x0, .int x1] M (fun r M9 => M9 = M ∧ Q r) :=
  m_of (by decide +kernel) (Nat.le_of_ble_eq_true rfl) (fun p e s m args below meth c ls C hr hk w hl => by
    have C : Cx p s m args c cX7_isNoQuestion 2 RX7 g := C
    have hl : lv_has ls 2 [(0, .int x0), (1, .int x1)] := hl
    unfold w_X7_isNoQuestion at h
    obtain ⟨H, eH⟩ : ∃ H : Heap, H = s.heap := ⟨_, rfl⟩
    obtain ⟨locs, el⟩ : ∃ locs : List Loc, locs = [] := ⟨_, rfl⟩
    have w : Wd g layX 68 s.heap M H locs := by rw [eH, el]; exact w
    suffices hw : W p l e (rmOf 1 22) s m args below meth c H locs 0 0 (MQ below (va_Qi (fun r M9 => M9 = M ∧ Q r) (PostW g layX 68) (gF g)) args s 0 0 (gF g)) (F0 m 0 ls []) by rw [eH, el] at hw; exact hw
    clear eH el
    refine lv_iload_n C.1.1 C.1.2.1 dX7_isNoQuestion_0 rfl (lv_at hl 0 rfl) ?_
    refine lv_iconst (v := 0) C.1.1 C.1.2.1 dX7_isNoQuestion_1 (by decide) ?_
    refine lv_bipush (v := 60) C.1.1 C.1.2.1 dX7_isNoQuestion_2 (by decide) ?_
    refine q_pSi C w [.int x0, .int 0, .int 60] (c_X7_isOutside  h) ks_X7_isOutside k_45  rfl hl.1 (Nat.le_of_ble_eq_true rfl) ⟨Nat.le_of_ble_eq_true rfl, Nat.le_of_ble_eq_true rfl⟩ dX7_isNoQuestion_4 (fun r1 H locs h w => ?_)
    refine lv_if_ne (tgt := 19) C.1.1 C.1.2.1 dX7_isNoQuestion_7 (by decide) (fun hc2 => ?_) (fun hc2 => ?_)
    · replace h := h.2 hc2
      refine lv_iconst (v := 1) C.1.1 C.1.2.1 dX7_isNoQuestion_19 (by decide) ?_
      refine lv_goto (tgt := 24) C.1.1 C.1.2.1 dX7_isNoQuestion_20 (by decide) ?_
      exact q_iret C hr hk w rfl ⟨rfl, h⟩ dX7_isNoQuestion_24
    · replace h := h.1 hc2
      refine lv_iload_n C.1.1 C.1.2.1 dX7_isNoQuestion_10 rfl (lv_at hl 1 rfl) ?_
      refine lv_iconst (v := 0) C.1.1 C.1.2.1 dX7_isNoQuestion_11 (by decide) ?_
      refine lv_iconst (v := 1) C.1.1 C.1.2.1 dX7_isNoQuestion_12 (by decide) ?_
      refine q_pSi C w [.int x1, .int 0, .int 1] (c_X7_isOutside  h) ks_X7_isOutside k_45  rfl hl.1 (Nat.le_of_ble_eq_true rfl) ⟨Nat.le_of_ble_eq_true rfl, Nat.le_of_ble_eq_true rfl⟩ dX7_isNoQuestion_13 (fun r3 H locs h w => ?_)
      refine lv_if_eq (tgt := 23) C.1.1 C.1.2.1 dX7_isNoQuestion_16 (by decide) (fun hc4 => ?_) (fun hc4 => ?_)
      · replace h := h.1 hc4
        refine lv_iconst (v := 0) C.1.1 C.1.2.1 dX7_isNoQuestion_23 (by decide) ?_
        exact q_iret C hr hk w rfl ⟨rfl, h⟩ dX7_isNoQuestion_24
      · replace h := h.2 hc4
        refine lv_iconst (v := 1) C.1.1 C.1.2.1 dX7_isNoQuestion_19 (by decide) ?_
        refine lv_goto (tgt := 24) C.1.1 C.1.2.1 dX7_isNoQuestion_20 (by decide) ?_
        exact q_iret C hr hk w rfl ⟨rfl, h⟩ dX7_isNoQuestion_24)
-- ahead
set_option maxHeartbeats 4000000 in
set_option maxRecDepth 100000 in
theorem c_X7_ahead {l : Launch} {g : Gt} {x1 : Int32} {x2 : Int32} {x3 : Int32} {M : Mem} {Q : Int32 → Mem → Prop} (h : w_X7_ahead x1 x2 x3 M Q) : MI l yX7_ahead cX7_ahead 4 (some .int) 5 111 g layX 68 [.ref (ga g 0), .int x1, .int x2, .int x3] M Q :=
  m_of (by decide +kernel) (Nat.le_of_ble_eq_true rfl) (fun p e s m args below meth c ls C hr hk w hl => by
    have C : Cx p s m args c cX7_ahead 4 RX7 g := C
    have hl : lv_has ls 4 [(0, .ref (ga g 0)), (1, .int x1), (2, .int x2), (3, .int x3)] := hl
    unfold w_X7_ahead at h
    obtain ⟨H, eH⟩ : ∃ H : Heap, H = s.heap := ⟨_, rfl⟩
    obtain ⟨locs, el⟩ : ∃ locs : List Loc, locs = [] := ⟨_, rfl⟩
    have w : Wd g layX 68 s.heap M H locs := by rw [eH, el]; exact w
    suffices hw : W p l e (rmOf 5 111) s m args below meth c H locs 0 0 (MQ below (va_Qi Q (PostW g layX 68) (gF g)) args s 0 0 (gF g)) (F0 m 0 ls []) by rw [eH, el] at hw; exact hw
    clear eH el
    refine lv_aload_n C.1.1 C.1.2.1 dX7_ahead_0 rfl (lv_at hl 0 rfl) ?_
    refine lv_iload_n C.1.1 C.1.2.1 dX7_ahead_1 rfl (lv_at hl 1 rfl) ?_
    refine q_pVi C w [.int x1] (c_X7_isNoTaker  h) kv_X7_isNoTaker k_56 (rcv C w kc_X7 hx_0 lx_0) rfl hl.1 (Nat.le_of_ble_eq_true rfl) ⟨Nat.le_of_ble_eq_true rfl, Nat.le_of_ble_eq_true rfl⟩ dX7_ahead_2 (fun r1 H locs h w => ?_)
    refine lv_if_ne (tgt := 16) C.1.1 C.1.2.1 dX7_ahead_5 (by decide) (fun hc2 => ?_) (fun hc2 => ?_)
    · replace h := h.2 hc2
      refine lv_iconst (v := (-1)) C.1.1 C.1.2.1 dX7_ahead_16 (by decide) ?_
      exact q_iret C hr hk w rfl h dX7_ahead_17
    · replace h := h.1 hc2
      refine lv_iload_n C.1.1 C.1.2.1 dX7_ahead_8 rfl (lv_at hl 2 rfl) ?_
      refine lv_iload_n C.1.1 C.1.2.1 dX7_ahead_9 rfl (lv_at hl 3 rfl) ?_
      refine q_pSi C w [.int x2, .int x3] (c_X7_isNoQuestion  h) ks_X7_isNoQuestion k_66  rfl hl.1 (Nat.le_of_ble_eq_true rfl) ⟨Nat.le_of_ble_eq_true rfl, Nat.le_of_ble_eq_true rfl⟩ dX7_ahead_10 (fun r3 H locs h w => ?_)
      refine lv_if_eq (tgt := 18) C.1.1 C.1.2.1 dX7_ahead_13 (by decide) (fun hc4 => ?_) (fun hc4 => ?_)
      · replace h := h.1 hc4
        refine lv_aload_n C.1.1 C.1.2.1 dX7_ahead_18 rfl (lv_at hl 0 rfl) ?_
        refine gr_RX7_19 C w hx_0 lx_0 rfl dX7_ahead_19 ?_
        refine lv_aload_n C.1.1 C.1.2.1 dX7_ahead_22 rfl (lv_at hl 0 rfl) ?_
        refine gr_RX7_10 C w hx_0 lx_0 rfl dX7_ahead_23 ?_
        refine q_cVv C w [.ref (ga g 1)] (c_X6_begin  h) kv_X6_begin k_64 (rcv C w kc_X6 hx_11 lx_11) rfl hl.1 (Nat.le_of_ble_eq_true rfl) ⟨Nat.le_of_ble_eq_true rfl, Nat.le_of_ble_eq_true rfl⟩ dX7_ahead_26 (fun M6 H locs h w => ?_)
        refine lv_aload_n C.1.1 C.1.2.1 dX7_ahead_29 rfl (lv_at hl 0 rfl) ?_
        refine gr_RX7_19 C w hx_0 lx_0 rfl dX7_ahead_30 ?_
        refine lv_iload_n C.1.1 C.1.2.1 dX7_ahead_33 rfl (lv_at hl 2 rfl) ?_
        refine q_cVv C w [.int x2] (c_X6_pass  h) kv_X6_pass k_65 (rcv C w kc_X6 hx_11 lx_11) rfl hl.1 (Nat.le_of_ble_eq_true rfl) ⟨Nat.le_of_ble_eq_true rfl, Nat.le_of_ble_eq_true rfl⟩ dX7_ahead_34 (fun M8 H locs h w => ?_)
        refine lv_iload_n C.1.1 C.1.2.1 dX7_ahead_37 rfl (lv_at hl 3 rfl) ?_
        refine lv_if_ne (tgt := 56) C.1.1 C.1.2.1 dX7_ahead_38 (by decide) (fun hc9 => ?_) (fun hc9 => ?_)
        · replace h := h.2 hc9
          refine lv_aload_n C.1.1 C.1.2.1 dX7_ahead_56 rfl (lv_at hl 0 rfl) ?_
          refine gr_RX7_19 C w hx_0 lx_0 rfl dX7_ahead_57 ?_
          refine gr_RX7_78 C w hx_11 lx_11 rfl dX7_ahead_60 ?_
          refine gr_RX7_155 C w hx_12 lx_12 rfl dX7_ahead_63 ?_
          refine lv_iload_n C.1.1 C.1.2.1 dX7_ahead_66 rfl (lv_at hl 1 rfl) ?_
          refine q_ial C w hx_18 lx_18 h.1 dX7_ahead_67 ?_
          replace h := h.2
          exact q_iret C hr hk w rfl h dX7_ahead_68
        · replace h := h.1 hc9
          refine lv_aload_n C.1.1 C.1.2.1 dX7_ahead_41 rfl (lv_at hl 0 rfl) ?_
          refine gr_RX7_19 C w hx_0 lx_0 rfl dX7_ahead_42 ?_
          refine gr_RX7_78 C w hx_11 lx_11 rfl dX7_ahead_45 ?_
          refine gr_RX7_152 C w hx_12 lx_12 rfl dX7_ahead_48 ?_
          refine lv_iload_n C.1.1 C.1.2.1 dX7_ahead_51 rfl (lv_at hl 1 rfl) ?_
          refine q_ial C w hx_17 lx_17 h.1 dX7_ahead_52 ?_
          replace h := h.2
          refine lv_goto (tgt := 68) C.1.1 C.1.2.1 dX7_ahead_53 (by decide) ?_
          exact q_iret C hr hk w rfl h dX7_ahead_68
      · replace h := h.2 hc4
        refine lv_iconst (v := (-1)) C.1.1 C.1.2.1 dX7_ahead_16 (by decide) ?_
        exact q_iret C hr hk w rfl h dX7_ahead_17)
-- glow
set_option maxHeartbeats 4000000 in
set_option maxRecDepth 100000 in
theorem c_X7_glow {l : Launch} {g : Gt} {x1 : Int32} {x2 : Int32} {M : Mem} {Q : Int32 → Mem → Prop} (h : w_X7_glow x1 x2 M Q) : MI l yX7_glow cX7_glow 3 (some .int) 5 111 g layX 68 [.ref (ga g 0), .int x1, .int x2] M Q :=
  m_of (by decide +kernel) (Nat.le_of_ble_eq_true rfl) (fun p e s m args below meth c ls C hr hk w hl => by
    have C : Cx p s m args c cX7_glow 3 RX7 g := C
    have hl : lv_has ls 3 [(0, .ref (ga g 0)), (1, .int x1), (2, .int x2)] := hl
    unfold w_X7_glow at h
    obtain ⟨H, eH⟩ : ∃ H : Heap, H = s.heap := ⟨_, rfl⟩
    obtain ⟨locs, el⟩ : ∃ locs : List Loc, locs = [] := ⟨_, rfl⟩
    have w : Wd g layX 68 s.heap M H locs := by rw [eH, el]; exact w
    suffices hw : W p l e (rmOf 5 111) s m args below meth c H locs 0 0 (MQ below (va_Qi Q (PostW g layX 68) (gF g)) args s 0 0 (gF g)) (F0 m 0 ls []) by rw [eH, el] at hw; exact hw
    clear eH el
    refine lv_iload_n C.1.1 C.1.2.1 dX7_glow_0 rfl (lv_at hl 1 rfl) ?_
    refine q_pSi C w [.int x1] (c_X7_isNoGate  h) ks_X7_isNoGate k_53  rfl hl.1 (Nat.le_of_ble_eq_true rfl) ⟨Nat.le_of_ble_eq_true rfl, Nat.le_of_ble_eq_true rfl⟩ dX7_glow_1 (fun r1 H locs h w => ?_)
    refine lv_if_ne (tgt := 17) C.1.1 C.1.2.1 dX7_glow_4 (by decide) (fun hc2 => ?_) (fun hc2 => ?_)
    · replace h := h.2 hc2
      refine lv_iconst (v := (-1)) C.1.1 C.1.2.1 dX7_glow_17 (by decide) ?_
      exact q_iret C hr hk w rfl h dX7_glow_18
    · replace h := h.1 hc2
      refine lv_iload_n C.1.1 C.1.2.1 dX7_glow_7 rfl (lv_at hl 2 rfl) ?_
      refine lv_iconst (v := 0) C.1.1 C.1.2.1 dX7_glow_8 (by decide) ?_
      refine lv_bipush (v := 60) C.1.1 C.1.2.1 dX7_glow_9 (by decide) ?_
      refine q_pSi C w [.int x2, .int 0, .int 60] (c_X7_isOutside  h) ks_X7_isOutside k_45  rfl hl.1 (Nat.le_of_ble_eq_true rfl) ⟨Nat.le_of_ble_eq_true rfl, Nat.le_of_ble_eq_true rfl⟩ dX7_glow_11 (fun r3 H locs h w => ?_)
      refine lv_if_eq (tgt := 19) C.1.1 C.1.2.1 dX7_glow_14 (by decide) (fun hc4 => ?_) (fun hc4 => ?_)
      · replace h := h.1 hc4
        refine lv_aload_n C.1.1 C.1.2.1 dX7_glow_19 rfl (lv_at hl 0 rfl) ?_
        refine gr_RX7_19 C w hx_0 lx_0 rfl dX7_glow_20 ?_
        refine lv_aload_n C.1.1 C.1.2.1 dX7_glow_23 rfl (lv_at hl 0 rfl) ?_
        refine gr_RX7_10 C w hx_0 lx_0 rfl dX7_glow_24 ?_
        refine q_cVv C w [.ref (ga g 1)] (c_X6_begin  h) kv_X6_begin k_64 (rcv C w kc_X6 hx_11 lx_11) rfl hl.1 (Nat.le_of_ble_eq_true rfl) ⟨Nat.le_of_ble_eq_true rfl, Nat.le_of_ble_eq_true rfl⟩ dX7_glow_27 (fun M6 H locs h w => ?_)
        refine lv_aload_n C.1.1 C.1.2.1 dX7_glow_30 rfl (lv_at hl 0 rfl) ?_
        refine gr_RX7_19 C w hx_0 lx_0 rfl dX7_glow_31 ?_
        refine lv_iload_n C.1.1 C.1.2.1 dX7_glow_34 rfl (lv_at hl 2 rfl) ?_
        refine q_cVv C w [.int x2] (c_X6_pass  h) kv_X6_pass k_65 (rcv C w kc_X6 hx_11 lx_11) rfl hl.1 (Nat.le_of_ble_eq_true rfl) ⟨Nat.le_of_ble_eq_true rfl, Nat.le_of_ble_eq_true rfl⟩ dX7_glow_35 (fun M8 H locs h w => ?_)
        refine lv_aload_n C.1.1 C.1.2.1 dX7_glow_38 rfl (lv_at hl 0 rfl) ?_
        refine gr_RX7_19 C w hx_0 lx_0 rfl dX7_glow_39 ?_
        refine gr_RX7_78 C w hx_11 lx_11 rfl dX7_glow_42 ?_
        refine gr_RX7_129 C w hx_12 lx_12 rfl dX7_glow_45 ?_
        refine lv_iload_n C.1.1 C.1.2.1 dX7_glow_48 rfl (lv_at hl 1 rfl) ?_
        refine q_ial C w hx_13 lx_13 h.1 dX7_glow_49 ?_
        replace h := h.2
        exact q_iret C hr hk w rfl h dX7_glow_50
      · replace h := h.2 hc4
        refine lv_iconst (v := (-1)) C.1.1 C.1.2.1 dX7_glow_17 (by decide) ?_
        exact q_iret C hr hk w rfl h dX7_glow_18)
end
