-- caught
def w_X7_caught_23 (x1 : Int32) (Q : Int32 → Mem → Prop) (K23 : Int32 → Mem → Prop) (x2 : Int32) (M : Mem) : Prop :=
  (60 < x2 → Q (-4) M) ∧ (¬ 60 < x2 → w_X6_passOne 0 M (fun M7 => w_X6_wasCaught x1 M7 (fun r8 => (r8 = 0 → K23 (x2 + 1) M7) ∧ (¬ r8 = 0 → Q x2 M7))))
def w_X7_caught (x1 : Int32) (M : Mem) (Q : Int32 → Mem → Prop) : Prop :=
  w_X7_isNoTaker x1 M (fun r1 => (r1 = 0 → w_X6_begin M (fun M4 => ∃ n, fu2 (w_X7_caught_23 x1 Q) n 1 M4)) ∧ (¬ r1 = 0 → Q (-1) M))
-- fullestBag
def w_X7_fullestBag_81 (r : Nat) (nr : Nat) (x5 : Int32) (x6 : Int32) (x7 : Int32) (M : Mem) (Q : Int32 → Mem → Prop) : Prop :=
  Q (if x5 = 0 then x6 else x7) M
def w_X7_fullestBag_75 (r : Nat) (nr : Nat) (x1 : Int32) (x3 : Int32) (x4 : Int32) (x5 : Int32) (x6 : Int32) (x7 : Int32) (x8 : Int32) (M : Mem) (K9 : Int32 → Int32 → Int32 → Mem → Prop) (Q : Int32 → Mem → Prop) : Prop :=
  K9 x6 x7 (x8 + 1) M
def w_X7_fullestBag_9 (r : Nat) (nr : Nat) (x1 : Int32) (x3 : Int32) (x4 : Int32) (x5 : Int32) (Q : Int32 → Mem → Prop) (K9 : Int32 → Int32 → Int32 → Mem → Prop) (x6 : Int32) (x7 : Int32) (x8 : Int32) (M : Mem) : Prop :=
  (x3 < x8 → w_X7_fullestBag_81 r nr x5 x6 x7 M Q) ∧ (¬ x3 < x8 → w_X6_begin M (fun M4 => vp_in x1 nr ∧ ∀ M5, M5 = mu M4 r x1.toNatClampNeg x8 → w_X6_pass x4 M5 (fun M7 => vp_in x1 5 ∧ ((M7 17 x1.toNatClampNeg) ≤ x7 → w_X7_fullestBag_75 r nr x1 x3 x4 x5 x6 x7 x8 M7 K9 Q) ∧ (¬ (M7 17 x1.toNatClampNeg) ≤ x7 → vp_in x1 5 ∧ w_X7_fullestBag_75 r nr x1 x3 x4 x5 x8 (M7 17 x1.toNatClampNeg) x8 M7 K9 Q))))
def w_X7_fullestBag (r : Nat) (nr : Nat) (x1 : Int32) (x3 : Int32) (x4 : Int32) (x5 : Int32) (M : Mem) (Q : Int32 → Mem → Prop) : Prop :=
  ∃ n, fu4 (w_X7_fullestBag_9 r nr x1 x3 x4 x5 Q) n 0 (-1) 0 M
-- best
def w_X7_best (x1 : Int32) (x2 : Int32) (x3 : Int32) (M : Mem) (Q : Int32 → Mem → Prop) : Prop :=
  w_X7_isNoTaker x1 M (fun r1 => (r1 = 0 → w_X7_isNoQuestion x2 x3 M (fun r3 => (r3 = 0 → w_X7_fullestBag 16 5 x1 5 x2 x3 M (fun r5 M6 => Q r5 M6)) ∧ (¬ r3 = 0 → Q (-1) M))) ∧ (¬ r1 = 0 → Q (-1) M))
-- ripen
def w_X7_ripen (x1 : Int32) (x2 : Int32) (x3 : Int32) (M : Mem) (Q : Int32 → Mem → Prop) : Prop :=
  w_X7_isNoTaker x1 M (fun r1 => (r1 = 0 → w_X7_isNoQuestion x2 x3 M (fun r3 => (r3 = 0 → w_X7_fullestBag 18 5 x1 20 x2 x3 M (fun r5 M6 => Q r5 M6)) ∧ (¬ r3 = 0 → Q (-1) M))) ∧ (¬ r1 = 0 → Q (-1) M))
-- swap
def w_X7_swap_181 (x2 : Int32) (x3 : Int32) (x4 : Int32) (M : Mem) (Q : Int32 → Mem → Prop) : Prop :=
  Q (if x2 = 0 then x3 else (if x3 = (-4) then x3 else x4)) M
def w_X7_swap_175 (x1 : Int32) (x2 : Int32) (x3 : Int32) (x4 : Int32) (x5 : Int32) (M : Mem) (K44 : Int32 → Int32 → Int32 → Mem → Prop) (Q : Int32 → Mem → Prop) : Prop :=
  K44 x3 x4 (x5 + 1) M
def w_X7_swap_62 (x1 : Int32) (x2 : Int32) (x5 : Int32) (K44 : Int32 → Int32 → Int32 → Mem → Prop) (Q : Int32 → Mem → Prop) (K62 : Int32 → Int32 → Int32 → Mem → Prop) (x3 : Int32) (x4 : Int32) (x6 : Int32) (M : Mem) : Prop :=
  ((M 1 9) ≤ x6 → w_X7_swap_175 x1 x2 x3 x4 x5 M K44 Q) ∧ (¬ (M 1 9) ≤ x6 → w_X6_begin M (fun M12 => vp_in x6 5 ∧ vp_in x5 5 ∧ ∀ M13, M13 = mu M12 16 x5.toNatClampNeg (M12 5 x6.toNatClampNeg) → vp_in x5 5 ∧ vp_in x6 5 ∧ ∀ M14, M14 = mu M13 16 x6.toNatClampNeg (M13 5 x5.toNatClampNeg) → w_X6_pass x1 M14 (fun M16 => K62 (if (M16 11 2) ≤ x4 then x3 else ((10 * x5) + x6)) (if (M16 11 2) ≤ x4 then x4 else (M16 11 2)) (x6 + 1) M16)))
def w_X7_swap_44 (x1 : Int32) (x2 : Int32) (Q : Int32 → Mem → Prop) (K44 : Int32 → Int32 → Int32 → Mem → Prop) (x3 : Int32) (x4 : Int32) (x5 : Int32) (M : Mem) : Prop :=
  ((M 1 9) ≤ x5 → w_X7_swap_181 x2 x3 x4 M Q) ∧ (¬ (M 1 9) ≤ x5 → ∃ n, fu4 (w_X7_swap_62 x1 x2 x5 K44 Q) n x3 x4 (x5 + 1) M)
def w_X7_swap (x1 : Int32) (x2 : Int32) (M : Mem) (Q : Int32 → Mem → Prop) : Prop :=
  w_X7_isNoQuestion x1 x2 M (fun r1 => (r1 = 0 → w_X6_begin M (fun M4 => w_X6_pass x1 M4 (fun M6 => ∃ n, fu4 (w_X7_swap_44 x1 x2 Q) n (-4) (M6 11 2) 0 M6))) ∧ (¬ r1 = 0 → Q (-1) M))
-- round
def w_X7_round_133 (x3 : Int32) (x4 : Int32) (x5 : Int32) (M : Mem) (Q : Int32 → Mem → Prop) : Prop :=
  Q (if x3 = 0 then x4 else x5) M
def w_X7_round_127 (x1 : Int32) (x2 : Int32) (x3 : Int32) (x4 : Int32) (x5 : Int32) (x6 : Int32) (M : Mem) (K27 : Int32 → Int32 → Int32 → Mem → Prop) (Q : Int32 → Mem → Prop) : Prop :=
  K27 x4 x5 (x6 + 1) M
def w_X7_round_37 (x1 : Int32) (x2 : Int32) (x3 : Int32) (x6 : Int32) (K27 : Int32 → Int32 → Int32 → Mem → Prop) (Q : Int32 → Mem → Prop) (K37 : Int32 → Int32 → Int32 → Mem → Prop) (x4 : Int32) (x5 : Int32) (x7 : Int32) (M : Mem) : Prop :=
  (5 < x7 → w_X7_round_127 x1 x2 x3 x4 x5 x6 M K27 Q) ∧ (¬ 5 < x7 → w_X6_begin M (fun M9 => vp_in x1 3 ∧ ∀ M10, M10 = mu M9 19 x1.toNatClampNeg x6 → vp_in x1 3 ∧ ∀ M11, M11 = mu M10 20 x1.toNatClampNeg x7 → w_X6_pass x2 M11 (fun M13 => K37 (if (M13 11 3) ≤ x5 then x4 else ((10 * x6) + x7)) (if (M13 11 3) ≤ x5 then x5 else (M13 11 3)) (x7 + 1) M13)))
def w_X7_round_27 (x1 : Int32) (x2 : Int32) (x3 : Int32) (Q : Int32 → Mem → Prop) (K27 : Int32 → Int32 → Int32 → Mem → Prop) (x4 : Int32) (x5 : Int32) (x6 : Int32) (M : Mem) : Prop :=
  (6 ≤ x6 → w_X7_round_133 x3 x4 x5 M Q) ∧ (¬ 6 ≤ x6 → ∃ n, fu4 (w_X7_round_37 x1 x2 x3 x6 K27 Q) n x4 x5 0 M)
def w_X7_round (x1 : Int32) (x2 : Int32) (x3 : Int32) (M : Mem) (Q : Int32 → Mem → Prop) : Prop :=
  w_X7_isNoKeeper x1 M (fun r1 => (r1 = 0 → w_X7_isNoQuestion x2 x3 M (fun r3 => (r3 = 0 → ∃ n, fu4 (w_X7_round_27 x1 x2 x3 Q) n 0 (-1) 0 M) ∧ (¬ r3 = 0 → Q (-1) M))) ∧ (¬ r1 = 0 → Q (-1) M))
-- post
def w_X7_post_123 (x3 : Int32) (x4 : Int32) (x5 : Int32) (M : Mem) (Q : Int32 → Mem → Prop) : Prop :=
  Q (if x3 = 0 then x4 else x5) M
def w_X7_post_44 (x1 : Int32) (x2 : Int32) (x3 : Int32) (Q : Int32 → Mem → Prop) (K44 : Int32 → Int32 → Int32 → Mem → Prop) (x4 : Int32) (x5 : Int32) (x6 : Int32) (M : Mem) : Prop :=
  (6 ≤ x6 → w_X7_post_123 x3 x4 x5 M Q) ∧ (¬ 6 ≤ x6 → w_X6_begin M (fun M9 => w_X0_addKeeper 12 x6 0 x1 M9 (fun r10 M11 => w_X6_pass x2 M11 (fun M13 => K44 (if x4 = (-4) then x6 else (if x5 ≤ (M13 11 2) then x4 else x6)) (if x4 = (-4) then (M13 11 2) else (if x5 ≤ (M13 11 2) then x5 else (M13 11 2))) (x6 + 1) M13))))
def w_X7_post (x1 : Int32) (x2 : Int32) (x3 : Int32) (M : Mem) (Q : Int32 → Mem → Prop) : Prop :=
  w_X7_isOutside x1 1 9 M (fun r1 => (r1 = 0 → w_X7_isNoQuestion x2 x3 M (fun r3 => (r3 = 0 → ((M 1 10) < 3 → ∃ n, fu4 (w_X7_post_44 x1 x2 x3 Q) n (-4) 0 0 M) ∧ (¬ (M 1 10) < 3 → Q (-3) M)) ∧ (¬ r3 = 0 → Q (-1) M))) ∧ (¬ r1 = 0 → Q (-1) M))
-- kind
def w_X7_kind (x1 : Int32) (x2 : Int32) (x3 : Int32) (M : Mem) (Q : Int32 → Mem → Prop) : Prop :=
  w_X7_isNoTaker x1 M (fun r1 => (r1 = 0 → w_X7_isNoQuestion x2 x3 M (fun r3 => (r3 = 0 → w_X7_fullestBag 15 5 x1 3 x2 x3 M (fun r5 M6 => Q r5 M6)) ∧ (¬ r3 = 0 → Q (-1) M))) ∧ (¬ r1 = 0 → Q (-1) M))
-- sharp
def w_X7_sharp_32 (x1 : Int32) (x2 : Int32) (x3 : Int32) (Q : Int32 → Mem → Prop) (K32 : Int32 → Mem → Prop) (x4 : Int32) (M : Mem) : Prop :=
  (x4 < 1 → Q (-4) M) ∧ (¬ x4 < 1 → w_X6_begin M (fun M9 => vp_in x1 3 ∧ ∀ M10, M10 = mu M9 21 x1.toNatClampNeg x4 → w_X6_pass x3 M10 (fun M12 => w_X6_wasCaught x2 M12 (fun r13 => (r13 = 0 → K32 (x4 + (-1)) M12) ∧ (¬ r13 = 0 → Q x4 M12)))))
def w_X7_sharp (x1 : Int32) (x2 : Int32) (x3 : Int32) (M : Mem) (Q : Int32 → Mem → Prop) : Prop :=
  w_X7_isNoKeeper x1 M (fun r1 => (r1 = 0 → w_X7_isNoTaker x2 M (fun r3 => (r3 = 0 → w_X7_isOutside x3 0 60 M (fun r5 => (r5 = 0 → ∃ n, fu2 (w_X7_sharp_32 x1 x2 x3 Q) n 9 M) ∧ (¬ r5 = 0 → Q (-1) M))) ∧ (¬ r3 = 0 → Q (-1) M))) ∧ (¬ r1 = 0 → Q (-1) M))
-- isNoHaze
def w_X7_isNoHaze (x0 : Int32) (x1 : Int32) (x2 : Int32) (M : Mem) (Q : Int32 → Prop) : Prop :=
  w_X7_isOutside x0 0 10 M (fun r1 => (r1 = 0 → w_X7_isOutside x1 0 8 M (fun r3 => (r3 = 0 → w_X7_isOutside x2 0 1 M (fun r5 => (r5 = 0 → Q 0) ∧ (¬ r5 = 0 → Q 1))) ∧ (¬ r3 = 0 → Q 1))) ∧ (¬ r1 = 0 → Q 1))
-- commonDivisor
def w_X7_commonDivisor_44 (y4 : Int64) (M : Mem) (Q : Int64 → Prop) : Prop :=
  Q (if (lg_cmp y4 0) ≤ 0 then (1 : Int64) else y4)
def w_X7_commonDivisor_9 (M : Mem) (Q : Int64 → Prop) (K9 : Int64 → Int64 → Int32 → Prop) (y4 : Int64) (y6 : Int64) (x8 : Int32) : Prop :=
  (100 ≤ x8 → w_X7_commonDivisor_44 y4 M Q) ∧ (¬ 100 ≤ x8 → ((lg_cmp y6 0) = 0 → w_X7_commonDivisor_44 y4 M Q) ∧ (¬ (lg_cmp y6 0) = 0 → ¬ y6 = 0 ∧ K9 y6 (lrm y4 y6) (x8 + 1)))
def w_X7_commonDivisor (y0 : Int64) (y2 : Int64) (M : Mem) (Q : Int64 → Prop) : Prop :=
  ∃ n, fu3 (w_X7_commonDivisor_9 M Q) n y0 y2 0
-- partOfFraction
def w_X7_partOfFraction (y0 : Int64) (y2 : Int64) (x4 : Int32) (M : Mem) (Q : Int64 → Prop) : Prop :=
  w_X7_commonDivisor y0 y2 M (fun r1 => (x4 = 0 → ¬ r1 = 0 ∧ Q (y0 / r1)) ∧ (¬ x4 = 0 → ¬ r1 = 0 ∧ Q (y2 / r1)))
-- luck
def w_X7_luck_91 (x4 : Int32) (y5 : Int64) (y7 : Int64) (M : Mem) (Q : Int64 → Mem → Prop) : Prop :=
  w_X7_partOfFraction y5 y7 x4 M (fun r8 => Q r8 M)
def w_X7_luck_42 (x1 : Int32) (x2 : Int32) (x3 : Int32) (x4 : Int32) (Q : Int64 → Mem → Prop) (K42 : Int64 → Int64 → Int32 → Mem → Prop) (y5 : Int64) (y7 : Int64) (x9 : Int32) (M : Mem) : Prop :=
  (x3 ≤ x9 → w_X7_luck_91 x4 y5 y7 M Q) ∧ (¬ x3 ≤ x9 → w_X0_wouldBeCaught 12 x2 M (fun r9 => w_X6_passOne 1 M (fun M12 => K42 (if r9 = 0 then y5 else (y5 * (x1.toInt64))) (if r9 = 0 then y7 else (y7 * 10)) (x9 + 1) M12)))
def w_X7_luck (x1 : Int32) (x2 : Int32) (x3 : Int32) (x4 : Int32) (M : Mem) (Q : Int64 → Mem → Prop) : Prop :=
  w_X7_isNoTaker x2 M (fun r1 => (r1 = 0 → w_X7_isNoHaze x1 x3 x4 M (fun r3 => (r3 = 0 → w_X6_begin M (fun M6 => ∃ n, fu4 (w_X7_luck_42 x1 x2 x3 x4 Q) n 1 1 0 M6)) ∧ (¬ r3 = 0 → Q (-1) M))) ∧ (¬ r1 = 0 → Q (-1) M))
-- weightOf
def w_X7_weightOf_5 (x0 : Int32) (x1 : Int32) (x2 : Int32) (M : Mem) (Q : Int64 → Prop) (K5 : Int64 → Int32 → Prop) (y3 : Int64) (x5 : Int32) : Prop :=
  (x2 ≤ x5 → Q y3) ∧ (¬ x2 ≤ x5 → ∀ v3 : Int64, v3 = (y3 * (if ((sr x0 x5) &&& 1) = 1 then (x1.toInt64) else ((10 - x1).toInt64))) → K5 v3 (x5 + 1))
def w_X7_weightOf (x0 : Int32) (x1 : Int32) (x2 : Int32) (M : Mem) (Q : Int64 → Prop) : Prop :=
  ∃ n, fu2 (w_X7_weightOf_5 x0 x1 x2 M Q) n 1 0
-- takenInHazes
def w_X7_takenInHazes_45 (M : Mem) (Q : Int32 → Mem → Prop) : Prop :=
  Q (M 11 2) M
def w_X7_takenInHazes_13 (x1 : Int32) (x2 : Int32) (Q : Int32 → Mem → Prop) (K13 : Int32 → Mem → Prop) (x3 : Int32) (M : Mem) : Prop :=
  (x2 ≤ x3 → w_X7_takenInHazes_45 M Q) ∧ (¬ x2 ≤ x3 → w_X6_passOne (if ((sr x1 x3) &&& 1) = 1 then (1 : Int32) else 0) M (fun M6 => K13 (x3 + 1) M6))
def w_X7_takenInHazes (x1 : Int32) (x2 : Int32) (M : Mem) (Q : Int32 → Mem → Prop) : Prop :=
  w_X6_begin M (fun M2 => ∃ n, fu2 (w_X7_takenInHazes_13 x1 x2 Q) n 0 M2)
-- mean
def w_X7_mean_91 (x3 : Int32) (y4 : Int64) (y6 : Int64) (M : Mem) (Q : Int64 → Mem → Prop) : Prop :=
  w_X7_partOfFraction y6 y4 x3 M (fun r5 => Q r5 M)
def w_X7_mean_85 (x1 : Int32) (x2 : Int32) (x3 : Int32) (y4 : Int64) (y6 : Int64) (x8 : Int32) (M : Mem) (K45 : Int64 → Int32 → Mem → Prop) (Q : Int64 → Mem → Prop) : Prop :=
  K45 y6 (x8 + 1) M
def w_X7_mean_45 (x1 : Int32) (x2 : Int32) (x3 : Int32) (y4 : Int64) (Q : Int64 → Mem → Prop) (K45 : Int64 → Int32 → Mem → Prop) (y6 : Int64) (x8 : Int32) (M : Mem) : Prop :=
  ((sl 1 x2) ≤ x8 → w_X7_mean_91 x3 y4 y6 M Q) ∧ (¬ (sl 1 x2) ≤ x8 → w_X7_weightOf x8 x1 x2 M (fun r6 => ((lg_cmp r6 0) ≤ 0 → w_X7_mean_85 x1 x2 x3 y4 y6 x8 M K45 Q) ∧ (¬ (lg_cmp r6 0) ≤ 0 → w_X7_takenInHazes x8 x2 M (fun r8 M9 => w_X7_mean_85 x1 x2 x3 y4 (y6 + (r6 * (r8.toInt64))) x8 M9 K45 Q))))
def w_X7_mean_39 (x1 : Int32) (x2 : Int32) (x3 : Int32) (y4 : Int64) (M : Mem) (Q : Int64 → Mem → Prop) : Prop :=
  ∃ n, fu3 (w_X7_mean_45 x1 x2 x3 y4 Q) n 0 0 M
def w_X7_mean_19 (x1 : Int32) (x2 : Int32) (x3 : Int32) (M : Mem) (Q : Int64 → Mem → Prop) (K19 : Int64 → Int32 → Prop) (y4 : Int64) (x6 : Int32) : Prop :=
  (x2 ≤ x6 → w_X7_mean_39 x1 x2 x3 y4 M Q) ∧ (¬ x2 ≤ x6 → K19 (y4 * 10) (x6 + 1))
def w_X7_mean (x1 : Int32) (x2 : Int32) (x3 : Int32) (M : Mem) (Q : Int64 → Mem → Prop) : Prop :=
  w_X7_isNoHaze x1 x2 x3 M (fun r1 => (r1 = 0 → ∃ n, fu2 (w_X7_mean_19 x1 x2 x3 M Q) n 1 0) ∧ (¬ r1 = 0 → Q (-1) M))
section
variable {p : Program} {l : Launch} {e : Env} {s : State} {m : MethodId} {args : Array Value} {below : List Frame} {meth : Method} {c : Code} {g : Gt}
-- caught
set_option maxHeartbeats 4000000 in
set_option maxRecDepth 100000 in
theorem v_X7_caught_23 {x1 : Int32} {x2 : Int32} {M : Mem} {K23 : Int32 → Mem → Prop} {Q : Int32 → Mem → Prop} {H : Heap} {locs : List Loc} {ls : Array Slot} (C : Cx p s m args c cX7_caught 3 RX7 g) (hr : meth.sig.returnType = (some .int)) (hk : meth.locks = false) (hK23 : ∀ (x2 : Int32) (M : Mem) (H : Heap) (locs : List Loc) (ls : Array Slot), K23 x2 M → Wd g layX 68 s.heap M H locs → lv_has ls 3 [(0, .ref (ga g 0)), (1, .int x1), (2, .int x2)] → W p l e (rmOf 4 89) s m args below meth c H locs 0 0 (MQ below (va_Qi Q (PostW g layX 68) (gF g)) args s 0 0 (gF g)) (F0 m 23 ls [])) (h : w_X7_caught_23 x1 Q K23 x2 M) (w : Wd g layX 68 s.heap M H locs) (hl : lv_has ls 3 [(0, .ref (ga g 0)), (1, .int x1), (2, .int x2)]) : W p l e (rmOf 4 89) s m args below meth c H locs 0 0 (MQ below (va_Qi Q (PostW g layX 68) (gF g)) args s 0 0 (gF g)) (F0 m 23 ls []) := by
  unfold w_X7_caught_23 at h
  refine lv_iload_n C.1.1 C.1.2.1 dX7_caught_23 rfl (lv_at hl 2 rfl) ?_
  refine lv_bipush (v := 60) C.1.1 C.1.2.1 dX7_caught_24 (by decide) ?_
  refine lv_icmp_gt (tgt := 56) C.1.1 C.1.2.1 dX7_caught_26 (by decide) (fun hc5 => ?_) (fun hc5 => ?_)
  · replace h := h.1 hc5
    refine lv_bipush (v := (-4)) C.1.1 C.1.2.1 dX7_caught_56 (by decide) ?_
    exact q_iret C hr hk w rfl h dX7_caught_58
  · replace h := h.2 hc5
    refine lv_aload_n C.1.1 C.1.2.1 dX7_caught_29 rfl (lv_at hl 0 rfl) ?_
    refine gr_RX7_19 C w hx_0 lx_0 rfl dX7_caught_30 ?_
    refine lv_iconst (v := 0) C.1.1 C.1.2.1 dX7_caught_33 (by decide) ?_
    refine q_cVv C w [.int 0] (c_X6_passOne  h) kv_X6_passOne k_67 (rcv C w kc_X6 hx_11 lx_11) rfl hl.1 (Nat.le_of_ble_eq_true rfl) ⟨Nat.le_of_ble_eq_true rfl, Nat.le_of_ble_eq_true rfl⟩ dX7_caught_34 (fun M7 H locs h w => ?_)
    refine lv_aload_n C.1.1 C.1.2.1 dX7_caught_37 rfl (lv_at hl 0 rfl) ?_
    refine gr_RX7_19 C w hx_0 lx_0 rfl dX7_caught_38 ?_
    refine lv_iload_n C.1.1 C.1.2.1 dX7_caught_41 rfl (lv_at hl 1 rfl) ?_
    refine q_pVi C w [.int x1] (c_X6_wasCaught  h) kv_X6_wasCaught k_68 (rcv C w kc_X6 hx_11 lx_11) rfl hl.1 (Nat.le_of_ble_eq_true rfl) ⟨Nat.le_of_ble_eq_true rfl, Nat.le_of_ble_eq_true rfl⟩ dX7_caught_42 (fun r8 H locs h w => ?_)
    refine lv_if_eq (tgt := 50) C.1.1 C.1.2.1 dX7_caught_45 (by decide) (fun hc9 => ?_) (fun hc9 => ?_)
    · replace h := h.1 hc9
      refine lv_iinc (v := x2 + 1) (lv' := [(2, .int (x2 + 1)), (0, .ref (ga g 0)), (1, .int x1)]) C.1.1 C.1.2.1 dX7_caught_50 hl (k := 2) rfl rfl (by decide) rfl (fun ls hl => ?_)
      refine lv_goto (tgt := 23) C.1.1 C.1.2.1 dX7_caught_53 (by decide) ?_
      exact hK23 _ _ _ _ _ h w (lv_sub hl [1, 2, 0] rfl)
    · replace h := h.2 hc9
      refine lv_iload_n C.1.1 C.1.2.1 dX7_caught_48 rfl (lv_at hl 2 rfl) ?_
      exact q_iret C hr hk w rfl h dX7_caught_49
set_option maxHeartbeats 4000000 in
set_option maxRecDepth 100000 in
theorem l_X7_caught_23 {x1 : Int32} {Q : Int32 → Mem → Prop} (C : Cx p s m args c cX7_caught 3 RX7 g) (hr : meth.sig.returnType = (some .int)) (hk : meth.locks = false)  : ∀ (n : Nat) (x2 : Int32) (M : Mem) (H : Heap) (locs : List Loc) (ls : Array Slot), fu2 (w_X7_caught_23 x1 Q) n x2 M → Wd g layX 68 s.heap M H locs → lv_has ls 3 [(0, .ref (ga g 0)), (1, .int x1), (2, .int x2)] → W p l e (rmOf 4 89) s m args below meth c H locs 0 0 (MQ below (va_Qi Q (PostW g layX 68) (gF g)) args s 0 0 (gF g)) (F0 m 23 ls []) := by
  intro n
  induction n with
  | zero => intro x2 M H locs ls h; exact h.elim
  | succ n ih => intro x2 M H locs ls h w hl; exact v_X7_caught_23 C hr hk   ih h w hl
set_option maxHeartbeats 4000000 in
set_option maxRecDepth 100000 in
theorem c_X7_caught {l : Launch} {g : Gt} {x1 : Int32} {M : Mem} {Q : Int32 → Mem → Prop} (h : w_X7_caught x1 M Q) : MI l yX7_caught cX7_caught 3 (some .int) 4 89 g layX 68 [.ref (ga g 0), .int x1] M Q :=
  m_of (by decide +kernel) (Nat.le_of_ble_eq_true rfl) (fun p e s m args below meth c ls C hr hk w hl => by
    have C : Cx p s m args c cX7_caught 3 RX7 g := C
    have hl : lv_has ls 3 [(0, .ref (ga g 0)), (1, .int x1)] := hl
    unfold w_X7_caught at h
    obtain ⟨H, eH⟩ : ∃ H : Heap, H = s.heap := ⟨_, rfl⟩
    obtain ⟨locs, el⟩ : ∃ locs : List Loc, locs = [] := ⟨_, rfl⟩
    have w : Wd g layX 68 s.heap M H locs := by rw [eH, el]; exact w
    suffices hw : W p l e (rmOf 4 89) s m args below meth c H locs 0 0 (MQ below (va_Qi Q (PostW g layX 68) (gF g)) args s 0 0 (gF g)) (F0 m 0 ls []) by rw [eH, el] at hw; exact hw
    clear eH el
    refine lv_aload_n C.1.1 C.1.2.1 dX7_caught_0 rfl (lv_at hl 0 rfl) ?_
    refine lv_iload_n C.1.1 C.1.2.1 dX7_caught_1 rfl (lv_at hl 1 rfl) ?_
    refine q_pVi C w [.int x1] (c_X7_isNoTaker  h) kv_X7_isNoTaker k_56 (rcv C w kc_X7 hx_0 lx_0) rfl hl.1 (Nat.le_of_ble_eq_true rfl) ⟨Nat.le_of_ble_eq_true rfl, Nat.le_of_ble_eq_true rfl⟩ dX7_caught_2 (fun r1 H locs h w => ?_)
    refine lv_if_eq (tgt := 10) C.1.1 C.1.2.1 dX7_caught_5 (by decide) (fun hc2 => ?_) (fun hc2 => ?_)
    · replace h := h.1 hc2
      refine lv_aload_n C.1.1 C.1.2.1 dX7_caught_10 rfl (lv_at hl 0 rfl) ?_
      refine gr_RX7_19 C w hx_0 lx_0 rfl dX7_caught_11 ?_
      refine lv_aload_n C.1.1 C.1.2.1 dX7_caught_14 rfl (lv_at hl 0 rfl) ?_
      refine gr_RX7_10 C w hx_0 lx_0 rfl dX7_caught_15 ?_
      refine q_cVv C w [.ref (ga g 1)] (c_X6_begin  h) kv_X6_begin k_64 (rcv C w kc_X6 hx_11 lx_11) rfl hl.1 (Nat.le_of_ble_eq_true rfl) ⟨Nat.le_of_ble_eq_true rfl, Nat.le_of_ble_eq_true rfl⟩ dX7_caught_18 (fun M4 H locs h w => ?_)
      refine lv_iconst (v := 1) C.1.1 C.1.2.1 dX7_caught_21 (by decide) ?_
      refine lv_istore_n (lv' := [(2, .int 1), (0, .ref (ga g 0)), (1, .int x1)]) C.1.1 C.1.2.1 dX7_caught_22 rfl hl (by decide) rfl (fun ls hl => ?_)
      obtain ⟨n, h⟩ := h
      exact l_X7_caught_23 C hr hk   n _ _ _ _ _ h w (lv_sub hl [1, 2, 0] rfl)
    · replace h := h.2 hc2
      refine lv_iconst (v := (-1)) C.1.1 C.1.2.1 dX7_caught_8 (by decide) ?_
      exact q_iret C hr hk w rfl h dX7_caught_9)
-- fullestBag
set_option maxHeartbeats 4000000 in
set_option maxRecDepth 100000 in
theorem v_X7_fullestBag_81 {r : Nat} {nr : Nat} {x5 : Int32} {x6 : Int32} {x7 : Int32} {M : Mem} {Q : Int32 → Mem → Prop} {H : Heap} {locs : List Loc} {ls : Array Slot} (C : Cx p s m args c cX7_fullestBag 9 RX7 g) (hr : meth.sig.returnType = (some .int)) (hk : meth.locks = false) (hA : r < 68 ∧ layX r = .inr (.inl (0, nr)))  (h : w_X7_fullestBag_81 r nr x5 x6 x7 M Q) (w : Wd g layX 68 s.heap M H locs) (hl : lv_has ls 9 [(5, .int x5), (6, .int x6), (7, .int x7)]) : W p l e (rmOf 5 111) s m args below meth c H locs 0 0 (MQ below (va_Qi Q (PostW g layX 68) (gF g)) args s 0 0 (gF g)) (F0 m 81 ls []) := by
  unfold w_X7_fullestBag_81 at h
  refine lv_iload C.1.1 C.1.2.1 dX7_fullestBag_81 (lv_at hl 0 rfl) ?_
  have J : ∀ ls : Array Slot, lv_has ls 9 [] → W p l e (rmOf 5 111) s m args below meth c H locs 0 0 (MQ below (va_Qi Q (PostW g layX 68) (gF g)) args s 0 0 (gF g)) (F0 m 93 ls [.int (if x5 = 0 then x6 else x7)]) := by
    intro ls hl
    exact q_iret C hr hk w rfl h dX7_fullestBag_93
  refine lv_if_ne (tgt := 91) C.1.1 C.1.2.1 dX7_fullestBag_83 (by decide) (fun hc2 => ?_) (fun hc2 => ?_)
  · refine lv_iload C.1.1 C.1.2.1 dX7_fullestBag_91 (lv_at hl 2 rfl) ?_
    simp only [if_neg hc2] at J hl
    exact J ls (lv_sub hl [] rfl)
  · refine lv_iload C.1.1 C.1.2.1 dX7_fullestBag_86 (lv_at hl 1 rfl) ?_
    refine lv_goto (tgt := 93) C.1.1 C.1.2.1 dX7_fullestBag_88 (by decide) ?_
    simp only [if_pos hc2] at J hl
    exact J ls (lv_sub hl [] rfl)
set_option maxHeartbeats 4000000 in
set_option maxRecDepth 100000 in
theorem v_X7_fullestBag_75 {r : Nat} {nr : Nat} {x1 : Int32} {x3 : Int32} {x4 : Int32} {x5 : Int32} {x6 : Int32} {x7 : Int32} {x8 : Int32} {M : Mem} {K9 : Int32 → Int32 → Int32 → Mem → Prop} {Q : Int32 → Mem → Prop} {H : Heap} {locs : List Loc} {ls : Array Slot} (C : Cx p s m args c cX7_fullestBag 9 RX7 g) (hr : meth.sig.returnType = (some .int)) (hk : meth.locks = false) (hA : r < 68 ∧ layX r = .inr (.inl (0, nr))) (hK9 : ∀ (x6 : Int32) (x7 : Int32) (x8 : Int32) (M : Mem) (H : Heap) (locs : List Loc) (ls : Array Slot), K9 x6 x7 x8 M → Wd g layX 68 s.heap M H locs → lv_has ls 9 [(0, .ref (ga g 0)), (1, .int x1), (2, .ref (ga g r)), (3, .int x3), (4, .int x4), (5, .int x5), (6, .int x6), (7, .int x7), (8, .int x8)] → W p l e (rmOf 5 111) s m args below meth c H locs 0 0 (MQ below (va_Qi Q (PostW g layX 68) (gF g)) args s 0 0 (gF g)) (F0 m 9 ls [])) (h : w_X7_fullestBag_75 r nr x1 x3 x4 x5 x6 x7 x8 M K9 Q) (w : Wd g layX 68 s.heap M H locs) (hl : lv_has ls 9 [(0, .ref (ga g 0)), (1, .int x1), (2, .ref (ga g r)), (3, .int x3), (4, .int x4), (5, .int x5), (6, .int x6), (7, .int x7), (8, .int x8)]) : W p l e (rmOf 5 111) s m args below meth c H locs 0 0 (MQ below (va_Qi Q (PostW g layX 68) (gF g)) args s 0 0 (gF g)) (F0 m 75 ls []) := by
  unfold w_X7_fullestBag_75 at h
  refine lv_iinc (v := x8 + 1) (lv' := [(8, .int (x8 + 1)), (0, .ref (ga g 0)), (1, .int x1), (2, .ref (ga g r)), (3, .int x3), (4, .int x4), (5, .int x5), (6, .int x6), (7, .int x7)]) C.1.1 C.1.2.1 dX7_fullestBag_75 hl (k := 8) rfl rfl (by decide) rfl (fun ls hl => ?_)
  refine lv_goto (tgt := 9) C.1.1 C.1.2.1 dX7_fullestBag_78 (by decide) ?_
  exact hK9 _ _ _ _ _ _ _ h w (lv_sub hl [1, 2, 3, 4, 5, 6, 7, 8, 0] rfl)
set_option maxHeartbeats 4000000 in
set_option maxRecDepth 100000 in
theorem v_X7_fullestBag_9 {r : Nat} {nr : Nat} {x1 : Int32} {x3 : Int32} {x4 : Int32} {x5 : Int32} {x6 : Int32} {x7 : Int32} {x8 : Int32} {M : Mem} {K9 : Int32 → Int32 → Int32 → Mem → Prop} {Q : Int32 → Mem → Prop} {H : Heap} {locs : List Loc} {ls : Array Slot} (C : Cx p s m args c cX7_fullestBag 9 RX7 g) (hr : meth.sig.returnType = (some .int)) (hk : meth.locks = false) (hA : r < 68 ∧ layX r = .inr (.inl (0, nr))) (hK9 : ∀ (x6 : Int32) (x7 : Int32) (x8 : Int32) (M : Mem) (H : Heap) (locs : List Loc) (ls : Array Slot), K9 x6 x7 x8 M → Wd g layX 68 s.heap M H locs → lv_has ls 9 [(0, .ref (ga g 0)), (1, .int x1), (2, .ref (ga g r)), (3, .int x3), (4, .int x4), (5, .int x5), (6, .int x6), (7, .int x7), (8, .int x8)] → W p l e (rmOf 5 111) s m args below meth c H locs 0 0 (MQ below (va_Qi Q (PostW g layX 68) (gF g)) args s 0 0 (gF g)) (F0 m 9 ls [])) (h : w_X7_fullestBag_9 r nr x1 x3 x4 x5 Q K9 x6 x7 x8 M) (w : Wd g layX 68 s.heap M H locs) (hl : lv_has ls 9 [(0, .ref (ga g 0)), (1, .int x1), (2, .ref (ga g r)), (3, .int x3), (4, .int x4), (5, .int x5), (6, .int x6), (7, .int x7), (8, .int x8)]) : W p l e (rmOf 5 111) s m args below meth c H locs 0 0 (MQ below (va_Qi Q (PostW g layX 68) (gF g)) args s 0 0 (gF g)) (F0 m 9 ls []) := by
  unfold w_X7_fullestBag_9 at h
  refine lv_iload C.1.1 C.1.2.1 dX7_fullestBag_9 (lv_at hl 8 rfl) ?_
  refine lv_iload_n C.1.1 C.1.2.1 dX7_fullestBag_11 rfl (lv_at hl 3 rfl) ?_
  refine lv_icmp_gt (tgt := 81) C.1.1 C.1.2.1 dX7_fullestBag_12 (by decide) (fun hc1 => ?_) (fun hc1 => ?_)
  · replace h := h.1 hc1
    exact v_X7_fullestBag_81 C hr hk hA  h w (lv_sub hl [5, 6, 7] rfl)
  · replace h := h.2 hc1
    refine lv_aload_n C.1.1 C.1.2.1 dX7_fullestBag_15 rfl (lv_at hl 0 rfl) ?_
    refine gr_RX7_19 C w hx_0 lx_0 rfl dX7_fullestBag_16 ?_
    refine lv_aload_n C.1.1 C.1.2.1 dX7_fullestBag_19 rfl (lv_at hl 0 rfl) ?_
    refine gr_RX7_10 C w hx_0 lx_0 rfl dX7_fullestBag_20 ?_
    refine q_cVv C w [.ref (ga g 1)] (c_X6_begin  h) kv_X6_begin k_64 (rcv C w kc_X6 hx_11 lx_11) rfl hl.1 (Nat.le_of_ble_eq_true rfl) ⟨Nat.le_of_ble_eq_true rfl, Nat.le_of_ble_eq_true rfl⟩ dX7_fullestBag_23 (fun M4 H locs h w => ?_)
    refine lv_aload_n C.1.1 C.1.2.1 dX7_fullestBag_26 rfl (lv_at hl 2 rfl) ?_
    refine lv_iload_n C.1.1 C.1.2.1 dX7_fullestBag_27 rfl (lv_at hl 1 rfl) ?_
    refine lv_iload C.1.1 C.1.2.1 dX7_fullestBag_28 (lv_at hl 8 rfl) ?_
    refine q_ias C w hA.1 hA.2 h.1 dX7_fullestBag_30 (fun M5 H locs eM5 w => ?_)
    replace h := h.2 M5 eM5
    refine lv_aload_n C.1.1 C.1.2.1 dX7_fullestBag_31 rfl (lv_at hl 0 rfl) ?_
    refine gr_RX7_19 C w hx_0 lx_0 rfl dX7_fullestBag_32 ?_
    refine lv_iload C.1.1 C.1.2.1 dX7_fullestBag_35 (lv_at hl 4 rfl) ?_
    refine q_cVv C w [.int x4] (c_X6_pass  h) kv_X6_pass k_65 (rcv C w kc_X6 hx_11 lx_11) rfl hl.1 (Nat.le_of_ble_eq_true rfl) ⟨Nat.le_of_ble_eq_true rfl, Nat.le_of_ble_eq_true rfl⟩ dX7_fullestBag_37 (fun M7 H locs h w => ?_)
    refine lv_aload_n C.1.1 C.1.2.1 dX7_fullestBag_40 rfl (lv_at hl 0 rfl) ?_
    refine gr_RX7_19 C w hx_0 lx_0 rfl dX7_fullestBag_41 ?_
    refine gr_RX7_78 C w hx_11 lx_11 rfl dX7_fullestBag_44 ?_
    refine gr_RX7_152 C w hx_12 lx_12 rfl dX7_fullestBag_47 ?_
    refine lv_iload_n C.1.1 C.1.2.1 dX7_fullestBag_50 rfl (lv_at hl 1 rfl) ?_
    refine q_ial C w hx_17 lx_17 h.1 dX7_fullestBag_51 ?_
    replace h := h.2
    refine lv_iload C.1.1 C.1.2.1 dX7_fullestBag_52 (lv_at hl 7 rfl) ?_
    refine lv_icmp_le (tgt := 75) C.1.1 C.1.2.1 dX7_fullestBag_54 (by decide) (fun hc8 => ?_) (fun hc8 => ?_)
    · replace h := h.1 hc8
      exact v_X7_fullestBag_75 C hr hk hA hK9 h w (lv_sub hl [0, 1, 2, 3, 4, 5, 6, 7, 8] rfl)
    · replace h := h.2 hc8
      refine lv_aload_n C.1.1 C.1.2.1 dX7_fullestBag_57 rfl (lv_at hl 0 rfl) ?_
      refine gr_RX7_19 C w hx_0 lx_0 rfl dX7_fullestBag_58 ?_
      refine gr_RX7_78 C w hx_11 lx_11 rfl dX7_fullestBag_61 ?_
      refine gr_RX7_152 C w hx_12 lx_12 rfl dX7_fullestBag_64 ?_
      refine lv_iload_n C.1.1 C.1.2.1 dX7_fullestBag_67 rfl (lv_at hl 1 rfl) ?_
      refine q_ial C w hx_17 lx_17 h.1 dX7_fullestBag_68 ?_
      replace h := h.2
      refine lv_istore (lv' := [(7, .int (M7 17 x1.toNatClampNeg)), (0, .ref (ga g 0)), (1, .int x1), (2, .ref (ga g r)), (3, .int x3), (4, .int x4), (5, .int x5), (6, .int x6), (8, .int x8)]) C.1.1 C.1.2.1 dX7_fullestBag_69 hl (by decide) rfl (fun ls hl => ?_)
      refine lv_iload C.1.1 C.1.2.1 dX7_fullestBag_71 (lv_at hl 8 rfl) ?_
      refine lv_istore (lv' := [(6, .int x8), (7, .int (M7 17 x1.toNatClampNeg)), (0, .ref (ga g 0)), (1, .int x1), (2, .ref (ga g r)), (3, .int x3), (4, .int x4), (5, .int x5), (8, .int x8)]) C.1.1 C.1.2.1 dX7_fullestBag_73 hl (by decide) rfl (fun ls hl => ?_)
      exact v_X7_fullestBag_75 C hr hk hA hK9 h w (lv_sub hl [2, 3, 4, 5, 6, 7, 0, 1, 8] rfl)
set_option maxHeartbeats 4000000 in
set_option maxRecDepth 100000 in
theorem l_X7_fullestBag_9 {r : Nat} {nr : Nat} {x1 : Int32} {x3 : Int32} {x4 : Int32} {x5 : Int32} {Q : Int32 → Mem → Prop} (C : Cx p s m args c cX7_fullestBag 9 RX7 g) (hr : meth.sig.returnType = (some .int)) (hk : meth.locks = false) (hA : r < 68 ∧ layX r = .inr (.inl (0, nr)))  : ∀ (n : Nat) (x6 : Int32) (x7 : Int32) (x8 : Int32) (M : Mem) (H : Heap) (locs : List Loc) (ls : Array Slot), fu4 (w_X7_fullestBag_9 r nr x1 x3 x4 x5 Q) n x6 x7 x8 M → Wd g layX 68 s.heap M H locs → lv_has ls 9 [(0, .ref (ga g 0)), (1, .int x1), (2, .ref (ga g r)), (3, .int x3), (4, .int x4), (5, .int x5), (6, .int x6), (7, .int x7), (8, .int x8)] → W p l e (rmOf 5 111) s m args below meth c H locs 0 0 (MQ below (va_Qi Q (PostW g layX 68) (gF g)) args s 0 0 (gF g)) (F0 m 9 ls []) := by
  intro n
  induction n with
  | zero => intro x6 x7 x8 M H locs ls h; exact h.elim
  | succ n ih => intro x6 x7 x8 M H locs ls h w hl; exact v_X7_fullestBag_9 C hr hk hA  ih h w hl
set_option maxHeartbeats 4000000 in
set_option maxRecDepth 100000 in
theorem c_X7_fullestBag {l : Launch} {g : Gt} {r : Nat} {nr : Nat} {x1 : Int32} {x3 : Int32} {x4 : Int32} {x5 : Int32} {M : Mem} {Q : Int32 → Mem → Prop} (hA : r < 68 ∧ layX r = .inr (.inl (0, nr))) (h : w_X7_fullestBag r nr x1 x3 x4 x5 M Q) : MI l yX7_fullestBag cX7_fullestBag 9 (some .int) 5 111 g layX 68 [.ref (ga g 0), .int x1, .ref (ga g r), .int x3, .int x4, .int x5] M Q :=
  m_of (by decide +kernel) (Nat.le_of_ble_eq_true rfl) (fun p e s m args below meth c ls C hr hk w hl => by
    have C : Cx p s m args c cX7_fullestBag 9 RX7 g := C
    have hl : lv_has ls 9 [(0, .ref (ga g 0)), (1, .int x1), (2, .ref (ga g r)), (3, .int x3), (4, .int x4), (5, .int x5)] := hl
    unfold w_X7_fullestBag at h
    obtain ⟨H, eH⟩ : ∃ H : Heap, H = s.heap := ⟨_, rfl⟩
    obtain ⟨locs, el⟩ : ∃ locs : List Loc, locs = [] := ⟨_, rfl⟩
    have w : Wd g layX 68 s.heap M H locs := by rw [eH, el]; exact w
    suffices hw : W p l e (rmOf 5 111) s m args below meth c H locs 0 0 (MQ below (va_Qi Q (PostW g layX 68) (gF g)) args s 0 0 (gF g)) (F0 m 0 ls []) by rw [eH, el] at hw; exact hw
    clear eH el
    refine lv_iconst (v := 0) C.1.1 C.1.2.1 dX7_fullestBag_0 (by decide) ?_
    refine lv_istore (lv' := [(6, .int 0), (0, .ref (ga g 0)), (1, .int x1), (2, .ref (ga g r)), (3, .int x3), (4, .int x4), (5, .int x5)]) C.1.1 C.1.2.1 dX7_fullestBag_1 hl (by decide) rfl (fun ls hl => ?_)
    refine lv_iconst (v := (-1)) C.1.1 C.1.2.1 dX7_fullestBag_3 (by decide) ?_
    refine lv_istore (lv' := [(7, .int (-1)), (6, .int 0), (0, .ref (ga g 0)), (1, .int x1), (2, .ref (ga g r)), (3, .int x3), (4, .int x4), (5, .int x5)]) C.1.1 C.1.2.1 dX7_fullestBag_4 hl (by decide) rfl (fun ls hl => ?_)
    refine lv_iconst (v := 0) C.1.1 C.1.2.1 dX7_fullestBag_6 (by decide) ?_
    refine lv_istore (lv' := [(8, .int 0), (7, .int (-1)), (6, .int 0), (0, .ref (ga g 0)), (1, .int x1), (2, .ref (ga g r)), (3, .int x3), (4, .int x4), (5, .int x5)]) C.1.1 C.1.2.1 dX7_fullestBag_7 hl (by decide) rfl (fun ls hl => ?_)
    obtain ⟨n, h⟩ := h
    exact l_X7_fullestBag_9 C hr hk hA  n _ _ _ _ _ _ _ h w (lv_sub hl [3, 4, 5, 6, 7, 8, 2, 1, 0] rfl))
-- best
set_option maxHeartbeats 4000000 in
set_option maxRecDepth 100000 in
theorem c_X7_best {l : Launch} {g : Gt} {x1 : Int32} {x2 : Int32} {x3 : Int32} {M : Mem} {Q : Int32 → Mem → Prop} (h : w_X7_best x1 x2 x3 M Q) : MI l yX7_best cX7_best 4 (some .int) 6 139 g layX 68 [.ref (ga g 0), .int x1, .int x2, .int x3] M Q :=
  m_of (by decide +kernel) (Nat.le_of_ble_eq_true rfl) (fun p e s m args below meth c ls C hr hk w hl => by
    have C : Cx p s m args c cX7_best 4 RX7 g := C
    have hl : lv_has ls 4 [(0, .ref (ga g 0)), (1, .int x1), (2, .int x2), (3, .int x3)] := hl
    unfold w_X7_best at h
    obtain ⟨H, eH⟩ : ∃ H : Heap, H = s.heap := ⟨_, rfl⟩
    obtain ⟨locs, el⟩ : ∃ locs : List Loc, locs = [] := ⟨_, rfl⟩
    have w : Wd g layX 68 s.heap M H locs := by rw [eH, el]; exact w
    suffices hw : W p l e (rmOf 6 139) s m args below meth c H locs 0 0 (MQ below (va_Qi Q (PostW g layX 68) (gF g)) args s 0 0 (gF g)) (F0 m 0 ls []) by rw [eH, el] at hw; exact hw
    clear eH el
    refine lv_aload_n C.1.1 C.1.2.1 dX7_best_0 rfl (lv_at hl 0 rfl) ?_
    refine lv_iload_n C.1.1 C.1.2.1 dX7_best_1 rfl (lv_at hl 1 rfl) ?_
    refine q_pVi C w [.int x1] (c_X7_isNoTaker  h) kv_X7_isNoTaker k_56 (rcv C w kc_X7 hx_0 lx_0) rfl hl.1 (Nat.le_of_ble_eq_true rfl) ⟨Nat.le_of_ble_eq_true rfl, Nat.le_of_ble_eq_true rfl⟩ dX7_best_2 (fun r1 H locs h w => ?_)
    refine lv_if_ne (tgt := 16) C.1.1 C.1.2.1 dX7_best_5 (by decide) (fun hc2 => ?_) (fun hc2 => ?_)
    · replace h := h.2 hc2
      refine lv_iconst (v := (-1)) C.1.1 C.1.2.1 dX7_best_16 (by decide) ?_
      exact q_iret C hr hk w rfl h dX7_best_17
    · replace h := h.1 hc2
      refine lv_iload_n C.1.1 C.1.2.1 dX7_best_8 rfl (lv_at hl 2 rfl) ?_
      refine lv_iload_n C.1.1 C.1.2.1 dX7_best_9 rfl (lv_at hl 3 rfl) ?_
      refine q_pSi C w [.int x2, .int x3] (c_X7_isNoQuestion  h) ks_X7_isNoQuestion k_66  rfl hl.1 (Nat.le_of_ble_eq_true rfl) ⟨Nat.le_of_ble_eq_true rfl, Nat.le_of_ble_eq_true rfl⟩ dX7_best_10 (fun r3 H locs h w => ?_)
      refine lv_if_eq (tgt := 18) C.1.1 C.1.2.1 dX7_best_13 (by decide) (fun hc4 => ?_) (fun hc4 => ?_)
      · replace h := h.1 hc4
        refine lv_aload_n C.1.1 C.1.2.1 dX7_best_18 rfl (lv_at hl 0 rfl) ?_
        refine lv_iload_n C.1.1 C.1.2.1 dX7_best_19 rfl (lv_at hl 1 rfl) ?_
        refine lv_aload_n C.1.1 C.1.2.1 dX7_best_20 rfl (lv_at hl 0 rfl) ?_
        refine gr_RX7_19 C w hx_0 lx_0 rfl dX7_best_21 ?_
        refine gr_RX7_78 C w hx_11 lx_11 rfl dX7_best_24 ?_
        refine gr_RX7_149 C w hx_12 lx_12 rfl dX7_best_27 ?_
        refine lv_iconst (v := 5) C.1.1 C.1.2.1 dX7_best_30 (by decide) ?_
        refine lv_iload_n C.1.1 C.1.2.1 dX7_best_31 rfl (lv_at hl 2 rfl) ?_
        refine lv_iload_n C.1.1 C.1.2.1 dX7_best_32 rfl (lv_at hl 3 rfl) ?_
        refine q_cVi C w [.int x1, .ref (ga g 16), .int 5, .int x2, .int x3] (c_X7_fullestBag ⟨hx_16, lx_16⟩ h) kv_X7_fullestBag k_69 (rcv C w kc_X7 hx_0 lx_0) rfl hl.1 (Nat.le_of_ble_eq_true rfl) ⟨Nat.le_of_ble_eq_true rfl, Nat.le_of_ble_eq_true rfl⟩ dX7_best_33 (fun r5 M6 H locs h w => ?_)
        exact q_iret C hr hk w rfl h dX7_best_36
      · replace h := h.2 hc4
        refine lv_iconst (v := (-1)) C.1.1 C.1.2.1 dX7_best_16 (by decide) ?_
        exact q_iret C hr hk w rfl h dX7_best_17)
-- ripen
set_option maxHeartbeats 4000000 in
set_option maxRecDepth 100000 in
theorem c_X7_ripen {l : Launch} {g : Gt} {x1 : Int32} {x2 : Int32} {x3 : Int32} {M : Mem} {Q : Int32 → Mem → Prop} (h : w_X7_ripen x1 x2 x3 M Q) : MI l yX7_ripen cX7_ripen 4 (some .int) 6 139 g layX 68 [.ref (ga g 0), .int x1, .int x2, .int x3] M Q :=
  m_of (by decide +kernel) (Nat.le_of_ble_eq_true rfl) (fun p e s m args below meth c ls C hr hk w hl => by
    have C : Cx p s m args c cX7_ripen 4 RX7 g := C
    have hl : lv_has ls 4 [(0, .ref (ga g 0)), (1, .int x1), (2, .int x2), (3, .int x3)] := hl
    unfold w_X7_ripen at h
    obtain ⟨H, eH⟩ : ∃ H : Heap, H = s.heap := ⟨_, rfl⟩
    obtain ⟨locs, el⟩ : ∃ locs : List Loc, locs = [] := ⟨_, rfl⟩
    have w : Wd g layX 68 s.heap M H locs := by rw [eH, el]; exact w
    suffices hw : W p l e (rmOf 6 139) s m args below meth c H locs 0 0 (MQ below (va_Qi Q (PostW g layX 68) (gF g)) args s 0 0 (gF g)) (F0 m 0 ls []) by rw [eH, el] at hw; exact hw
    clear eH el
    refine lv_aload_n C.1.1 C.1.2.1 dX7_ripen_0 rfl (lv_at hl 0 rfl) ?_
    refine lv_iload_n C.1.1 C.1.2.1 dX7_ripen_1 rfl (lv_at hl 1 rfl) ?_
    refine q_pVi C w [.int x1] (c_X7_isNoTaker  h) kv_X7_isNoTaker k_56 (rcv C w kc_X7 hx_0 lx_0) rfl hl.1 (Nat.le_of_ble_eq_true rfl) ⟨Nat.le_of_ble_eq_true rfl, Nat.le_of_ble_eq_true rfl⟩ dX7_ripen_2 (fun r1 H locs h w => ?_)
    refine lv_if_ne (tgt := 16) C.1.1 C.1.2.1 dX7_ripen_5 (by decide) (fun hc2 => ?_) (fun hc2 => ?_)
    · replace h := h.2 hc2
      refine lv_iconst (v := (-1)) C.1.1 C.1.2.1 dX7_ripen_16 (by decide) ?_
      exact q_iret C hr hk w rfl h dX7_ripen_17
    · replace h := h.1 hc2
      refine lv_iload_n C.1.1 C.1.2.1 dX7_ripen_8 rfl (lv_at hl 2 rfl) ?_
      refine lv_iload_n C.1.1 C.1.2.1 dX7_ripen_9 rfl (lv_at hl 3 rfl) ?_
      refine q_pSi C w [.int x2, .int x3] (c_X7_isNoQuestion  h) ks_X7_isNoQuestion k_66  rfl hl.1 (Nat.le_of_ble_eq_true rfl) ⟨Nat.le_of_ble_eq_true rfl, Nat.le_of_ble_eq_true rfl⟩ dX7_ripen_10 (fun r3 H locs h w => ?_)
      refine lv_if_eq (tgt := 18) C.1.1 C.1.2.1 dX7_ripen_13 (by decide) (fun hc4 => ?_) (fun hc4 => ?_)
      · replace h := h.1 hc4
        refine lv_aload_n C.1.1 C.1.2.1 dX7_ripen_18 rfl (lv_at hl 0 rfl) ?_
        refine lv_iload_n C.1.1 C.1.2.1 dX7_ripen_19 rfl (lv_at hl 1 rfl) ?_
        refine lv_aload_n C.1.1 C.1.2.1 dX7_ripen_20 rfl (lv_at hl 0 rfl) ?_
        refine gr_RX7_19 C w hx_0 lx_0 rfl dX7_ripen_21 ?_
        refine gr_RX7_78 C w hx_11 lx_11 rfl dX7_ripen_24 ?_
        refine gr_RX7_155 C w hx_12 lx_12 rfl dX7_ripen_27 ?_
        refine lv_bipush (v := 20) C.1.1 C.1.2.1 dX7_ripen_30 (by decide) ?_
        refine lv_iload_n C.1.1 C.1.2.1 dX7_ripen_32 rfl (lv_at hl 2 rfl) ?_
        refine lv_iload_n C.1.1 C.1.2.1 dX7_ripen_33 rfl (lv_at hl 3 rfl) ?_
        refine q_cVi C w [.int x1, .ref (ga g 18), .int 20, .int x2, .int x3] (c_X7_fullestBag ⟨hx_18, lx_18⟩ h) kv_X7_fullestBag k_69 (rcv C w kc_X7 hx_0 lx_0) rfl hl.1 (Nat.le_of_ble_eq_true rfl) ⟨Nat.le_of_ble_eq_true rfl, Nat.le_of_ble_eq_true rfl⟩ dX7_ripen_34 (fun r5 M6 H locs h w => ?_)
        exact q_iret C hr hk w rfl h dX7_ripen_37
      · replace h := h.2 hc4
        refine lv_iconst (v := (-1)) C.1.1 C.1.2.1 dX7_ripen_16 (by decide) ?_
        exact q_iret C hr hk w rfl h dX7_ripen_17)
-- swap
set_option maxHeartbeats 4000000 in
set_option maxRecDepth 100000 in
theorem v_X7_swap_181 {x2 : Int32} {x3 : Int32} {x4 : Int32} {M : Mem} {Q : Int32 → Mem → Prop} {H : Heap} {locs : List Loc} {ls : Array Slot} (C : Cx p s m args c cX7_swap 7 RX7 g) (hr : meth.sig.returnType = (some .int)) (hk : meth.locks = false)  (h : w_X7_swap_181 x2 x3 x4 M Q) (w : Wd g layX 68 s.heap M H locs) (hl : lv_has ls 7 [(2, .int x2), (3, .int x3), (4, .int x4)]) : W p l e (rmOf 5 111) s m args below meth c H locs 0 0 (MQ below (va_Qi Q (PostW g layX 68) (gF g)) args s 0 0 (gF g)) (F0 m 181 ls []) := by
  unfold w_X7_swap_181 at h
  refine lv_iload_n C.1.1 C.1.2.1 dX7_swap_181 rfl (lv_at hl 0 rfl) ?_
  have J : ∀ ls : Array Slot, lv_has ls 7 [] → W p l e (rmOf 5 111) s m args below meth c H locs 0 0 (MQ below (va_Qi Q (PostW g layX 68) (gF g)) args s 0 0 (gF g)) (F0 m 197 ls [.int (if x2 = 0 then x3 else (if x3 = (-4) then x3 else x4))]) := by
    intro ls hl
    exact q_iret C hr hk w rfl h dX7_swap_197
  refine lv_if_eq (tgt := 191) C.1.1 C.1.2.1 dX7_swap_182 (by decide) (fun hc8 => ?_) (fun hc8 => ?_)
  · refine lv_iload_n C.1.1 C.1.2.1 dX7_swap_191 rfl (lv_at hl 1 rfl) ?_
    refine lv_goto (tgt := 197) C.1.1 C.1.2.1 dX7_swap_192 (by decide) ?_
    simp only [if_pos hc8] at J hl
    exact J ls (lv_sub hl [] rfl)
  · refine lv_iload_n C.1.1 C.1.2.1 dX7_swap_185 rfl (lv_at hl 1 rfl) ?_
    refine lv_bipush (v := (-4)) C.1.1 C.1.2.1 dX7_swap_186 (by decide) ?_
    refine lv_icmp_ne (tgt := 195) C.1.1 C.1.2.1 dX7_swap_188 (by decide) (fun hc9 => ?_) (fun hc9 => ?_)
    · refine lv_iload C.1.1 C.1.2.1 dX7_swap_195 (lv_at hl 2 rfl) ?_
      simp only [if_neg hc8, if_neg hc9] at J hl
      exact J ls (lv_sub hl [] rfl)
    · refine lv_iload_n C.1.1 C.1.2.1 dX7_swap_191 rfl (lv_at hl 1 rfl) ?_
      refine lv_goto (tgt := 197) C.1.1 C.1.2.1 dX7_swap_192 (by decide) ?_
      simp only [if_neg hc8, if_pos hc9] at J hl
      exact J ls (lv_sub hl [] rfl)
set_option maxHeartbeats 4000000 in
set_option maxRecDepth 100000 in
theorem v_X7_swap_175 {x1 : Int32} {x2 : Int32} {x3 : Int32} {x4 : Int32} {x5 : Int32} {M : Mem} {K44 : Int32 → Int32 → Int32 → Mem → Prop} {Q : Int32 → Mem → Prop} {H : Heap} {locs : List Loc} {ls : Array Slot} (C : Cx p s m args c cX7_swap 7 RX7 g) (hr : meth.sig.returnType = (some .int)) (hk : meth.locks = false) (hK44 : ∀ (x3 : Int32) (x4 : Int32) (x5 : Int32) (M : Mem) (H : Heap) (locs : List Loc) (ls : Array Slot), K44 x3 x4 x5 M → Wd g layX 68 s.heap M H locs → lv_has ls 7 [(0, .ref (ga g 0)), (1, .int x1), (2, .int x2), (3, .int x3), (4, .int x4), (5, .int x5)] → W p l e (rmOf 5 111) s m args below meth c H locs 0 0 (MQ below (va_Qi Q (PostW g layX 68) (gF g)) args s 0 0 (gF g)) (F0 m 44 ls [])) (h : w_X7_swap_175 x1 x2 x3 x4 x5 M K44 Q) (w : Wd g layX 68 s.heap M H locs) (hl : lv_has ls 7 [(0, .ref (ga g 0)), (1, .int x1), (2, .int x2), (3, .int x3), (4, .int x4), (5, .int x5)]) : W p l e (rmOf 5 111) s m args below meth c H locs 0 0 (MQ below (va_Qi Q (PostW g layX 68) (gF g)) args s 0 0 (gF g)) (F0 m 175 ls []) := by
  unfold w_X7_swap_175 at h
  refine lv_iinc (v := x5 + 1) (lv' := [(5, .int (x5 + 1)), (0, .ref (ga g 0)), (1, .int x1), (2, .int x2), (3, .int x3), (4, .int x4)]) C.1.1 C.1.2.1 dX7_swap_175 hl (k := 5) rfl rfl (by decide) rfl (fun ls hl => ?_)
  refine lv_goto (tgt := 44) C.1.1 C.1.2.1 dX7_swap_178 (by decide) ?_
  exact hK44 _ _ _ _ _ _ _ h w (lv_sub hl [1, 2, 3, 4, 5, 0] rfl)
set_option maxHeartbeats 4000000 in
set_option maxRecDepth 100000 in
theorem v_X7_swap_62 {x1 : Int32} {x2 : Int32} {x5 : Int32} {x3 : Int32} {x4 : Int32} {x6 : Int32} {M : Mem} {K44 : Int32 → Int32 → Int32 → Mem → Prop} {K62 : Int32 → Int32 → Int32 → Mem → Prop} {Q : Int32 → Mem → Prop} {H : Heap} {locs : List Loc} {ls : Array Slot} (C : Cx p s m args c cX7_swap 7 RX7 g) (hr : meth.sig.returnType = (some .int)) (hk : meth.locks = false) (hK44 : ∀ (x3 : Int32) (x4 : Int32) (x5 : Int32) (M : Mem) (H : Heap) (locs : List Loc) (ls : Array Slot), K44 x3 x4 x5 M → Wd g layX 68 s.heap M H locs → lv_has ls 7 [(0, .ref (ga g 0)), (1, .int x1), (2, .int x2), (3, .int x3), (4, .int x4), (5, .int x5)] → W p l e (rmOf 5 111) s m args below meth c H locs 0 0 (MQ below (va_Qi Q (PostW g layX 68) (gF g)) args s 0 0 (gF g)) (F0 m 44 ls [])) (hK62 : ∀ (x3 : Int32) (x4 : Int32) (x6 : Int32) (M : Mem) (H : Heap) (locs : List Loc) (ls : Array Slot), K62 x3 x4 x6 M → Wd g layX 68 s.heap M H locs → lv_has ls 7 [(0, .ref (ga g 0)), (1, .int x1), (2, .int x2), (3, .int x3), (4, .int x4), (5, .int x5), (6, .int x6)] → W p l e (rmOf 5 111) s m args below meth c H locs 0 0 (MQ below (va_Qi Q (PostW g layX 68) (gF g)) args s 0 0 (gF g)) (F0 m 62 ls [])) (h : w_X7_swap_62 x1 x2 x5 K44 Q K62 x3 x4 x6 M) (w : Wd g layX 68 s.heap M H locs) (hl : lv_has ls 7 [(0, .ref (ga g 0)), (1, .int x1), (2, .int x2), (3, .int x3), (4, .int x4), (5, .int x5), (6, .int x6)]) : W p l e (rmOf 5 111) s m args below meth c H locs 0 0 (MQ below (va_Qi Q (PostW g layX 68) (gF g)) args s 0 0 (gF g)) (F0 m 62 ls []) := by
  unfold w_X7_swap_62 at h
  refine lv_iload C.1.1 C.1.2.1 dX7_swap_62 (lv_at hl 6 rfl) ?_
  refine lv_aload_n C.1.1 C.1.2.1 dX7_swap_64 rfl (lv_at hl 0 rfl) ?_
  refine gr_RX7_10 C w hx_0 lx_0 rfl dX7_swap_65 ?_
  refine gi_RX7_101 C w hx_1 lx_1 rfl dX7_swap_68 ?_
  refine lv_icmp_ge (tgt := 175) C.1.1 C.1.2.1 dX7_swap_71 (by decide) (fun hc10 => ?_) (fun hc10 => ?_)
  · replace h := h.1 hc10
    exact v_X7_swap_175 C hr hk  hK44 h w (lv_sub hl [0, 1, 2, 3, 4, 5] rfl)
  · replace h := h.2 hc10
    refine lv_aload_n C.1.1 C.1.2.1 dX7_swap_74 rfl (lv_at hl 0 rfl) ?_
    refine gr_RX7_19 C w hx_0 lx_0 rfl dX7_swap_75 ?_
    refine lv_aload_n C.1.1 C.1.2.1 dX7_swap_78 rfl (lv_at hl 0 rfl) ?_
    refine gr_RX7_10 C w hx_0 lx_0 rfl dX7_swap_79 ?_
    refine q_cVv C w [.ref (ga g 1)] (c_X6_begin  h) kv_X6_begin k_64 (rcv C w kc_X6 hx_11 lx_11) rfl hl.1 (Nat.le_of_ble_eq_true rfl) ⟨Nat.le_of_ble_eq_true rfl, Nat.le_of_ble_eq_true rfl⟩ dX7_swap_82 (fun M12 H locs h w => ?_)
    refine lv_aload_n C.1.1 C.1.2.1 dX7_swap_85 rfl (lv_at hl 0 rfl) ?_
    refine gr_RX7_19 C w hx_0 lx_0 rfl dX7_swap_86 ?_
    refine gr_RX7_78 C w hx_11 lx_11 rfl dX7_swap_89 ?_
    refine gr_RX7_149 C w hx_12 lx_12 rfl dX7_swap_92 ?_
    refine lv_iload C.1.1 C.1.2.1 dX7_swap_95 (lv_at hl 5 rfl) ?_
    refine lv_aload_n C.1.1 C.1.2.1 dX7_swap_97 rfl (lv_at hl 0 rfl) ?_
    refine gr_RX7_10 C w hx_0 lx_0 rfl dX7_swap_98 ?_
    refine gr_RX7_149 C w hx_1 lx_1 rfl dX7_swap_101 ?_
    refine lv_iload C.1.1 C.1.2.1 dX7_swap_104 (lv_at hl 6 rfl) ?_
    refine q_ial C w hx_5 lx_5 h.1 dX7_swap_106 ?_
    replace h := h.2
    refine q_ias C w hx_16 lx_16 h.1 dX7_swap_107 (fun M13 H locs eM13 w => ?_)
    replace h := h.2 M13 eM13
    refine lv_aload_n C.1.1 C.1.2.1 dX7_swap_108 rfl (lv_at hl 0 rfl) ?_
    refine gr_RX7_19 C w hx_0 lx_0 rfl dX7_swap_109 ?_
    refine gr_RX7_78 C w hx_11 lx_11 rfl dX7_swap_112 ?_
    refine gr_RX7_149 C w hx_12 lx_12 rfl dX7_swap_115 ?_
    refine lv_iload C.1.1 C.1.2.1 dX7_swap_118 (lv_at hl 6 rfl) ?_
    refine lv_aload_n C.1.1 C.1.2.1 dX7_swap_120 rfl (lv_at hl 0 rfl) ?_
    refine gr_RX7_10 C w hx_0 lx_0 rfl dX7_swap_121 ?_
    refine gr_RX7_149 C w hx_1 lx_1 rfl dX7_swap_124 ?_
    refine lv_iload C.1.1 C.1.2.1 dX7_swap_127 (lv_at hl 5 rfl) ?_
    refine q_ial C w hx_5 lx_5 h.1 dX7_swap_129 ?_
    replace h := h.2
    refine q_ias C w hx_16 lx_16 h.1 dX7_swap_130 (fun M14 H locs eM14 w => ?_)
    replace h := h.2 M14 eM14
    refine lv_aload_n C.1.1 C.1.2.1 dX7_swap_131 rfl (lv_at hl 0 rfl) ?_
    refine gr_RX7_19 C w hx_0 lx_0 rfl dX7_swap_132 ?_
    refine lv_iload_n C.1.1 C.1.2.1 dX7_swap_135 rfl (lv_at hl 1 rfl) ?_
    refine q_cVv C w [.int x1] (c_X6_pass  h) kv_X6_pass k_65 (rcv C w kc_X6 hx_11 lx_11) rfl hl.1 (Nat.le_of_ble_eq_true rfl) ⟨Nat.le_of_ble_eq_true rfl, Nat.le_of_ble_eq_true rfl⟩ dX7_swap_136 (fun M16 H locs h w => ?_)
    refine lv_aload_n C.1.1 C.1.2.1 dX7_swap_139 rfl (lv_at hl 0 rfl) ?_
    refine gr_RX7_19 C w hx_0 lx_0 rfl dX7_swap_140 ?_
    refine gi_RX7_197 C w hx_11 lx_11 rfl dX7_swap_143 ?_
    refine lv_iload C.1.1 C.1.2.1 dX7_swap_146 (lv_at hl 4 rfl) ?_
    have J : ∀ ls : Array Slot, lv_has ls 7 [(0, .ref (ga g 0)), (1, .int x1), (2, .int x2), (3, .int (if (M16 11 2) ≤ x4 then x3 else ((10 * x5) + x6))), (4, .int (if (M16 11 2) ≤ x4 then x4 else (M16 11 2))), (5, .int x5), (6, .int x6)] → W p l e (rmOf 5 111) s m args below meth c H locs 0 0 (MQ below (va_Qi Q (PostW g layX 68) (gF g)) args s 0 0 (gF g)) (F0 m 169 ls []) := by
      intro ls hl
      refine lv_iinc (v := x6 + 1) (lv' := [(6, .int (x6 + 1)), (0, .ref (ga g 0)), (1, .int x1), (2, .int x2), (3, .int (if (M16 11 2) ≤ x4 then x3 else ((10 * x5) + x6))), (4, .int (if (M16 11 2) ≤ x4 then x4 else (M16 11 2))), (5, .int x5)]) C.1.1 C.1.2.1 dX7_swap_169 hl (k := 6) rfl rfl (by decide) rfl (fun ls hl => ?_)
      refine lv_goto (tgt := 62) C.1.1 C.1.2.1 dX7_swap_172 (by decide) ?_
      exact hK62 _ _ _ _ _ _ _ h w (lv_sub hl [1, 2, 3, 4, 5, 6, 0] rfl)
    refine lv_icmp_le (tgt := 169) C.1.1 C.1.2.1 dX7_swap_148 (by decide) (fun hc17 => ?_) (fun hc17 => ?_)
    · simp only [if_pos hc17] at J hl
      exact J ls (lv_sub hl [0, 1, 2, 3, 4, 5, 6] rfl)
    · refine lv_aload_n C.1.1 C.1.2.1 dX7_swap_151 rfl (lv_at hl 0 rfl) ?_
      refine gr_RX7_19 C w hx_0 lx_0 rfl dX7_swap_152 ?_
      refine gi_RX7_197 C w hx_11 lx_11 rfl dX7_swap_155 ?_
      refine lv_istore (lv' := [(4, .int (M16 11 2)), (0, .ref (ga g 0)), (1, .int x1), (2, .int x2), (3, .int x3), (5, .int x5), (6, .int x6)]) C.1.1 C.1.2.1 dX7_swap_158 hl (by decide) rfl (fun ls hl => ?_)
      refine lv_bipush (v := 10) C.1.1 C.1.2.1 dX7_swap_160 (by decide) ?_
      refine lv_iload C.1.1 C.1.2.1 dX7_swap_162 (lv_at hl 5 rfl) ?_
      refine lv_imul C.1.1 C.1.2.1 dX7_swap_164 ?_
      refine lv_iload C.1.1 C.1.2.1 dX7_swap_165 (lv_at hl 6 rfl) ?_
      refine lv_iadd C.1.1 C.1.2.1 dX7_swap_167 ?_
      refine lv_istore_n (lv' := [(3, .int ((10 * x5) + x6)), (4, .int (M16 11 2)), (0, .ref (ga g 0)), (1, .int x1), (2, .int x2), (5, .int x5), (6, .int x6)]) C.1.1 C.1.2.1 dX7_swap_168 rfl hl (by decide) rfl (fun ls hl => ?_)
      simp only [if_neg hc17] at J hl
      exact J ls (lv_sub hl [2, 3, 4, 0, 1, 5, 6] rfl)
set_option maxHeartbeats 4000000 in
set_option maxRecDepth 100000 in
theorem l_X7_swap_62 {x1 : Int32} {x2 : Int32} {x5 : Int32} {K44 : Int32 → Int32 → Int32 → Mem → Prop} {Q : Int32 → Mem → Prop} (C : Cx p s m args c cX7_swap 7 RX7 g) (hr : meth.sig.returnType = (some .int)) (hk : meth.locks = false) (hK44 : ∀ (x3 : Int32) (x4 : Int32) (x5 : Int32) (M : Mem) (H : Heap) (locs : List Loc) (ls : Array Slot), K44 x3 x4 x5 M → Wd g layX 68 s.heap M H locs → lv_has ls 7 [(0, .ref (ga g 0)), (1, .int x1), (2, .int x2), (3, .int x3), (4, .int x4), (5, .int x5)] → W p l e (rmOf 5 111) s m args below meth c H locs 0 0 (MQ below (va_Qi Q (PostW g layX 68) (gF g)) args s 0 0 (gF g)) (F0 m 44 ls [])) : ∀ (n : Nat) (x3 : Int32) (x4 : Int32) (x6 : Int32) (M : Mem) (H : Heap) (locs : List Loc) (ls : Array Slot), fu4 (w_X7_swap_62 x1 x2 x5 K44 Q) n x3 x4 x6 M → Wd g layX 68 s.heap M H locs → lv_has ls 7 [(0, .ref (ga g 0)), (1, .int x1), (2, .int x2), (3, .int x3), (4, .int x4), (5, .int x5), (6, .int x6)] → W p l e (rmOf 5 111) s m args below meth c H locs 0 0 (MQ below (va_Qi Q (PostW g layX 68) (gF g)) args s 0 0 (gF g)) (F0 m 62 ls []) := by
  intro n
  induction n with
  | zero => intro x3 x4 x6 M H locs ls h; exact h.elim
  | succ n ih => intro x3 x4 x6 M H locs ls h w hl; exact v_X7_swap_62 C hr hk  hK44 ih h w hl
set_option maxHeartbeats 4000000 in
set_option maxRecDepth 100000 in
theorem v_X7_swap_44 {x1 : Int32} {x2 : Int32} {x3 : Int32} {x4 : Int32} {x5 : Int32} {M : Mem} {K44 : Int32 → Int32 → Int32 → Mem → Prop} {Q : Int32 → Mem → Prop} {H : Heap} {locs : List Loc} {ls : Array Slot} (C : Cx p s m args c cX7_swap 7 RX7 g) (hr : meth.sig.returnType = (some .int)) (hk : meth.locks = false) (hK44 : ∀ (x3 : Int32) (x4 : Int32) (x5 : Int32) (M : Mem) (H : Heap) (locs : List Loc) (ls : Array Slot), K44 x3 x4 x5 M → Wd g layX 68 s.heap M H locs → lv_has ls 7 [(0, .ref (ga g 0)), (1, .int x1), (2, .int x2), (3, .int x3), (4, .int x4), (5, .int x5)] → W p l e (rmOf 5 111) s m args below meth c H locs 0 0 (MQ below (va_Qi Q (PostW g layX 68) (gF g)) args s 0 0 (gF g)) (F0 m 44 ls [])) (h : w_X7_swap_44 x1 x2 Q K44 x3 x4 x5 M) (w : Wd g layX 68 s.heap M H locs) (hl : lv_has ls 7 [(0, .ref (ga g 0)), (1, .int x1), (2, .int x2), (3, .int x3), (4, .int x4), (5, .int x5)]) : W p l e (rmOf 5 111) s m args below meth c H locs 0 0 (MQ below (va_Qi Q (PostW g layX 68) (gF g)) args s 0 0 (gF g)) (F0 m 44 ls []) := by
  unfold w_X7_swap_44 at h
  refine lv_iload C.1.1 C.1.2.1 dX7_swap_44 (lv_at hl 5 rfl) ?_
  refine lv_aload_n C.1.1 C.1.2.1 dX7_swap_46 rfl (lv_at hl 0 rfl) ?_
  refine gr_RX7_10 C w hx_0 lx_0 rfl dX7_swap_47 ?_
  refine gi_RX7_101 C w hx_1 lx_1 rfl dX7_swap_50 ?_
  refine lv_icmp_ge (tgt := 181) C.1.1 C.1.2.1 dX7_swap_53 (by decide) (fun hc7 => ?_) (fun hc7 => ?_)
  · replace h := h.1 hc7
    exact v_X7_swap_181 C hr hk   h w (lv_sub hl [2, 3, 4] rfl)
  · replace h := h.2 hc7
    refine lv_iload C.1.1 C.1.2.1 dX7_swap_56 (lv_at hl 5 rfl) ?_
    refine lv_iconst (v := 1) C.1.1 C.1.2.1 dX7_swap_58 (by decide) ?_
    refine lv_iadd C.1.1 C.1.2.1 dX7_swap_59 ?_
    refine lv_istore (lv' := [(6, .int (x5 + 1)), (0, .ref (ga g 0)), (1, .int x1), (2, .int x2), (3, .int x3), (4, .int x4), (5, .int x5)]) C.1.1 C.1.2.1 dX7_swap_60 hl (by decide) rfl (fun ls hl => ?_)
    obtain ⟨n, h⟩ := h
    exact l_X7_swap_62 C hr hk  hK44 n _ _ _ _ _ _ _ h w (lv_sub hl [1, 2, 3, 4, 5, 6, 0] rfl)
set_option maxHeartbeats 4000000 in
set_option maxRecDepth 100000 in
theorem l_X7_swap_44 {x1 : Int32} {x2 : Int32} {Q : Int32 → Mem → Prop} (C : Cx p s m args c cX7_swap 7 RX7 g) (hr : meth.sig.returnType = (some .int)) (hk : meth.locks = false)  : ∀ (n : Nat) (x3 : Int32) (x4 : Int32) (x5 : Int32) (M : Mem) (H : Heap) (locs : List Loc) (ls : Array Slot), fu4 (w_X7_swap_44 x1 x2 Q) n x3 x4 x5 M → Wd g layX 68 s.heap M H locs → lv_has ls 7 [(0, .ref (ga g 0)), (1, .int x1), (2, .int x2), (3, .int x3), (4, .int x4), (5, .int x5)] → W p l e (rmOf 5 111) s m args below meth c H locs 0 0 (MQ below (va_Qi Q (PostW g layX 68) (gF g)) args s 0 0 (gF g)) (F0 m 44 ls []) := by
  intro n
  induction n with
  | zero => intro x3 x4 x5 M H locs ls h; exact h.elim
  | succ n ih => intro x3 x4 x5 M H locs ls h w hl; exact v_X7_swap_44 C hr hk   ih h w hl
set_option maxHeartbeats 4000000 in
set_option maxRecDepth 100000 in
theorem c_X7_swap {l : Launch} {g : Gt} {x1 : Int32} {x2 : Int32} {M : Mem} {Q : Int32 → Mem → Prop} (h : w_X7_swap x1 x2 M Q) : MI l yX7_swap cX7_swap 7 (some .int) 5 111 g layX 68 [.ref (ga g 0), .int x1, .int x2] M Q :=
  m_of (by decide +kernel) (Nat.le_of_ble_eq_true rfl) (fun p e s m args below meth c ls C hr hk w hl => by
    have C : Cx p s m args c cX7_swap 7 RX7 g := C
    have hl : lv_has ls 7 [(0, .ref (ga g 0)), (1, .int x1), (2, .int x2)] := hl
    unfold w_X7_swap at h
    obtain ⟨H, eH⟩ : ∃ H : Heap, H = s.heap := ⟨_, rfl⟩
    obtain ⟨locs, el⟩ : ∃ locs : List Loc, locs = [] := ⟨_, rfl⟩
    have w : Wd g layX 68 s.heap M H locs := by rw [eH, el]; exact w
    suffices hw : W p l e (rmOf 5 111) s m args below meth c H locs 0 0 (MQ below (va_Qi Q (PostW g layX 68) (gF g)) args s 0 0 (gF g)) (F0 m 0 ls []) by rw [eH, el] at hw; exact hw
    clear eH el
    refine lv_iload_n C.1.1 C.1.2.1 dX7_swap_0 rfl (lv_at hl 1 rfl) ?_
    refine lv_iload_n C.1.1 C.1.2.1 dX7_swap_1 rfl (lv_at hl 2 rfl) ?_
    refine q_pSi C w [.int x1, .int x2] (c_X7_isNoQuestion  h) ks_X7_isNoQuestion k_66  rfl hl.1 (Nat.le_of_ble_eq_true rfl) ⟨Nat.le_of_ble_eq_true rfl, Nat.le_of_ble_eq_true rfl⟩ dX7_swap_2 (fun r1 H locs h w => ?_)
    refine lv_if_eq (tgt := 10) C.1.1 C.1.2.1 dX7_swap_5 (by decide) (fun hc2 => ?_) (fun hc2 => ?_)
    · replace h := h.1 hc2
      refine lv_aload_n C.1.1 C.1.2.1 dX7_swap_10 rfl (lv_at hl 0 rfl) ?_
      refine gr_RX7_19 C w hx_0 lx_0 rfl dX7_swap_11 ?_
      refine lv_aload_n C.1.1 C.1.2.1 dX7_swap_14 rfl (lv_at hl 0 rfl) ?_
      refine gr_RX7_10 C w hx_0 lx_0 rfl dX7_swap_15 ?_
      refine q_cVv C w [.ref (ga g 1)] (c_X6_begin  h) kv_X6_begin k_64 (rcv C w kc_X6 hx_11 lx_11) rfl hl.1 (Nat.le_of_ble_eq_true rfl) ⟨Nat.le_of_ble_eq_true rfl, Nat.le_of_ble_eq_true rfl⟩ dX7_swap_18 (fun M4 H locs h w => ?_)
      refine lv_aload_n C.1.1 C.1.2.1 dX7_swap_21 rfl (lv_at hl 0 rfl) ?_
      refine gr_RX7_19 C w hx_0 lx_0 rfl dX7_swap_22 ?_
      refine lv_iload_n C.1.1 C.1.2.1 dX7_swap_25 rfl (lv_at hl 1 rfl) ?_
      refine q_cVv C w [.int x1] (c_X6_pass  h) kv_X6_pass k_65 (rcv C w kc_X6 hx_11 lx_11) rfl hl.1 (Nat.le_of_ble_eq_true rfl) ⟨Nat.le_of_ble_eq_true rfl, Nat.le_of_ble_eq_true rfl⟩ dX7_swap_26 (fun M6 H locs h w => ?_)
      refine lv_bipush (v := (-4)) C.1.1 C.1.2.1 dX7_swap_29 (by decide) ?_
      refine lv_istore_n (lv' := [(3, .int (-4)), (0, .ref (ga g 0)), (1, .int x1), (2, .int x2)]) C.1.1 C.1.2.1 dX7_swap_31 rfl hl (by decide) rfl (fun ls hl => ?_)
      refine lv_aload_n C.1.1 C.1.2.1 dX7_swap_32 rfl (lv_at hl 1 rfl) ?_
      refine gr_RX7_19 C w hx_0 lx_0 rfl dX7_swap_33 ?_
      refine gi_RX7_197 C w hx_11 lx_11 rfl dX7_swap_36 ?_
      refine lv_istore (lv' := [(4, .int (M6 11 2)), (3, .int (-4)), (0, .ref (ga g 0)), (1, .int x1), (2, .int x2)]) C.1.1 C.1.2.1 dX7_swap_39 hl (by decide) rfl (fun ls hl => ?_)
      refine lv_iconst (v := 0) C.1.1 C.1.2.1 dX7_swap_41 (by decide) ?_
      refine lv_istore (lv' := [(5, .int 0), (4, .int (M6 11 2)), (3, .int (-4)), (0, .ref (ga g 0)), (1, .int x1), (2, .int x2)]) C.1.1 C.1.2.1 dX7_swap_42 hl (by decide) rfl (fun ls hl => ?_)
      obtain ⟨n, h⟩ := h
      exact l_X7_swap_44 C hr hk   n _ _ _ _ _ _ _ h w (lv_sub hl [3, 4, 5, 2, 1, 0] rfl)
    · replace h := h.2 hc2
      refine lv_iconst (v := (-1)) C.1.1 C.1.2.1 dX7_swap_8 (by decide) ?_
      exact q_iret C hr hk w rfl h dX7_swap_9)
-- round
set_option maxHeartbeats 4000000 in
set_option maxRecDepth 100000 in
theorem v_X7_round_133 {x3 : Int32} {x4 : Int32} {x5 : Int32} {M : Mem} {Q : Int32 → Mem → Prop} {H : Heap} {locs : List Loc} {ls : Array Slot} (C : Cx p s m args c cX7_round 8 RX7 g) (hr : meth.sig.returnType = (some .int)) (hk : meth.locks = false)  (h : w_X7_round_133 x3 x4 x5 M Q) (w : Wd g layX 68 s.heap M H locs) (hl : lv_has ls 8 [(3, .int x3), (4, .int x4), (5, .int x5)]) : W p l e (rmOf 5 111) s m args below meth c H locs 0 0 (MQ below (va_Qi Q (PostW g layX 68) (gF g)) args s 0 0 (gF g)) (F0 m 133 ls []) := by
  unfold w_X7_round_133 at h
  refine lv_iload_n C.1.1 C.1.2.1 dX7_round_133 rfl (lv_at hl 0 rfl) ?_
  have J : ∀ ls : Array Slot, lv_has ls 8 [] → W p l e (rmOf 5 111) s m args below meth c H locs 0 0 (MQ below (va_Qi Q (PostW g layX 68) (gF g)) args s 0 0 (gF g)) (F0 m 144 ls [.int (if x3 = 0 then x4 else x5)]) := by
    intro ls hl
    exact q_iret C hr hk w rfl h dX7_round_144
  refine lv_if_ne (tgt := 142) C.1.1 C.1.2.1 dX7_round_134 (by decide) (fun hc6 => ?_) (fun hc6 => ?_)
  · refine lv_iload C.1.1 C.1.2.1 dX7_round_142 (lv_at hl 2 rfl) ?_
    simp only [if_neg hc6] at J hl
    exact J ls (lv_sub hl [] rfl)
  · refine lv_iload C.1.1 C.1.2.1 dX7_round_137 (lv_at hl 1 rfl) ?_
    refine lv_goto (tgt := 144) C.1.1 C.1.2.1 dX7_round_139 (by decide) ?_
    simp only [if_pos hc6] at J hl
    exact J ls (lv_sub hl [] rfl)
set_option maxHeartbeats 4000000 in
set_option maxRecDepth 100000 in
theorem v_X7_round_127 {x1 : Int32} {x2 : Int32} {x3 : Int32} {x4 : Int32} {x5 : Int32} {x6 : Int32} {M : Mem} {K27 : Int32 → Int32 → Int32 → Mem → Prop} {Q : Int32 → Mem → Prop} {H : Heap} {locs : List Loc} {ls : Array Slot} (C : Cx p s m args c cX7_round 8 RX7 g) (hr : meth.sig.returnType = (some .int)) (hk : meth.locks = false) (hK27 : ∀ (x4 : Int32) (x5 : Int32) (x6 : Int32) (M : Mem) (H : Heap) (locs : List Loc) (ls : Array Slot), K27 x4 x5 x6 M → Wd g layX 68 s.heap M H locs → lv_has ls 8 [(0, .ref (ga g 0)), (1, .int x1), (2, .int x2), (3, .int x3), (4, .int x4), (5, .int x5), (6, .int x6)] → W p l e (rmOf 5 111) s m args below meth c H locs 0 0 (MQ below (va_Qi Q (PostW g layX 68) (gF g)) args s 0 0 (gF g)) (F0 m 27 ls [])) (h : w_X7_round_127 x1 x2 x3 x4 x5 x6 M K27 Q) (w : Wd g layX 68 s.heap M H locs) (hl : lv_has ls 8 [(0, .ref (ga g 0)), (1, .int x1), (2, .int x2), (3, .int x3), (4, .int x4), (5, .int x5), (6, .int x6)]) : W p l e (rmOf 5 111) s m args below meth c H locs 0 0 (MQ below (va_Qi Q (PostW g layX 68) (gF g)) args s 0 0 (gF g)) (F0 m 127 ls []) := by
  unfold w_X7_round_127 at h
  refine lv_iinc (v := x6 + 1) (lv' := [(6, .int (x6 + 1)), (0, .ref (ga g 0)), (1, .int x1), (2, .int x2), (3, .int x3), (4, .int x4), (5, .int x5)]) C.1.1 C.1.2.1 dX7_round_127 hl (k := 6) rfl rfl (by decide) rfl (fun ls hl => ?_)
  refine lv_goto (tgt := 27) C.1.1 C.1.2.1 dX7_round_130 (by decide) ?_
  exact hK27 _ _ _ _ _ _ _ h w (lv_sub hl [1, 2, 3, 4, 5, 6, 0] rfl)
set_option maxHeartbeats 4000000 in
set_option maxRecDepth 100000 in
theorem v_X7_round_37 {x1 : Int32} {x2 : Int32} {x3 : Int32} {x6 : Int32} {x4 : Int32} {x5 : Int32} {x7 : Int32} {M : Mem} {K27 : Int32 → Int32 → Int32 → Mem → Prop} {K37 : Int32 → Int32 → Int32 → Mem → Prop} {Q : Int32 → Mem → Prop} {H : Heap} {locs : List Loc} {ls : Array Slot} (C : Cx p s m args c cX7_round 8 RX7 g) (hr : meth.sig.returnType = (some .int)) (hk : meth.locks = false) (hK27 : ∀ (x4 : Int32) (x5 : Int32) (x6 : Int32) (M : Mem) (H : Heap) (locs : List Loc) (ls : Array Slot), K27 x4 x5 x6 M → Wd g layX 68 s.heap M H locs → lv_has ls 8 [(0, .ref (ga g 0)), (1, .int x1), (2, .int x2), (3, .int x3), (4, .int x4), (5, .int x5), (6, .int x6)] → W p l e (rmOf 5 111) s m args below meth c H locs 0 0 (MQ below (va_Qi Q (PostW g layX 68) (gF g)) args s 0 0 (gF g)) (F0 m 27 ls [])) (hK37 : ∀ (x4 : Int32) (x5 : Int32) (x7 : Int32) (M : Mem) (H : Heap) (locs : List Loc) (ls : Array Slot), K37 x4 x5 x7 M → Wd g layX 68 s.heap M H locs → lv_has ls 8 [(0, .ref (ga g 0)), (1, .int x1), (2, .int x2), (3, .int x3), (4, .int x4), (5, .int x5), (6, .int x6), (7, .int x7)] → W p l e (rmOf 5 111) s m args below meth c H locs 0 0 (MQ below (va_Qi Q (PostW g layX 68) (gF g)) args s 0 0 (gF g)) (F0 m 37 ls [])) (h : w_X7_round_37 x1 x2 x3 x6 K27 Q K37 x4 x5 x7 M) (w : Wd g layX 68 s.heap M H locs) (hl : lv_has ls 8 [(0, .ref (ga g 0)), (1, .int x1), (2, .int x2), (3, .int x3), (4, .int x4), (5, .int x5), (6, .int x6), (7, .int x7)]) : W p l e (rmOf 5 111) s m args below meth c H locs 0 0 (MQ below (va_Qi Q (PostW g layX 68) (gF g)) args s 0 0 (gF g)) (F0 m 37 ls []) := by
  unfold w_X7_round_37 at h
  refine lv_iload C.1.1 C.1.2.1 dX7_round_37 (lv_at hl 7 rfl) ?_
  refine lv_iconst (v := 5) C.1.1 C.1.2.1 dX7_round_39 (by decide) ?_
  refine lv_icmp_gt (tgt := 127) C.1.1 C.1.2.1 dX7_round_40 (by decide) (fun hc7 => ?_) (fun hc7 => ?_)
  · replace h := h.1 hc7
    exact v_X7_round_127 C hr hk  hK27 h w (lv_sub hl [0, 1, 2, 3, 4, 5, 6] rfl)
  · replace h := h.2 hc7
    refine lv_aload_n C.1.1 C.1.2.1 dX7_round_43 rfl (lv_at hl 0 rfl) ?_
    refine gr_RX7_19 C w hx_0 lx_0 rfl dX7_round_44 ?_
    refine lv_aload_n C.1.1 C.1.2.1 dX7_round_47 rfl (lv_at hl 0 rfl) ?_
    refine gr_RX7_10 C w hx_0 lx_0 rfl dX7_round_48 ?_
    refine q_cVv C w [.ref (ga g 1)] (c_X6_begin  h) kv_X6_begin k_64 (rcv C w kc_X6 hx_11 lx_11) rfl hl.1 (Nat.le_of_ble_eq_true rfl) ⟨Nat.le_of_ble_eq_true rfl, Nat.le_of_ble_eq_true rfl⟩ dX7_round_51 (fun M9 H locs h w => ?_)
    refine lv_aload_n C.1.1 C.1.2.1 dX7_round_54 rfl (lv_at hl 0 rfl) ?_
    refine gr_RX7_19 C w hx_0 lx_0 rfl dX7_round_55 ?_
    refine gr_RX7_78 C w hx_11 lx_11 rfl dX7_round_58 ?_
    refine gr_RX7_167 C w hx_12 lx_12 rfl dX7_round_61 ?_
    refine lv_iload_n C.1.1 C.1.2.1 dX7_round_64 rfl (lv_at hl 1 rfl) ?_
    refine lv_iload C.1.1 C.1.2.1 dX7_round_65 (lv_at hl 6 rfl) ?_
    refine q_ias C w hx_19 lx_19 h.1 dX7_round_67 (fun M10 H locs eM10 w => ?_)
    replace h := h.2 M10 eM10
    refine lv_aload_n C.1.1 C.1.2.1 dX7_round_68 rfl (lv_at hl 0 rfl) ?_
    refine gr_RX7_19 C w hx_0 lx_0 rfl dX7_round_69 ?_
    refine gr_RX7_78 C w hx_11 lx_11 rfl dX7_round_72 ?_
    refine gr_RX7_170 C w hx_12 lx_12 rfl dX7_round_75 ?_
    refine lv_iload_n C.1.1 C.1.2.1 dX7_round_78 rfl (lv_at hl 1 rfl) ?_
    refine lv_iload C.1.1 C.1.2.1 dX7_round_79 (lv_at hl 7 rfl) ?_
    refine q_ias C w hx_20 lx_20 h.1 dX7_round_81 (fun M11 H locs eM11 w => ?_)
    replace h := h.2 M11 eM11
    refine lv_aload_n C.1.1 C.1.2.1 dX7_round_82 rfl (lv_at hl 0 rfl) ?_
    refine gr_RX7_19 C w hx_0 lx_0 rfl dX7_round_83 ?_
    refine lv_iload_n C.1.1 C.1.2.1 dX7_round_86 rfl (lv_at hl 2 rfl) ?_
    refine q_cVv C w [.int x2] (c_X6_pass  h) kv_X6_pass k_65 (rcv C w kc_X6 hx_11 lx_11) rfl hl.1 (Nat.le_of_ble_eq_true rfl) ⟨Nat.le_of_ble_eq_true rfl, Nat.le_of_ble_eq_true rfl⟩ dX7_round_87 (fun M13 H locs h w => ?_)
    refine lv_aload_n C.1.1 C.1.2.1 dX7_round_90 rfl (lv_at hl 0 rfl) ?_
    refine gr_RX7_19 C w hx_0 lx_0 rfl dX7_round_91 ?_
    refine gi_RX7_203 C w hx_11 lx_11 rfl dX7_round_94 ?_
    refine lv_iload C.1.1 C.1.2.1 dX7_round_97 (lv_at hl 5 rfl) ?_
    have J : ∀ ls : Array Slot, lv_has ls 8 [(0, .ref (ga g 0)), (1, .int x1), (2, .int x2), (3, .int x3), (4, .int (if (M13 11 3) ≤ x5 then x4 else ((10 * x6) + x7))), (5, .int (if (M13 11 3) ≤ x5 then x5 else (M13 11 3))), (6, .int x6), (7, .int x7)] → W p l e (rmOf 5 111) s m args below meth c H locs 0 0 (MQ below (va_Qi Q (PostW g layX 68) (gF g)) args s 0 0 (gF g)) (F0 m 121 ls []) := by
      intro ls hl
      refine lv_iinc (v := x7 + 1) (lv' := [(7, .int (x7 + 1)), (0, .ref (ga g 0)), (1, .int x1), (2, .int x2), (3, .int x3), (4, .int (if (M13 11 3) ≤ x5 then x4 else ((10 * x6) + x7))), (5, .int (if (M13 11 3) ≤ x5 then x5 else (M13 11 3))), (6, .int x6)]) C.1.1 C.1.2.1 dX7_round_121 hl (k := 7) rfl rfl (by decide) rfl (fun ls hl => ?_)
      refine lv_goto (tgt := 37) C.1.1 C.1.2.1 dX7_round_124 (by decide) ?_
      exact hK37 _ _ _ _ _ _ _ h w (lv_sub hl [1, 2, 3, 4, 5, 6, 7, 0] rfl)
    refine lv_icmp_le (tgt := 121) C.1.1 C.1.2.1 dX7_round_99 (by decide) (fun hc14 => ?_) (fun hc14 => ?_)
    · simp only [if_pos hc14] at J hl
      exact J ls (lv_sub hl [0, 1, 2, 3, 4, 5, 6, 7] rfl)
    · refine lv_aload_n C.1.1 C.1.2.1 dX7_round_102 rfl (lv_at hl 0 rfl) ?_
      refine gr_RX7_19 C w hx_0 lx_0 rfl dX7_round_103 ?_
      refine gi_RX7_203 C w hx_11 lx_11 rfl dX7_round_106 ?_
      refine lv_istore (lv' := [(5, .int (M13 11 3)), (0, .ref (ga g 0)), (1, .int x1), (2, .int x2), (3, .int x3), (4, .int x4), (6, .int x6), (7, .int x7)]) C.1.1 C.1.2.1 dX7_round_109 hl (by decide) rfl (fun ls hl => ?_)
      refine lv_bipush (v := 10) C.1.1 C.1.2.1 dX7_round_111 (by decide) ?_
      refine lv_iload C.1.1 C.1.2.1 dX7_round_113 (lv_at hl 6 rfl) ?_
      refine lv_imul C.1.1 C.1.2.1 dX7_round_115 ?_
      refine lv_iload C.1.1 C.1.2.1 dX7_round_116 (lv_at hl 7 rfl) ?_
      refine lv_iadd C.1.1 C.1.2.1 dX7_round_118 ?_
      refine lv_istore (lv' := [(4, .int ((10 * x6) + x7)), (5, .int (M13 11 3)), (0, .ref (ga g 0)), (1, .int x1), (2, .int x2), (3, .int x3), (6, .int x6), (7, .int x7)]) C.1.1 C.1.2.1 dX7_round_119 hl (by decide) rfl (fun ls hl => ?_)
      simp only [if_neg hc14] at J hl
      exact J ls (lv_sub hl [2, 3, 4, 5, 0, 1, 6, 7] rfl)
set_option maxHeartbeats 4000000 in
set_option maxRecDepth 100000 in
theorem l_X7_round_37 {x1 : Int32} {x2 : Int32} {x3 : Int32} {x6 : Int32} {K27 : Int32 → Int32 → Int32 → Mem → Prop} {Q : Int32 → Mem → Prop} (C : Cx p s m args c cX7_round 8 RX7 g) (hr : meth.sig.returnType = (some .int)) (hk : meth.locks = false) (hK27 : ∀ (x4 : Int32) (x5 : Int32) (x6 : Int32) (M : Mem) (H : Heap) (locs : List Loc) (ls : Array Slot), K27 x4 x5 x6 M → Wd g layX 68 s.heap M H locs → lv_has ls 8 [(0, .ref (ga g 0)), (1, .int x1), (2, .int x2), (3, .int x3), (4, .int x4), (5, .int x5), (6, .int x6)] → W p l e (rmOf 5 111) s m args below meth c H locs 0 0 (MQ below (va_Qi Q (PostW g layX 68) (gF g)) args s 0 0 (gF g)) (F0 m 27 ls [])) : ∀ (n : Nat) (x4 : Int32) (x5 : Int32) (x7 : Int32) (M : Mem) (H : Heap) (locs : List Loc) (ls : Array Slot), fu4 (w_X7_round_37 x1 x2 x3 x6 K27 Q) n x4 x5 x7 M → Wd g layX 68 s.heap M H locs → lv_has ls 8 [(0, .ref (ga g 0)), (1, .int x1), (2, .int x2), (3, .int x3), (4, .int x4), (5, .int x5), (6, .int x6), (7, .int x7)] → W p l e (rmOf 5 111) s m args below meth c H locs 0 0 (MQ below (va_Qi Q (PostW g layX 68) (gF g)) args s 0 0 (gF g)) (F0 m 37 ls []) := by
  intro n
  induction n with
  | zero => intro x4 x5 x7 M H locs ls h; exact h.elim
  | succ n ih => intro x4 x5 x7 M H locs ls h w hl; exact v_X7_round_37 C hr hk  hK27 ih h w hl
set_option maxHeartbeats 4000000 in
set_option maxRecDepth 100000 in
theorem v_X7_round_27 {x1 : Int32} {x2 : Int32} {x3 : Int32} {x4 : Int32} {x5 : Int32} {x6 : Int32} {M : Mem} {K27 : Int32 → Int32 → Int32 → Mem → Prop} {Q : Int32 → Mem → Prop} {H : Heap} {locs : List Loc} {ls : Array Slot} (C : Cx p s m args c cX7_round 8 RX7 g) (hr : meth.sig.returnType = (some .int)) (hk : meth.locks = false) (hK27 : ∀ (x4 : Int32) (x5 : Int32) (x6 : Int32) (M : Mem) (H : Heap) (locs : List Loc) (ls : Array Slot), K27 x4 x5 x6 M → Wd g layX 68 s.heap M H locs → lv_has ls 8 [(0, .ref (ga g 0)), (1, .int x1), (2, .int x2), (3, .int x3), (4, .int x4), (5, .int x5), (6, .int x6)] → W p l e (rmOf 5 111) s m args below meth c H locs 0 0 (MQ below (va_Qi Q (PostW g layX 68) (gF g)) args s 0 0 (gF g)) (F0 m 27 ls [])) (h : w_X7_round_27 x1 x2 x3 Q K27 x4 x5 x6 M) (w : Wd g layX 68 s.heap M H locs) (hl : lv_has ls 8 [(0, .ref (ga g 0)), (1, .int x1), (2, .int x2), (3, .int x3), (4, .int x4), (5, .int x5), (6, .int x6)]) : W p l e (rmOf 5 111) s m args below meth c H locs 0 0 (MQ below (va_Qi Q (PostW g layX 68) (gF g)) args s 0 0 (gF g)) (F0 m 27 ls []) := by
  unfold w_X7_round_27 at h
  refine lv_iload C.1.1 C.1.2.1 dX7_round_27 (lv_at hl 6 rfl) ?_
  refine lv_bipush (v := 6) C.1.1 C.1.2.1 dX7_round_29 (by decide) ?_
  refine lv_icmp_ge (tgt := 133) C.1.1 C.1.2.1 dX7_round_31 (by decide) (fun hc5 => ?_) (fun hc5 => ?_)
  · replace h := h.1 hc5
    exact v_X7_round_133 C hr hk   h w (lv_sub hl [3, 4, 5] rfl)
  · replace h := h.2 hc5
    refine lv_iconst (v := 0) C.1.1 C.1.2.1 dX7_round_34 (by decide) ?_
    refine lv_istore (lv' := [(7, .int 0), (0, .ref (ga g 0)), (1, .int x1), (2, .int x2), (3, .int x3), (4, .int x4), (5, .int x5), (6, .int x6)]) C.1.1 C.1.2.1 dX7_round_35 hl (by decide) rfl (fun ls hl => ?_)
    obtain ⟨n, h⟩ := h
    exact l_X7_round_37 C hr hk  hK27 n _ _ _ _ _ _ _ h w (lv_sub hl [1, 2, 3, 4, 5, 6, 7, 0] rfl)
set_option maxHeartbeats 4000000 in
set_option maxRecDepth 100000 in
theorem l_X7_round_27 {x1 : Int32} {x2 : Int32} {x3 : Int32} {Q : Int32 → Mem → Prop} (C : Cx p s m args c cX7_round 8 RX7 g) (hr : meth.sig.returnType = (some .int)) (hk : meth.locks = false)  : ∀ (n : Nat) (x4 : Int32) (x5 : Int32) (x6 : Int32) (M : Mem) (H : Heap) (locs : List Loc) (ls : Array Slot), fu4 (w_X7_round_27 x1 x2 x3 Q) n x4 x5 x6 M → Wd g layX 68 s.heap M H locs → lv_has ls 8 [(0, .ref (ga g 0)), (1, .int x1), (2, .int x2), (3, .int x3), (4, .int x4), (5, .int x5), (6, .int x6)] → W p l e (rmOf 5 111) s m args below meth c H locs 0 0 (MQ below (va_Qi Q (PostW g layX 68) (gF g)) args s 0 0 (gF g)) (F0 m 27 ls []) := by
  intro n
  induction n with
  | zero => intro x4 x5 x6 M H locs ls h; exact h.elim
  | succ n ih => intro x4 x5 x6 M H locs ls h w hl; exact v_X7_round_27 C hr hk   ih h w hl
set_option maxHeartbeats 4000000 in
set_option maxRecDepth 100000 in
theorem c_X7_round {l : Launch} {g : Gt} {x1 : Int32} {x2 : Int32} {x3 : Int32} {M : Mem} {Q : Int32 → Mem → Prop} (h : w_X7_round x1 x2 x3 M Q) : MI l yX7_round cX7_round 8 (some .int) 5 111 g layX 68 [.ref (ga g 0), .int x1, .int x2, .int x3] M Q :=
  m_of (by decide +kernel) (Nat.le_of_ble_eq_true rfl) (fun p e s m args below meth c ls C hr hk w hl => by
    have C : Cx p s m args c cX7_round 8 RX7 g := C
    have hl : lv_has ls 8 [(0, .ref (ga g 0)), (1, .int x1), (2, .int x2), (3, .int x3)] := hl
    unfold w_X7_round at h
    obtain ⟨H, eH⟩ : ∃ H : Heap, H = s.heap := ⟨_, rfl⟩
    obtain ⟨locs, el⟩ : ∃ locs : List Loc, locs = [] := ⟨_, rfl⟩
    have w : Wd g layX 68 s.heap M H locs := by rw [eH, el]; exact w
    suffices hw : W p l e (rmOf 5 111) s m args below meth c H locs 0 0 (MQ below (va_Qi Q (PostW g layX 68) (gF g)) args s 0 0 (gF g)) (F0 m 0 ls []) by rw [eH, el] at hw; exact hw
    clear eH el
    refine lv_aload_n C.1.1 C.1.2.1 dX7_round_0 rfl (lv_at hl 0 rfl) ?_
    refine lv_iload_n C.1.1 C.1.2.1 dX7_round_1 rfl (lv_at hl 1 rfl) ?_
    refine q_pVi C w [.int x1] (c_X7_isNoKeeper  h) kv_X7_isNoKeeper k_59 (rcv C w kc_X7 hx_0 lx_0) rfl hl.1 (Nat.le_of_ble_eq_true rfl) ⟨Nat.le_of_ble_eq_true rfl, Nat.le_of_ble_eq_true rfl⟩ dX7_round_2 (fun r1 H locs h w => ?_)
    refine lv_if_ne (tgt := 16) C.1.1 C.1.2.1 dX7_round_5 (by decide) (fun hc2 => ?_) (fun hc2 => ?_)
    · replace h := h.2 hc2
      refine lv_iconst (v := (-1)) C.1.1 C.1.2.1 dX7_round_16 (by decide) ?_
      exact q_iret C hr hk w rfl h dX7_round_17
    · replace h := h.1 hc2
      refine lv_iload_n C.1.1 C.1.2.1 dX7_round_8 rfl (lv_at hl 2 rfl) ?_
      refine lv_iload_n C.1.1 C.1.2.1 dX7_round_9 rfl (lv_at hl 3 rfl) ?_
      refine q_pSi C w [.int x2, .int x3] (c_X7_isNoQuestion  h) ks_X7_isNoQuestion k_66  rfl hl.1 (Nat.le_of_ble_eq_true rfl) ⟨Nat.le_of_ble_eq_true rfl, Nat.le_of_ble_eq_true rfl⟩ dX7_round_10 (fun r3 H locs h w => ?_)
      refine lv_if_eq (tgt := 18) C.1.1 C.1.2.1 dX7_round_13 (by decide) (fun hc4 => ?_) (fun hc4 => ?_)
      · replace h := h.1 hc4
        refine lv_iconst (v := 0) C.1.1 C.1.2.1 dX7_round_18 (by decide) ?_
        refine lv_istore (lv' := [(4, .int 0), (0, .ref (ga g 0)), (1, .int x1), (2, .int x2), (3, .int x3)]) C.1.1 C.1.2.1 dX7_round_19 hl (by decide) rfl (fun ls hl => ?_)
        refine lv_iconst (v := (-1)) C.1.1 C.1.2.1 dX7_round_21 (by decide) ?_
        refine lv_istore (lv' := [(5, .int (-1)), (4, .int 0), (0, .ref (ga g 0)), (1, .int x1), (2, .int x2), (3, .int x3)]) C.1.1 C.1.2.1 dX7_round_22 hl (by decide) rfl (fun ls hl => ?_)
        refine lv_iconst (v := 0) C.1.1 C.1.2.1 dX7_round_24 (by decide) ?_
        refine lv_istore (lv' := [(6, .int 0), (5, .int (-1)), (4, .int 0), (0, .ref (ga g 0)), (1, .int x1), (2, .int x2), (3, .int x3)]) C.1.1 C.1.2.1 dX7_round_25 hl (by decide) rfl (fun ls hl => ?_)
        obtain ⟨n, h⟩ := h
        exact l_X7_round_27 C hr hk   n _ _ _ _ _ _ _ h w (lv_sub hl [3, 4, 5, 6, 2, 1, 0] rfl)
      · replace h := h.2 hc4
        refine lv_iconst (v := (-1)) C.1.1 C.1.2.1 dX7_round_16 (by decide) ?_
        exact q_iret C hr hk w rfl h dX7_round_17)
-- post
set_option maxHeartbeats 4000000 in
set_option maxRecDepth 100000 in
theorem v_X7_post_123 {x3 : Int32} {x4 : Int32} {x5 : Int32} {M : Mem} {Q : Int32 → Mem → Prop} {H : Heap} {locs : List Loc} {ls : Array Slot} (C : Cx p s m args c cX7_post 7 RX7 g) (hr : meth.sig.returnType = (some .int)) (hk : meth.locks = false)  (h : w_X7_post_123 x3 x4 x5 M Q) (w : Wd g layX 68 s.heap M H locs) (hl : lv_has ls 7 [(3, .int x3), (4, .int x4), (5, .int x5)]) : W p l e (rmOf 5 111) s m args below meth c H locs 0 0 (MQ below (va_Qi Q (PostW g layX 68) (gF g)) args s 0 0 (gF g)) (F0 m 123 ls []) := by
  unfold w_X7_post_123 at h
  refine lv_iload_n C.1.1 C.1.2.1 dX7_post_123 rfl (lv_at hl 0 rfl) ?_
  have J : ∀ ls : Array Slot, lv_has ls 7 [] → W p l e (rmOf 5 111) s m args below meth c H locs 0 0 (MQ below (va_Qi Q (PostW g layX 68) (gF g)) args s 0 0 (gF g)) (F0 m 134 ls [.int (if x3 = 0 then x4 else x5)]) := by
    intro ls hl
    exact q_iret C hr hk w rfl h dX7_post_134
  refine lv_if_ne (tgt := 132) C.1.1 C.1.2.1 dX7_post_124 (by decide) (fun hc7 => ?_) (fun hc7 => ?_)
  · refine lv_iload C.1.1 C.1.2.1 dX7_post_132 (lv_at hl 2 rfl) ?_
    simp only [if_neg hc7] at J hl
    exact J ls (lv_sub hl [] rfl)
  · refine lv_iload C.1.1 C.1.2.1 dX7_post_127 (lv_at hl 1 rfl) ?_
    refine lv_goto (tgt := 134) C.1.1 C.1.2.1 dX7_post_129 (by decide) ?_
    simp only [if_pos hc7] at J hl
    exact J ls (lv_sub hl [] rfl)
set_option maxHeartbeats 4000000 in
set_option maxRecDepth 100000 in
theorem v_X7_post_44 {x1 : Int32} {x2 : Int32} {x3 : Int32} {x4 : Int32} {x5 : Int32} {x6 : Int32} {M : Mem} {K44 : Int32 → Int32 → Int32 → Mem → Prop} {Q : Int32 → Mem → Prop} {H : Heap} {locs : List Loc} {ls : Array Slot} (C : Cx p s m args c cX7_post 7 RX7 g) (hr : meth.sig.returnType = (some .int)) (hk : meth.locks = false) (hK44 : ∀ (x4 : Int32) (x5 : Int32) (x6 : Int32) (M : Mem) (H : Heap) (locs : List Loc) (ls : Array Slot), K44 x4 x5 x6 M → Wd g layX 68 s.heap M H locs → lv_has ls 7 [(0, .ref (ga g 0)), (1, .int x1), (2, .int x2), (3, .int x3), (4, .int x4), (5, .int x5), (6, .int x6)] → W p l e (rmOf 5 111) s m args below meth c H locs 0 0 (MQ below (va_Qi Q (PostW g layX 68) (gF g)) args s 0 0 (gF g)) (F0 m 44 ls [])) (h : w_X7_post_44 x1 x2 x3 Q K44 x4 x5 x6 M) (w : Wd g layX 68 s.heap M H locs) (hl : lv_has ls 7 [(0, .ref (ga g 0)), (1, .int x1), (2, .int x2), (3, .int x3), (4, .int x4), (5, .int x5), (6, .int x6)]) : W p l e (rmOf 5 111) s m args below meth c H locs 0 0 (MQ below (va_Qi Q (PostW g layX 68) (gF g)) args s 0 0 (gF g)) (F0 m 44 ls []) := by
  unfold w_X7_post_44 at h
  refine lv_iload C.1.1 C.1.2.1 dX7_post_44 (lv_at hl 6 rfl) ?_
  refine lv_bipush (v := 6) C.1.1 C.1.2.1 dX7_post_46 (by decide) ?_
  refine lv_icmp_ge (tgt := 123) C.1.1 C.1.2.1 dX7_post_48 (by decide) (fun hc6 => ?_) (fun hc6 => ?_)
  · replace h := h.1 hc6
    exact v_X7_post_123 C hr hk   h w (lv_sub hl [3, 4, 5] rfl)
  · replace h := h.2 hc6
    refine lv_aload_n C.1.1 C.1.2.1 dX7_post_51 rfl (lv_at hl 0 rfl) ?_
    refine gr_RX7_19 C w hx_0 lx_0 rfl dX7_post_52 ?_
    refine lv_aload_n C.1.1 C.1.2.1 dX7_post_55 rfl (lv_at hl 0 rfl) ?_
    refine gr_RX7_10 C w hx_0 lx_0 rfl dX7_post_56 ?_
    refine q_cVv C w [.ref (ga g 1)] (c_X6_begin  h) kv_X6_begin k_64 (rcv C w kc_X6 hx_11 lx_11) rfl hl.1 (Nat.le_of_ble_eq_true rfl) ⟨Nat.le_of_ble_eq_true rfl, Nat.le_of_ble_eq_true rfl⟩ dX7_post_59 (fun M9 H locs h w => ?_)
    refine lv_aload_n C.1.1 C.1.2.1 dX7_post_62 rfl (lv_at hl 0 rfl) ?_
    refine gr_RX7_19 C w hx_0 lx_0 rfl dX7_post_63 ?_
    refine gr_RX7_78 C w hx_11 lx_11 rfl dX7_post_66 ?_
    refine lv_iload C.1.1 C.1.2.1 dX7_post_69 (lv_at hl 6 rfl) ?_
    refine lv_iconst (v := 0) C.1.1 C.1.2.1 dX7_post_71 (by decide) ?_
    refine lv_iload_n C.1.1 C.1.2.1 dX7_post_72 rfl (lv_at hl 1 rfl) ?_
    refine q_cVi C w [.int x6, .int 0, .int x1] (c_X0_addKeeper isE_12 h) kv_X0_addKeeper k_62 (rcv C w kc_X0 hx_12 lx_12) rfl hl.1 (Nat.le_of_ble_eq_true rfl) ⟨Nat.le_of_ble_eq_true rfl, Nat.le_of_ble_eq_true rfl⟩ dX7_post_73 (fun r10 M11 H locs h w => ?_)
    refine lv_pop C.1.1 C.1.2.1 dX7_post_76 rfl ?_
    refine lv_aload_n C.1.1 C.1.2.1 dX7_post_77 rfl (lv_at hl 0 rfl) ?_
    refine gr_RX7_19 C w hx_0 lx_0 rfl dX7_post_78 ?_
    refine lv_iload_n C.1.1 C.1.2.1 dX7_post_81 rfl (lv_at hl 2 rfl) ?_
    refine q_cVv C w [.int x2] (c_X6_pass  h) kv_X6_pass k_65 (rcv C w kc_X6 hx_11 lx_11) rfl hl.1 (Nat.le_of_ble_eq_true rfl) ⟨Nat.le_of_ble_eq_true rfl, Nat.le_of_ble_eq_true rfl⟩ dX7_post_82 (fun M13 H locs h w => ?_)
    refine lv_iload C.1.1 C.1.2.1 dX7_post_85 (lv_at hl 4 rfl) ?_
    refine lv_bipush (v := (-4)) C.1.1 C.1.2.1 dX7_post_87 (by decide) ?_
    have J : ∀ ls : Array Slot, lv_has ls 7 [(0, .ref (ga g 0)), (1, .int x1), (2, .int x2), (3, .int x3), (4, .int (if x4 = (-4) then x6 else (if x5 ≤ (M13 11 2) then x4 else x6))), (5, .int (if x4 = (-4) then (M13 11 2) else (if x5 ≤ (M13 11 2) then x5 else (M13 11 2)))), (6, .int x6)] → W p l e (rmOf 5 111) s m args below meth c H locs 0 0 (MQ below (va_Qi Q (PostW g layX 68) (gF g)) args s 0 0 (gF g)) (F0 m 117 ls []) := by
      intro ls hl
      refine lv_iinc (v := x6 + 1) (lv' := [(6, .int (x6 + 1)), (0, .ref (ga g 0)), (1, .int x1), (2, .int x2), (3, .int x3), (4, .int (if x4 = (-4) then x6 else (if x5 ≤ (M13 11 2) then x4 else x6))), (5, .int (if x4 = (-4) then (M13 11 2) else (if x5 ≤ (M13 11 2) then x5 else (M13 11 2))))]) C.1.1 C.1.2.1 dX7_post_117 hl (k := 6) rfl rfl (by decide) rfl (fun ls hl => ?_)
      refine lv_goto (tgt := 44) C.1.1 C.1.2.1 dX7_post_120 (by decide) ?_
      exact hK44 _ _ _ _ _ _ _ h w (lv_sub hl [1, 2, 3, 4, 5, 6, 0] rfl)
    refine lv_icmp_eq (tgt := 104) C.1.1 C.1.2.1 dX7_post_89 (by decide) (fun hc14 => ?_) (fun hc14 => ?_)
    · refine lv_aload_n C.1.1 C.1.2.1 dX7_post_104 rfl (lv_at hl 0 rfl) ?_
      refine gr_RX7_19 C w hx_0 lx_0 rfl dX7_post_105 ?_
      refine gi_RX7_197 C w hx_11 lx_11 rfl dX7_post_108 ?_
      refine lv_istore (lv' := [(5, .int (M13 11 2)), (0, .ref (ga g 0)), (1, .int x1), (2, .int x2), (3, .int x3), (4, .int x4), (6, .int x6)]) C.1.1 C.1.2.1 dX7_post_111 hl (by decide) rfl (fun ls hl => ?_)
      refine lv_iload C.1.1 C.1.2.1 dX7_post_113 (lv_at hl 6 rfl) ?_
      refine lv_istore (lv' := [(4, .int x6), (5, .int (M13 11 2)), (0, .ref (ga g 0)), (1, .int x1), (2, .int x2), (3, .int x3), (6, .int x6)]) C.1.1 C.1.2.1 dX7_post_115 hl (by decide) rfl (fun ls hl => ?_)
      simp only [if_pos hc14] at J hl
      exact J ls (lv_sub hl [2, 3, 4, 5, 0, 1, 6] rfl)
    · refine lv_aload_n C.1.1 C.1.2.1 dX7_post_92 rfl (lv_at hl 0 rfl) ?_
      refine gr_RX7_19 C w hx_0 lx_0 rfl dX7_post_93 ?_
      refine gi_RX7_197 C w hx_11 lx_11 rfl dX7_post_96 ?_
      refine lv_iload C.1.1 C.1.2.1 dX7_post_99 (lv_at hl 5 rfl) ?_
      refine lv_icmp_ge (tgt := 117) C.1.1 C.1.2.1 dX7_post_101 (by decide) (fun hc15 => ?_) (fun hc15 => ?_)
      · simp only [if_neg hc14, if_pos hc15] at J hl
        exact J ls (lv_sub hl [0, 1, 2, 3, 4, 5, 6] rfl)
      · refine lv_aload_n C.1.1 C.1.2.1 dX7_post_104 rfl (lv_at hl 0 rfl) ?_
        refine gr_RX7_19 C w hx_0 lx_0 rfl dX7_post_105 ?_
        refine gi_RX7_197 C w hx_11 lx_11 rfl dX7_post_108 ?_
        refine lv_istore (lv' := [(5, .int (M13 11 2)), (0, .ref (ga g 0)), (1, .int x1), (2, .int x2), (3, .int x3), (4, .int x4), (6, .int x6)]) C.1.1 C.1.2.1 dX7_post_111 hl (by decide) rfl (fun ls hl => ?_)
        refine lv_iload C.1.1 C.1.2.1 dX7_post_113 (lv_at hl 6 rfl) ?_
        refine lv_istore (lv' := [(4, .int x6), (5, .int (M13 11 2)), (0, .ref (ga g 0)), (1, .int x1), (2, .int x2), (3, .int x3), (6, .int x6)]) C.1.1 C.1.2.1 dX7_post_115 hl (by decide) rfl (fun ls hl => ?_)
        simp only [if_neg hc14, if_neg hc15] at J hl
        exact J ls (lv_sub hl [2, 3, 4, 5, 0, 1, 6] rfl)
set_option maxHeartbeats 4000000 in
set_option maxRecDepth 100000 in
theorem l_X7_post_44 {x1 : Int32} {x2 : Int32} {x3 : Int32} {Q : Int32 → Mem → Prop} (C : Cx p s m args c cX7_post 7 RX7 g) (hr : meth.sig.returnType = (some .int)) (hk : meth.locks = false)  : ∀ (n : Nat) (x4 : Int32) (x5 : Int32) (x6 : Int32) (M : Mem) (H : Heap) (locs : List Loc) (ls : Array Slot), fu4 (w_X7_post_44 x1 x2 x3 Q) n x4 x5 x6 M → Wd g layX 68 s.heap M H locs → lv_has ls 7 [(0, .ref (ga g 0)), (1, .int x1), (2, .int x2), (3, .int x3), (4, .int x4), (5, .int x5), (6, .int x6)] → W p l e (rmOf 5 111) s m args below meth c H locs 0 0 (MQ below (va_Qi Q (PostW g layX 68) (gF g)) args s 0 0 (gF g)) (F0 m 44 ls []) := by
  intro n
  induction n with
  | zero => intro x4 x5 x6 M H locs ls h; exact h.elim
  | succ n ih => intro x4 x5 x6 M H locs ls h w hl; exact v_X7_post_44 C hr hk   ih h w hl
set_option maxHeartbeats 4000000 in
set_option maxRecDepth 100000 in
theorem c_X7_post {l : Launch} {g : Gt} {x1 : Int32} {x2 : Int32} {x3 : Int32} {M : Mem} {Q : Int32 → Mem → Prop} (h : w_X7_post x1 x2 x3 M Q) : MI l yX7_post cX7_post 7 (some .int) 5 111 g layX 68 [.ref (ga g 0), .int x1, .int x2, .int x3] M Q :=
  m_of (by decide +kernel) (Nat.le_of_ble_eq_true rfl) (fun p e s m args below meth c ls C hr hk w hl => by
    have C : Cx p s m args c cX7_post 7 RX7 g := C
    have hl : lv_has ls 7 [(0, .ref (ga g 0)), (1, .int x1), (2, .int x2), (3, .int x3)] := hl
    unfold w_X7_post at h
    obtain ⟨H, eH⟩ : ∃ H : Heap, H = s.heap := ⟨_, rfl⟩
    obtain ⟨locs, el⟩ : ∃ locs : List Loc, locs = [] := ⟨_, rfl⟩
    have w : Wd g layX 68 s.heap M H locs := by rw [eH, el]; exact w
    suffices hw : W p l e (rmOf 5 111) s m args below meth c H locs 0 0 (MQ below (va_Qi Q (PostW g layX 68) (gF g)) args s 0 0 (gF g)) (F0 m 0 ls []) by rw [eH, el] at hw; exact hw
    clear eH el
    refine lv_iload_n C.1.1 C.1.2.1 dX7_post_0 rfl (lv_at hl 1 rfl) ?_
    refine lv_iconst (v := 1) C.1.1 C.1.2.1 dX7_post_1 (by decide) ?_
    refine lv_bipush (v := 9) C.1.1 C.1.2.1 dX7_post_2 (by decide) ?_
    refine q_pSi C w [.int x1, .int 1, .int 9] (c_X7_isOutside  h) ks_X7_isOutside k_45  rfl hl.1 (Nat.le_of_ble_eq_true rfl) ⟨Nat.le_of_ble_eq_true rfl, Nat.le_of_ble_eq_true rfl⟩ dX7_post_4 (fun r1 H locs h w => ?_)
    refine lv_if_ne (tgt := 18) C.1.1 C.1.2.1 dX7_post_7 (by decide) (fun hc2 => ?_) (fun hc2 => ?_)
    · replace h := h.2 hc2
      refine lv_iconst (v := (-1)) C.1.1 C.1.2.1 dX7_post_18 (by decide) ?_
      exact q_iret C hr hk w rfl h dX7_post_19
    · replace h := h.1 hc2
      refine lv_iload_n C.1.1 C.1.2.1 dX7_post_10 rfl (lv_at hl 2 rfl) ?_
      refine lv_iload_n C.1.1 C.1.2.1 dX7_post_11 rfl (lv_at hl 3 rfl) ?_
      refine q_pSi C w [.int x2, .int x3] (c_X7_isNoQuestion  h) ks_X7_isNoQuestion k_66  rfl hl.1 (Nat.le_of_ble_eq_true rfl) ⟨Nat.le_of_ble_eq_true rfl, Nat.le_of_ble_eq_true rfl⟩ dX7_post_12 (fun r3 H locs h w => ?_)
      refine lv_if_eq (tgt := 20) C.1.1 C.1.2.1 dX7_post_15 (by decide) (fun hc4 => ?_) (fun hc4 => ?_)
      · replace h := h.1 hc4
        refine lv_aload_n C.1.1 C.1.2.1 dX7_post_20 rfl (lv_at hl 0 rfl) ?_
        refine gr_RX7_10 C w hx_0 lx_0 rfl dX7_post_21 ?_
        refine gi_RX7_104 C w hx_1 lx_1 rfl dX7_post_24 ?_
        refine lv_iconst (v := 3) C.1.1 C.1.2.1 dX7_post_27 (by decide) ?_
        refine lv_icmp_lt (tgt := 34) C.1.1 C.1.2.1 dX7_post_28 (by decide) (fun hc5 => ?_) (fun hc5 => ?_)
        · replace h := h.1 hc5
          refine lv_bipush (v := (-4)) C.1.1 C.1.2.1 dX7_post_34 (by decide) ?_
          refine lv_istore (lv' := [(4, .int (-4)), (0, .ref (ga g 0)), (1, .int x1), (2, .int x2), (3, .int x3)]) C.1.1 C.1.2.1 dX7_post_36 hl (by decide) rfl (fun ls hl => ?_)
          refine lv_iconst (v := 0) C.1.1 C.1.2.1 dX7_post_38 (by decide) ?_
          refine lv_istore (lv' := [(5, .int 0), (4, .int (-4)), (0, .ref (ga g 0)), (1, .int x1), (2, .int x2), (3, .int x3)]) C.1.1 C.1.2.1 dX7_post_39 hl (by decide) rfl (fun ls hl => ?_)
          refine lv_iconst (v := 0) C.1.1 C.1.2.1 dX7_post_41 (by decide) ?_
          refine lv_istore (lv' := [(6, .int 0), (5, .int 0), (4, .int (-4)), (0, .ref (ga g 0)), (1, .int x1), (2, .int x2), (3, .int x3)]) C.1.1 C.1.2.1 dX7_post_42 hl (by decide) rfl (fun ls hl => ?_)
          obtain ⟨n, h⟩ := h
          exact l_X7_post_44 C hr hk   n _ _ _ _ _ _ _ h w (lv_sub hl [3, 4, 5, 6, 2, 1, 0] rfl)
        · replace h := h.2 hc5
          refine lv_bipush (v := (-3)) C.1.1 C.1.2.1 dX7_post_31 (by decide) ?_
          exact q_iret C hr hk w rfl h dX7_post_33
      · replace h := h.2 hc4
        refine lv_iconst (v := (-1)) C.1.1 C.1.2.1 dX7_post_18 (by decide) ?_
        exact q_iret C hr hk w rfl h dX7_post_19)
-- kind
set_option maxHeartbeats 4000000 in
set_option maxRecDepth 100000 in
theorem c_X7_kind {l : Launch} {g : Gt} {x1 : Int32} {x2 : Int32} {x3 : Int32} {M : Mem} {Q : Int32 → Mem → Prop} (h : w_X7_kind x1 x2 x3 M Q) : MI l yX7_kind cX7_kind 4 (some .int) 6 139 g layX 68 [.ref (ga g 0), .int x1, .int x2, .int x3] M Q :=
  m_of (by decide +kernel) (Nat.le_of_ble_eq_true rfl) (fun p e s m args below meth c ls C hr hk w hl => by
    have C : Cx p s m args c cX7_kind 4 RX7 g := C
    have hl : lv_has ls 4 [(0, .ref (ga g 0)), (1, .int x1), (2, .int x2), (3, .int x3)] := hl
    unfold w_X7_kind at h
    obtain ⟨H, eH⟩ : ∃ H : Heap, H = s.heap := ⟨_, rfl⟩
    obtain ⟨locs, el⟩ : ∃ locs : List Loc, locs = [] := ⟨_, rfl⟩
    have w : Wd g layX 68 s.heap M H locs := by rw [eH, el]; exact w
    suffices hw : W p l e (rmOf 6 139) s m args below meth c H locs 0 0 (MQ below (va_Qi Q (PostW g layX 68) (gF g)) args s 0 0 (gF g)) (F0 m 0 ls []) by rw [eH, el] at hw; exact hw
    clear eH el
    refine lv_aload_n C.1.1 C.1.2.1 dX7_kind_0 rfl (lv_at hl 0 rfl) ?_
    refine lv_iload_n C.1.1 C.1.2.1 dX7_kind_1 rfl (lv_at hl 1 rfl) ?_
    refine q_pVi C w [.int x1] (c_X7_isNoTaker  h) kv_X7_isNoTaker k_56 (rcv C w kc_X7 hx_0 lx_0) rfl hl.1 (Nat.le_of_ble_eq_true rfl) ⟨Nat.le_of_ble_eq_true rfl, Nat.le_of_ble_eq_true rfl⟩ dX7_kind_2 (fun r1 H locs h w => ?_)
    refine lv_if_ne (tgt := 16) C.1.1 C.1.2.1 dX7_kind_5 (by decide) (fun hc2 => ?_) (fun hc2 => ?_)
    · replace h := h.2 hc2
      refine lv_iconst (v := (-1)) C.1.1 C.1.2.1 dX7_kind_16 (by decide) ?_
      exact q_iret C hr hk w rfl h dX7_kind_17
    · replace h := h.1 hc2
      refine lv_iload_n C.1.1 C.1.2.1 dX7_kind_8 rfl (lv_at hl 2 rfl) ?_
      refine lv_iload_n C.1.1 C.1.2.1 dX7_kind_9 rfl (lv_at hl 3 rfl) ?_
      refine q_pSi C w [.int x2, .int x3] (c_X7_isNoQuestion  h) ks_X7_isNoQuestion k_66  rfl hl.1 (Nat.le_of_ble_eq_true rfl) ⟨Nat.le_of_ble_eq_true rfl, Nat.le_of_ble_eq_true rfl⟩ dX7_kind_10 (fun r3 H locs h w => ?_)
      refine lv_if_eq (tgt := 18) C.1.1 C.1.2.1 dX7_kind_13 (by decide) (fun hc4 => ?_) (fun hc4 => ?_)
      · replace h := h.1 hc4
        refine lv_aload_n C.1.1 C.1.2.1 dX7_kind_18 rfl (lv_at hl 0 rfl) ?_
        refine lv_iload_n C.1.1 C.1.2.1 dX7_kind_19 rfl (lv_at hl 1 rfl) ?_
        refine lv_aload_n C.1.1 C.1.2.1 dX7_kind_20 rfl (lv_at hl 0 rfl) ?_
        refine gr_RX7_19 C w hx_0 lx_0 rfl dX7_kind_21 ?_
        refine gr_RX7_78 C w hx_11 lx_11 rfl dX7_kind_24 ?_
        refine gr_RX7_146 C w hx_12 lx_12 rfl dX7_kind_27 ?_
        refine lv_iconst (v := 3) C.1.1 C.1.2.1 dX7_kind_30 (by decide) ?_
        refine lv_iload_n C.1.1 C.1.2.1 dX7_kind_31 rfl (lv_at hl 2 rfl) ?_
        refine lv_iload_n C.1.1 C.1.2.1 dX7_kind_32 rfl (lv_at hl 3 rfl) ?_
        refine q_cVi C w [.int x1, .ref (ga g 15), .int 3, .int x2, .int x3] (c_X7_fullestBag ⟨hx_15, lx_15⟩ h) kv_X7_fullestBag k_69 (rcv C w kc_X7 hx_0 lx_0) rfl hl.1 (Nat.le_of_ble_eq_true rfl) ⟨Nat.le_of_ble_eq_true rfl, Nat.le_of_ble_eq_true rfl⟩ dX7_kind_33 (fun r5 M6 H locs h w => ?_)
        exact q_iret C hr hk w rfl h dX7_kind_36
      · replace h := h.2 hc4
        refine lv_iconst (v := (-1)) C.1.1 C.1.2.1 dX7_kind_16 (by decide) ?_
        exact q_iret C hr hk w rfl h dX7_kind_17)
-- sharp
set_option maxHeartbeats 4000000 in
set_option maxRecDepth 100000 in
theorem v_X7_sharp_32 {x1 : Int32} {x2 : Int32} {x3 : Int32} {x4 : Int32} {M : Mem} {K32 : Int32 → Mem → Prop} {Q : Int32 → Mem → Prop} {H : Heap} {locs : List Loc} {ls : Array Slot} (C : Cx p s m args c cX7_sharp 5 RX7 g) (hr : meth.sig.returnType = (some .int)) (hk : meth.locks = false) (hK32 : ∀ (x4 : Int32) (M : Mem) (H : Heap) (locs : List Loc) (ls : Array Slot), K32 x4 M → Wd g layX 68 s.heap M H locs → lv_has ls 5 [(0, .ref (ga g 0)), (1, .int x1), (2, .int x2), (3, .int x3), (4, .int x4)] → W p l e (rmOf 5 111) s m args below meth c H locs 0 0 (MQ below (va_Qi Q (PostW g layX 68) (gF g)) args s 0 0 (gF g)) (F0 m 32 ls [])) (h : w_X7_sharp_32 x1 x2 x3 Q K32 x4 M) (w : Wd g layX 68 s.heap M H locs) (hl : lv_has ls 5 [(0, .ref (ga g 0)), (1, .int x1), (2, .int x2), (3, .int x3), (4, .int x4)]) : W p l e (rmOf 5 111) s m args below meth c H locs 0 0 (MQ below (va_Qi Q (PostW g layX 68) (gF g)) args s 0 0 (gF g)) (F0 m 32 ls []) := by
  unfold w_X7_sharp_32 at h
  refine lv_iload C.1.1 C.1.2.1 dX7_sharp_32 (lv_at hl 4 rfl) ?_
  refine lv_iconst (v := 1) C.1.1 C.1.2.1 dX7_sharp_34 (by decide) ?_
  refine lv_icmp_lt (tgt := 91) C.1.1 C.1.2.1 dX7_sharp_35 (by decide) (fun hc7 => ?_) (fun hc7 => ?_)
  · replace h := h.1 hc7
    refine lv_bipush (v := (-4)) C.1.1 C.1.2.1 dX7_sharp_91 (by decide) ?_
    exact q_iret C hr hk w rfl h dX7_sharp_93
  · replace h := h.2 hc7
    refine lv_aload_n C.1.1 C.1.2.1 dX7_sharp_38 rfl (lv_at hl 0 rfl) ?_
    refine gr_RX7_19 C w hx_0 lx_0 rfl dX7_sharp_39 ?_
    refine lv_aload_n C.1.1 C.1.2.1 dX7_sharp_42 rfl (lv_at hl 0 rfl) ?_
    refine gr_RX7_10 C w hx_0 lx_0 rfl dX7_sharp_43 ?_
    refine q_cVv C w [.ref (ga g 1)] (c_X6_begin  h) kv_X6_begin k_64 (rcv C w kc_X6 hx_11 lx_11) rfl hl.1 (Nat.le_of_ble_eq_true rfl) ⟨Nat.le_of_ble_eq_true rfl, Nat.le_of_ble_eq_true rfl⟩ dX7_sharp_46 (fun M9 H locs h w => ?_)
    refine lv_aload_n C.1.1 C.1.2.1 dX7_sharp_49 rfl (lv_at hl 0 rfl) ?_
    refine gr_RX7_19 C w hx_0 lx_0 rfl dX7_sharp_50 ?_
    refine gr_RX7_78 C w hx_11 lx_11 rfl dX7_sharp_53 ?_
    refine gr_RX7_173 C w hx_12 lx_12 rfl dX7_sharp_56 ?_
    refine lv_iload_n C.1.1 C.1.2.1 dX7_sharp_59 rfl (lv_at hl 1 rfl) ?_
    refine lv_iload C.1.1 C.1.2.1 dX7_sharp_60 (lv_at hl 4 rfl) ?_
    refine q_ias C w hx_21 lx_21 h.1 dX7_sharp_62 (fun M10 H locs eM10 w => ?_)
    replace h := h.2 M10 eM10
    refine lv_aload_n C.1.1 C.1.2.1 dX7_sharp_63 rfl (lv_at hl 0 rfl) ?_
    refine gr_RX7_19 C w hx_0 lx_0 rfl dX7_sharp_64 ?_
    refine lv_iload_n C.1.1 C.1.2.1 dX7_sharp_67 rfl (lv_at hl 3 rfl) ?_
    refine q_cVv C w [.int x3] (c_X6_pass  h) kv_X6_pass k_65 (rcv C w kc_X6 hx_11 lx_11) rfl hl.1 (Nat.le_of_ble_eq_true rfl) ⟨Nat.le_of_ble_eq_true rfl, Nat.le_of_ble_eq_true rfl⟩ dX7_sharp_68 (fun M12 H locs h w => ?_)
    refine lv_aload_n C.1.1 C.1.2.1 dX7_sharp_71 rfl (lv_at hl 0 rfl) ?_
    refine gr_RX7_19 C w hx_0 lx_0 rfl dX7_sharp_72 ?_
    refine lv_iload_n C.1.1 C.1.2.1 dX7_sharp_75 rfl (lv_at hl 2 rfl) ?_
    refine q_pVi C w [.int x2] (c_X6_wasCaught  h) kv_X6_wasCaught k_68 (rcv C w kc_X6 hx_11 lx_11) rfl hl.1 (Nat.le_of_ble_eq_true rfl) ⟨Nat.le_of_ble_eq_true rfl, Nat.le_of_ble_eq_true rfl⟩ dX7_sharp_76 (fun r13 H locs h w => ?_)
    refine lv_if_eq (tgt := 85) C.1.1 C.1.2.1 dX7_sharp_79 (by decide) (fun hc14 => ?_) (fun hc14 => ?_)
    · replace h := h.1 hc14
      refine lv_iinc (v := x4 + (-1)) (lv' := [(4, .int (x4 + (-1))), (0, .ref (ga g 0)), (1, .int x1), (2, .int x2), (3, .int x3)]) C.1.1 C.1.2.1 dX7_sharp_85 hl (k := 4) rfl rfl (by decide) rfl (fun ls hl => ?_)
      refine lv_goto (tgt := 32) C.1.1 C.1.2.1 dX7_sharp_88 (by decide) ?_
      exact hK32 _ _ _ _ _ h w (lv_sub hl [1, 2, 3, 4, 0] rfl)
    · replace h := h.2 hc14
      refine lv_iload C.1.1 C.1.2.1 dX7_sharp_82 (lv_at hl 4 rfl) ?_
      exact q_iret C hr hk w rfl h dX7_sharp_84
set_option maxHeartbeats 4000000 in
set_option maxRecDepth 100000 in
theorem l_X7_sharp_32 {x1 : Int32} {x2 : Int32} {x3 : Int32} {Q : Int32 → Mem → Prop} (C : Cx p s m args c cX7_sharp 5 RX7 g) (hr : meth.sig.returnType = (some .int)) (hk : meth.locks = false)  : ∀ (n : Nat) (x4 : Int32) (M : Mem) (H : Heap) (locs : List Loc) (ls : Array Slot), fu2 (w_X7_sharp_32 x1 x2 x3 Q) n x4 M → Wd g layX 68 s.heap M H locs → lv_has ls 5 [(0, .ref (ga g 0)), (1, .int x1), (2, .int x2), (3, .int x3), (4, .int x4)] → W p l e (rmOf 5 111) s m args below meth c H locs 0 0 (MQ below (va_Qi Q (PostW g layX 68) (gF g)) args s 0 0 (gF g)) (F0 m 32 ls []) := by
  intro n
  induction n with
  | zero => intro x4 M H locs ls h; exact h.elim
  | succ n ih => intro x4 M H locs ls h w hl; exact v_X7_sharp_32 C hr hk   ih h w hl
set_option maxHeartbeats 4000000 in
set_option maxRecDepth 100000 in
theorem c_X7_sharp {l : Launch} {g : Gt} {x1 : Int32} {x2 : Int32} {x3 : Int32} {M : Mem} {Q : Int32 → Mem → Prop} (h : w_X7_sharp x1 x2 x3 M Q) : MI l yX7_sharp cX7_sharp 5 (some .int) 5 111 g layX 68 [.ref (ga g 0), .int x1, .int x2, .int x3] M Q :=
  m_of (by decide +kernel) (Nat.le_of_ble_eq_true rfl) (fun p e s m args below meth c ls C hr hk w hl => by
    have C : Cx p s m args c cX7_sharp 5 RX7 g := C
    have hl : lv_has ls 5 [(0, .ref (ga g 0)), (1, .int x1), (2, .int x2), (3, .int x3)] := hl
    unfold w_X7_sharp at h
    obtain ⟨H, eH⟩ : ∃ H : Heap, H = s.heap := ⟨_, rfl⟩
    obtain ⟨locs, el⟩ : ∃ locs : List Loc, locs = [] := ⟨_, rfl⟩
    have w : Wd g layX 68 s.heap M H locs := by rw [eH, el]; exact w
    suffices hw : W p l e (rmOf 5 111) s m args below meth c H locs 0 0 (MQ below (va_Qi Q (PostW g layX 68) (gF g)) args s 0 0 (gF g)) (F0 m 0 ls []) by rw [eH, el] at hw; exact hw
    clear eH el
    refine lv_aload_n C.1.1 C.1.2.1 dX7_sharp_0 rfl (lv_at hl 0 rfl) ?_
    refine lv_iload_n C.1.1 C.1.2.1 dX7_sharp_1 rfl (lv_at hl 1 rfl) ?_
    refine q_pVi C w [.int x1] (c_X7_isNoKeeper  h) kv_X7_isNoKeeper k_59 (rcv C w kc_X7 hx_0 lx_0) rfl hl.1 (Nat.le_of_ble_eq_true rfl) ⟨Nat.le_of_ble_eq_true rfl, Nat.le_of_ble_eq_true rfl⟩ dX7_sharp_2 (fun r1 H locs h w => ?_)
    refine lv_if_ne (tgt := 26) C.1.1 C.1.2.1 dX7_sharp_5 (by decide) (fun hc2 => ?_) (fun hc2 => ?_)
    · replace h := h.2 hc2
      refine lv_iconst (v := (-1)) C.1.1 C.1.2.1 dX7_sharp_26 (by decide) ?_
      exact q_iret C hr hk w rfl h dX7_sharp_27
    · replace h := h.1 hc2
      refine lv_aload_n C.1.1 C.1.2.1 dX7_sharp_8 rfl (lv_at hl 0 rfl) ?_
      refine lv_iload_n C.1.1 C.1.2.1 dX7_sharp_9 rfl (lv_at hl 2 rfl) ?_
      refine q_pVi C w [.int x2] (c_X7_isNoTaker  h) kv_X7_isNoTaker k_56 (rcv C w kc_X7 hx_0 lx_0) rfl hl.1 (Nat.le_of_ble_eq_true rfl) ⟨Nat.le_of_ble_eq_true rfl, Nat.le_of_ble_eq_true rfl⟩ dX7_sharp_10 (fun r3 H locs h w => ?_)
      refine lv_if_ne (tgt := 26) C.1.1 C.1.2.1 dX7_sharp_13 (by decide) (fun hc4 => ?_) (fun hc4 => ?_)
      · replace h := h.2 hc4
        refine lv_iconst (v := (-1)) C.1.1 C.1.2.1 dX7_sharp_26 (by decide) ?_
        exact q_iret C hr hk w rfl h dX7_sharp_27
      · replace h := h.1 hc4
        refine lv_iload_n C.1.1 C.1.2.1 dX7_sharp_16 rfl (lv_at hl 3 rfl) ?_
        refine lv_iconst (v := 0) C.1.1 C.1.2.1 dX7_sharp_17 (by decide) ?_
        refine lv_bipush (v := 60) C.1.1 C.1.2.1 dX7_sharp_18 (by decide) ?_
        refine q_pSi C w [.int x3, .int 0, .int 60] (c_X7_isOutside  h) ks_X7_isOutside k_45  rfl hl.1 (Nat.le_of_ble_eq_true rfl) ⟨Nat.le_of_ble_eq_true rfl, Nat.le_of_ble_eq_true rfl⟩ dX7_sharp_20 (fun r5 H locs h w => ?_)
        refine lv_if_eq (tgt := 28) C.1.1 C.1.2.1 dX7_sharp_23 (by decide) (fun hc6 => ?_) (fun hc6 => ?_)
        · replace h := h.1 hc6
          refine lv_bipush (v := 9) C.1.1 C.1.2.1 dX7_sharp_28 (by decide) ?_
          refine lv_istore (lv' := [(4, .int 9), (0, .ref (ga g 0)), (1, .int x1), (2, .int x2), (3, .int x3)]) C.1.1 C.1.2.1 dX7_sharp_30 hl (by decide) rfl (fun ls hl => ?_)
          obtain ⟨n, h⟩ := h
          exact l_X7_sharp_32 C hr hk   n _ _ _ _ _ h w (lv_sub hl [1, 2, 3, 4, 0] rfl)
        · replace h := h.2 hc6
          refine lv_iconst (v := (-1)) C.1.1 C.1.2.1 dX7_sharp_26 (by decide) ?_
          exact q_iret C hr hk w rfl h dX7_sharp_27)
-- isNoHaze
set_option maxHeartbeats 4000000 in
set_option maxRecDepth 100000 in
theorem c_X7_isNoHaze {l : Launch} {g : Gt} {x0 : Int32} {x1 : Int32} {x2 : Int32} {M : Mem} {Q : Int32 → Prop} (h : w_X7_isNoHaze x0 x1 x2 M Q) : MI l yX7_isNoHaze cX7_isNoHaze 3 (some .boolean) 1 22 g layX 68 [.int x0, .int x1, .int x2] M (fun r M9 => M9 = M ∧ Q r) :=
  m_of (by decide +kernel) (Nat.le_of_ble_eq_true rfl) (fun p e s m args below meth c ls C hr hk w hl => by
    have C : Cx p s m args c cX7_isNoHaze 3 RX7 g := C
    have hl : lv_has ls 3 [(0, .int x0), (1, .int x1), (2, .int x2)] := hl
    unfold w_X7_isNoHaze at h
    obtain ⟨H, eH⟩ : ∃ H : Heap, H = s.heap := ⟨_, rfl⟩
    obtain ⟨locs, el⟩ : ∃ locs : List Loc, locs = [] := ⟨_, rfl⟩
    have w : Wd g layX 68 s.heap M H locs := by rw [eH, el]; exact w
    suffices hw : W p l e (rmOf 1 22) s m args below meth c H locs 0 0 (MQ below (va_Qi (fun r M9 => M9 = M ∧ Q r) (PostW g layX 68) (gF g)) args s 0 0 (gF g)) (F0 m 0 ls []) by rw [eH, el] at hw; exact hw
    clear eH el
    refine lv_iload_n C.1.1 C.1.2.1 dX7_isNoHaze_0 rfl (lv_at hl 0 rfl) ?_
    refine lv_iconst (v := 0) C.1.1 C.1.2.1 dX7_isNoHaze_1 (by decide) ?_
    refine lv_bipush (v := 10) C.1.1 C.1.2.1 dX7_isNoHaze_2 (by decide) ?_
    refine q_pSi C w [.int x0, .int 0, .int 10] (c_X7_isOutside  h) ks_X7_isOutside k_45  rfl hl.1 (Nat.le_of_ble_eq_true rfl) ⟨Nat.le_of_ble_eq_true rfl, Nat.le_of_ble_eq_true rfl⟩ dX7_isNoHaze_4 (fun r1 H locs h w => ?_)
    refine lv_if_ne (tgt := 29) C.1.1 C.1.2.1 dX7_isNoHaze_7 (by decide) (fun hc2 => ?_) (fun hc2 => ?_)
    · replace h := h.2 hc2
      refine lv_iconst (v := 1) C.1.1 C.1.2.1 dX7_isNoHaze_29 (by decide) ?_
      refine lv_goto (tgt := 34) C.1.1 C.1.2.1 dX7_isNoHaze_30 (by decide) ?_
      exact q_iret C hr hk w rfl ⟨rfl, h⟩ dX7_isNoHaze_34
    · replace h := h.1 hc2
      refine lv_iload_n C.1.1 C.1.2.1 dX7_isNoHaze_10 rfl (lv_at hl 1 rfl) ?_
      refine lv_iconst (v := 0) C.1.1 C.1.2.1 dX7_isNoHaze_11 (by decide) ?_
      refine lv_bipush (v := 8) C.1.1 C.1.2.1 dX7_isNoHaze_12 (by decide) ?_
      refine q_pSi C w [.int x1, .int 0, .int 8] (c_X7_isOutside  h) ks_X7_isOutside k_45  rfl hl.1 (Nat.le_of_ble_eq_true rfl) ⟨Nat.le_of_ble_eq_true rfl, Nat.le_of_ble_eq_true rfl⟩ dX7_isNoHaze_14 (fun r3 H locs h w => ?_)
      refine lv_if_ne (tgt := 29) C.1.1 C.1.2.1 dX7_isNoHaze_17 (by decide) (fun hc4 => ?_) (fun hc4 => ?_)
      · replace h := h.2 hc4
        refine lv_iconst (v := 1) C.1.1 C.1.2.1 dX7_isNoHaze_29 (by decide) ?_
        refine lv_goto (tgt := 34) C.1.1 C.1.2.1 dX7_isNoHaze_30 (by decide) ?_
        exact q_iret C hr hk w rfl ⟨rfl, h⟩ dX7_isNoHaze_34
      · replace h := h.1 hc4
        refine lv_iload_n C.1.1 C.1.2.1 dX7_isNoHaze_20 rfl (lv_at hl 2 rfl) ?_
        refine lv_iconst (v := 0) C.1.1 C.1.2.1 dX7_isNoHaze_21 (by decide) ?_
        refine lv_iconst (v := 1) C.1.1 C.1.2.1 dX7_isNoHaze_22 (by decide) ?_
        refine q_pSi C w [.int x2, .int 0, .int 1] (c_X7_isOutside  h) ks_X7_isOutside k_45  rfl hl.1 (Nat.le_of_ble_eq_true rfl) ⟨Nat.le_of_ble_eq_true rfl, Nat.le_of_ble_eq_true rfl⟩ dX7_isNoHaze_23 (fun r5 H locs h w => ?_)
        refine lv_if_eq (tgt := 33) C.1.1 C.1.2.1 dX7_isNoHaze_26 (by decide) (fun hc6 => ?_) (fun hc6 => ?_)
        · replace h := h.1 hc6
          refine lv_iconst (v := 0) C.1.1 C.1.2.1 dX7_isNoHaze_33 (by decide) ?_
          exact q_iret C hr hk w rfl ⟨rfl, h⟩ dX7_isNoHaze_34
        · replace h := h.2 hc6
          refine lv_iconst (v := 1) C.1.1 C.1.2.1 dX7_isNoHaze_29 (by decide) ?_
          refine lv_goto (tgt := 34) C.1.1 C.1.2.1 dX7_isNoHaze_30 (by decide) ?_
          exact q_iret C hr hk w rfl ⟨rfl, h⟩ dX7_isNoHaze_34)
-- commonDivisor
set_option maxHeartbeats 4000000 in
set_option maxRecDepth 100000 in
theorem v_X7_commonDivisor_44 {y4 : Int64} {M : Mem} {Q : Int64 → Prop} {H : Heap} {locs : List Loc} {ls : Array Slot} (C : Cx p s m args c cX7_commonDivisor 11 RX7 g) (hr : meth.sig.returnType = (some .long)) (hk : meth.locks = false)  (h : w_X7_commonDivisor_44 y4 M Q) (w : Wd g layX 68 s.heap M H locs) (hl : lv_has ls 11 [(4, .long y4)]) : W p l e (rmOf 0 0) s m args below meth c H locs 0 0 (MQ below (va_Ql (fun r M9 => M9 = M ∧ Q r) (PostW g layX 68) (gF g)) args s 0 0 (gF g)) (F0 m 44 ls []) := by
  unfold w_X7_commonDivisor_44 at h
  refine lv_lload C.1.1 C.1.2.1 dX7_commonDivisor_44 (lv_at hl 0 rfl) ?_
  refine lv_lconst (v := 0) C.1.1 C.1.2.1 dX7_commonDivisor_46 (by decide) ?_
  refine W.lcmp C.1.1 C.1.2.1 dX7_commonDivisor_47 ?_
  have J : ∀ ls : Array Slot, lv_has ls 11 [] → W p l e (rmOf 0 0) s m args below meth c H locs 0 0 (MQ below (va_Ql (fun r M9 => M9 = M ∧ Q r) (PostW g layX 68) (gF g)) args s 0 0 (gF g)) (F0 m 57 ls [.long (if (lg_cmp y4 0) ≤ 0 then (1 : Int64) else y4)]) := by
    intro ls hl
    exact q_lret C hr hk w ⟨rfl, h⟩ dX7_commonDivisor_57
  refine lv_if_le (tgt := 56) C.1.1 C.1.2.1 dX7_commonDivisor_48 (by decide) (fun hc2 => ?_) (fun hc2 => ?_)
  · refine lv_lconst (v := 1) C.1.1 C.1.2.1 dX7_commonDivisor_56 (by decide) ?_
    simp only [if_pos hc2] at J hl
    exact J ls (lv_sub hl [] rfl)
  · refine lv_lload C.1.1 C.1.2.1 dX7_commonDivisor_51 (lv_at hl 0 rfl) ?_
    refine lv_goto (tgt := 57) C.1.1 C.1.2.1 dX7_commonDivisor_53 (by decide) ?_
    simp only [if_neg hc2] at J hl
    exact J ls (lv_sub hl [] rfl)
set_option maxHeartbeats 4000000 in
set_option maxRecDepth 100000 in
theorem v_X7_commonDivisor_9 {y4 : Int64} {y6 : Int64} {x8 : Int32} {M : Mem} {K9 : Int64 → Int64 → Int32 → Prop} {Q : Int64 → Prop} {H : Heap} {locs : List Loc} {ls : Array Slot} (C : Cx p s m args c cX7_commonDivisor 11 RX7 g) (hr : meth.sig.returnType = (some .long)) (hk : meth.locks = false) (hK9 : ∀ (y4 : Int64) (y6 : Int64) (x8 : Int32) (H : Heap) (locs : List Loc) (ls : Array Slot), K9 y4 y6 x8 → Wd g layX 68 s.heap M H locs → lv_has ls 11 [(4, .long y4), (6, .long y6), (8, .int x8)] → W p l e (rmOf 0 0) s m args below meth c H locs 0 0 (MQ below (va_Ql (fun r M9 => M9 = M ∧ Q r) (PostW g layX 68) (gF g)) args s 0 0 (gF g)) (F0 m 9 ls [])) (h : w_X7_commonDivisor_9 M Q K9 y4 y6 x8) (w : Wd g layX 68 s.heap M H locs) (hl : lv_has ls 11 [(4, .long y4), (6, .long y6), (8, .int x8)]) : W p l e (rmOf 0 0) s m args below meth c H locs 0 0 (MQ below (va_Ql (fun r M9 => M9 = M ∧ Q r) (PostW g layX 68) (gF g)) args s 0 0 (gF g)) (F0 m 9 ls []) := by
  unfold w_X7_commonDivisor_9 at h
  refine lv_iload C.1.1 C.1.2.1 dX7_commonDivisor_9 (lv_at hl 2 rfl) ?_
  refine lv_bipush (v := 100) C.1.1 C.1.2.1 dX7_commonDivisor_11 (by decide) ?_
  refine lv_icmp_ge (tgt := 44) C.1.1 C.1.2.1 dX7_commonDivisor_13 (by decide) (fun hc1 => ?_) (fun hc1 => ?_)
  · replace h := h.1 hc1
    exact v_X7_commonDivisor_44 C hr hk   h w (lv_sub hl [0] rfl)
  · replace h := h.2 hc1
    refine lv_lload C.1.1 C.1.2.1 dX7_commonDivisor_16 (lv_at hl 1 rfl) ?_
    refine lv_lconst (v := 0) C.1.1 C.1.2.1 dX7_commonDivisor_18 (by decide) ?_
    refine W.lcmp C.1.1 C.1.2.1 dX7_commonDivisor_19 ?_
    refine lv_if_eq (tgt := 44) C.1.1 C.1.2.1 dX7_commonDivisor_20 (by decide) (fun hc3 => ?_) (fun hc3 => ?_)
    · replace h := h.1 hc3
      exact v_X7_commonDivisor_44 C hr hk   h w (lv_sub hl [0] rfl)
    · replace h := h.2 hc3
      refine lv_lload C.1.1 C.1.2.1 dX7_commonDivisor_23 (lv_at hl 0 rfl) ?_
      refine lv_lload C.1.1 C.1.2.1 dX7_commonDivisor_25 (lv_at hl 1 rfl) ?_
      refine q_lrem C dX7_commonDivisor_27 h.1 ?_
      replace h := h.2
      refine lv_lstore (lv' := [(9, .long (lrm y4 y6)), (4, .long y4), (6, .long y6), (8, .int x8)]) C.1.1 C.1.2.1 dX7_commonDivisor_28 hl (by decide) rfl (fun ls hl => ?_)
      refine lv_lload C.1.1 C.1.2.1 dX7_commonDivisor_30 (lv_at hl 2 rfl) ?_
      refine lv_lstore (lv' := [(4, .long y6), (9, .long (lrm y4 y6)), (6, .long y6), (8, .int x8)]) C.1.1 C.1.2.1 dX7_commonDivisor_32 hl (by decide) rfl (fun ls hl => ?_)
      refine lv_lload C.1.1 C.1.2.1 dX7_commonDivisor_34 (lv_at hl 1 rfl) ?_
      refine lv_lstore (lv' := [(6, .long (lrm y4 y6)), (4, .long y6), (9, .long (lrm y4 y6)), (8, .int x8)]) C.1.1 C.1.2.1 dX7_commonDivisor_36 hl (by decide) rfl (fun ls hl => ?_)
      refine lv_iinc (v := x8 + 1) (lv' := [(8, .int (x8 + 1)), (6, .long (lrm y4 y6)), (4, .long y6), (9, .long (lrm y4 y6))]) C.1.1 C.1.2.1 dX7_commonDivisor_38 hl (k := 3) rfl rfl (by decide) rfl (fun ls hl => ?_)
      refine lv_goto (tgt := 9) C.1.1 C.1.2.1 dX7_commonDivisor_41 (by decide) ?_
      exact hK9 _ _ _ _ _ _ h w (lv_sub hl [2, 1, 0] rfl)
set_option maxHeartbeats 4000000 in
set_option maxRecDepth 100000 in
theorem l_X7_commonDivisor_9 {M : Mem} {Q : Int64 → Prop} (C : Cx p s m args c cX7_commonDivisor 11 RX7 g) (hr : meth.sig.returnType = (some .long)) (hk : meth.locks = false)  : ∀ (n : Nat) (y4 : Int64) (y6 : Int64) (x8 : Int32) (H : Heap) (locs : List Loc) (ls : Array Slot), fu3 (w_X7_commonDivisor_9 M Q) n y4 y6 x8 → Wd g layX 68 s.heap M H locs → lv_has ls 11 [(4, .long y4), (6, .long y6), (8, .int x8)] → W p l e (rmOf 0 0) s m args below meth c H locs 0 0 (MQ below (va_Ql (fun r M9 => M9 = M ∧ Q r) (PostW g layX 68) (gF g)) args s 0 0 (gF g)) (F0 m 9 ls []) := by
  intro n
  induction n with
  | zero => intro y4 y6 x8 H locs ls h; exact h.elim
  | succ n ih => intro y4 y6 x8 H locs ls h w hl; exact v_X7_commonDivisor_9 C hr hk   ih h w hl
set_option maxHeartbeats 4000000 in
set_option maxRecDepth 100000 in
theorem c_X7_commonDivisor {l : Launch} {g : Gt} {y0 : Int64} {y2 : Int64} {M : Mem} {Q : Int64 → Prop} (h : w_X7_commonDivisor y0 y2 M Q) : ML l yX7_commonDivisor cX7_commonDivisor 11 (some .long) 0 0 g layX 68 [.long y0, .long y2] M (fun r M9 => M9 = M ∧ Q r) :=
  m_of (by decide +kernel) (Nat.le_of_ble_eq_true rfl) (fun p e s m args below meth c ls C hr hk w hl => by
    have C : Cx p s m args c cX7_commonDivisor 11 RX7 g := C
    have hl : lv_has ls 11 [(0, .long y0), (2, .long y2)] := hl
    unfold w_X7_commonDivisor at h
    obtain ⟨H, eH⟩ : ∃ H : Heap, H = s.heap := ⟨_, rfl⟩
    obtain ⟨locs, el⟩ : ∃ locs : List Loc, locs = [] := ⟨_, rfl⟩
    have w : Wd g layX 68 s.heap M H locs := by rw [eH, el]; exact w
    suffices hw : W p l e (rmOf 0 0) s m args below meth c H locs 0 0 (MQ below (va_Ql (fun r M9 => M9 = M ∧ Q r) (PostW g layX 68) (gF g)) args s 0 0 (gF g)) (F0 m 0 ls []) by rw [eH, el] at hw; exact hw
    clear eH el
    refine lv_lload_n C.1.1 C.1.2.1 dX7_commonDivisor_0 rfl (lv_at hl 0 rfl) ?_
    refine lv_lstore (lv' := [(4, .long y0), (0, .long y0), (2, .long y2)]) C.1.1 C.1.2.1 dX7_commonDivisor_1 hl (by decide) rfl (fun ls hl => ?_)
    refine lv_lload_n C.1.1 C.1.2.1 dX7_commonDivisor_3 rfl (lv_at hl 2 rfl) ?_
    refine lv_lstore (lv' := [(6, .long y2), (4, .long y0), (0, .long y0), (2, .long y2)]) C.1.1 C.1.2.1 dX7_commonDivisor_4 hl (by decide) rfl (fun ls hl => ?_)
    refine lv_iconst (v := 0) C.1.1 C.1.2.1 dX7_commonDivisor_6 (by decide) ?_
    refine lv_istore (lv' := [(8, .int 0), (6, .long y2), (4, .long y0), (0, .long y0), (2, .long y2)]) C.1.1 C.1.2.1 dX7_commonDivisor_7 hl (by decide) rfl (fun ls hl => ?_)
    obtain ⟨n, h⟩ := h
    exact l_X7_commonDivisor_9 C hr hk   n _ _ _ _ _ _ h w (lv_sub hl [2, 1, 0] rfl))
-- partOfFraction
set_option maxHeartbeats 4000000 in
set_option maxRecDepth 100000 in
theorem c_X7_partOfFraction {l : Launch} {g : Gt} {y0 : Int64} {y2 : Int64} {x4 : Int32} {M : Mem} {Q : Int64 → Prop} (h : w_X7_partOfFraction y0 y2 x4 M Q) : ML l yX7_partOfFraction cX7_partOfFraction 7 (some .long) 1 30 g layX 68 [.long y0, .long y2, .int x4] M (fun r M9 => M9 = M ∧ Q r) :=
  m_of (by decide +kernel) (Nat.le_of_ble_eq_true rfl) (fun p e s m args below meth c ls C hr hk w hl => by
    have C : Cx p s m args c cX7_partOfFraction 7 RX7 g := C
    have hl : lv_has ls 7 [(0, .long y0), (2, .long y2), (4, .int x4)] := hl
    unfold w_X7_partOfFraction at h
    obtain ⟨H, eH⟩ : ∃ H : Heap, H = s.heap := ⟨_, rfl⟩
    obtain ⟨locs, el⟩ : ∃ locs : List Loc, locs = [] := ⟨_, rfl⟩
    have w : Wd g layX 68 s.heap M H locs := by rw [eH, el]; exact w
    suffices hw : W p l e (rmOf 1 30) s m args below meth c H locs 0 0 (MQ below (va_Ql (fun r M9 => M9 = M ∧ Q r) (PostW g layX 68) (gF g)) args s 0 0 (gF g)) (F0 m 0 ls []) by rw [eH, el] at hw; exact hw
    clear eH el
    refine lv_lload_n C.1.1 C.1.2.1 dX7_partOfFraction_0 rfl (lv_at hl 0 rfl) ?_
    refine lv_lload_n C.1.1 C.1.2.1 dX7_partOfFraction_1 rfl (lv_at hl 1 rfl) ?_
    refine q_pSl C w [.long y0, .long y2] (c_X7_commonDivisor  h) ks_X7_commonDivisor k_70  rfl hl.1 (Nat.le_of_ble_eq_true rfl) ⟨Nat.le_of_ble_eq_true rfl, Nat.le_of_ble_eq_true rfl⟩ dX7_partOfFraction_2 (fun r1 H locs h w => ?_)
    refine lv_lstore (lv' := [(5, .long r1), (0, .long y0), (2, .long y2), (4, .int x4)]) C.1.1 C.1.2.1 dX7_partOfFraction_5 hl (by decide) rfl (fun ls hl => ?_)
    refine lv_iload C.1.1 C.1.2.1 dX7_partOfFraction_7 (lv_at hl 3 rfl) ?_
    refine lv_if_ne (tgt := 19) C.1.1 C.1.2.1 dX7_partOfFraction_9 (by decide) (fun hc2 => ?_) (fun hc2 => ?_)
    · replace h := h.2 hc2
      refine lv_lload_n C.1.1 C.1.2.1 dX7_partOfFraction_19 rfl (lv_at hl 2 rfl) ?_
      refine lv_lload C.1.1 C.1.2.1 dX7_partOfFraction_20 (lv_at hl 0 rfl) ?_
      refine lv_ldiv C.1.1 C.1.2.1 dX7_partOfFraction_22 h.1 ?_
      replace h := h.2
      exact q_lret C hr hk w ⟨rfl, h⟩ dX7_partOfFraction_23
    · replace h := h.1 hc2
      refine lv_lload_n C.1.1 C.1.2.1 dX7_partOfFraction_12 rfl (lv_at hl 1 rfl) ?_
      refine lv_lload C.1.1 C.1.2.1 dX7_partOfFraction_13 (lv_at hl 0 rfl) ?_
      refine lv_ldiv C.1.1 C.1.2.1 dX7_partOfFraction_15 h.1 ?_
      replace h := h.2
      refine lv_goto (tgt := 23) C.1.1 C.1.2.1 dX7_partOfFraction_16 (by decide) ?_
      exact q_lret C hr hk w ⟨rfl, h⟩ dX7_partOfFraction_23)
-- luck
set_option maxHeartbeats 4000000 in
set_option maxRecDepth 100000 in
theorem v_X7_luck_91 {x4 : Int32} {y5 : Int64} {y7 : Int64} {M : Mem} {Q : Int64 → Mem → Prop} {H : Heap} {locs : List Loc} {ls : Array Slot} (C : Cx p s m args c cX7_luck 10 RX7 g) (hr : meth.sig.returnType = (some .long)) (hk : meth.locks = false)  (h : w_X7_luck_91 x4 y5 y7 M Q) (w : Wd g layX 68 s.heap M H locs) (hl : lv_has ls 10 [(4, .int x4), (5, .long y5), (7, .long y7)]) : W p l e (rmOf 4 89) s m args below meth c H locs 0 0 (MQ below (va_Ql Q (PostW g layX 68) (gF g)) args s 0 0 (gF g)) (F0 m 91 ls []) := by
  unfold w_X7_luck_91 at h
  refine lv_lload C.1.1 C.1.2.1 dX7_luck_91 (lv_at hl 1 rfl) ?_
  refine lv_lload C.1.1 C.1.2.1 dX7_luck_93 (lv_at hl 2 rfl) ?_
  refine lv_iload C.1.1 C.1.2.1 dX7_luck_95 (lv_at hl 0 rfl) ?_
  refine q_pSl C w [.long y5, .long y7, .int x4] (c_X7_partOfFraction  h) ks_X7_partOfFraction k_73  rfl hl.1 (Nat.le_of_ble_eq_true rfl) ⟨Nat.le_of_ble_eq_true rfl, Nat.le_of_ble_eq_true rfl⟩ dX7_luck_97 (fun r8 H locs h w => ?_)
  exact q_lret C hr hk w h dX7_luck_100
set_option maxHeartbeats 4000000 in
set_option maxRecDepth 100000 in
theorem v_X7_luck_42 {x1 : Int32} {x2 : Int32} {x3 : Int32} {x4 : Int32} {y5 : Int64} {y7 : Int64} {x9 : Int32} {M : Mem} {K42 : Int64 → Int64 → Int32 → Mem → Prop} {Q : Int64 → Mem → Prop} {H : Heap} {locs : List Loc} {ls : Array Slot} (C : Cx p s m args c cX7_luck 10 RX7 g) (hr : meth.sig.returnType = (some .long)) (hk : meth.locks = false) (hK42 : ∀ (y5 : Int64) (y7 : Int64) (x9 : Int32) (M : Mem) (H : Heap) (locs : List Loc) (ls : Array Slot), K42 y5 y7 x9 M → Wd g layX 68 s.heap M H locs → lv_has ls 10 [(0, .ref (ga g 0)), (1, .int x1), (2, .int x2), (3, .int x3), (4, .int x4), (5, .long y5), (7, .long y7), (9, .int x9)] → W p l e (rmOf 4 89) s m args below meth c H locs 0 0 (MQ below (va_Ql Q (PostW g layX 68) (gF g)) args s 0 0 (gF g)) (F0 m 42 ls [])) (h : w_X7_luck_42 x1 x2 x3 x4 Q K42 y5 y7 x9 M) (w : Wd g layX 68 s.heap M H locs) (hl : lv_has ls 10 [(0, .ref (ga g 0)), (1, .int x1), (2, .int x2), (3, .int x3), (4, .int x4), (5, .long y5), (7, .long y7), (9, .int x9)]) : W p l e (rmOf 4 89) s m args below meth c H locs 0 0 (MQ below (va_Ql Q (PostW g layX 68) (gF g)) args s 0 0 (gF g)) (F0 m 42 ls []) := by
  unfold w_X7_luck_42 at h
  refine lv_iload C.1.1 C.1.2.1 dX7_luck_42 (lv_at hl 7 rfl) ?_
  refine lv_iload_n C.1.1 C.1.2.1 dX7_luck_44 rfl (lv_at hl 3 rfl) ?_
  refine lv_icmp_ge (tgt := 91) C.1.1 C.1.2.1 dX7_luck_45 (by decide) (fun hc7 => ?_) (fun hc7 => ?_)
  · replace h := h.1 hc7
    exact v_X7_luck_91 C hr hk   h w (lv_sub hl [4, 5, 6] rfl)
  · replace h := h.2 hc7
    refine lv_aload_n C.1.1 C.1.2.1 dX7_luck_48 rfl (lv_at hl 0 rfl) ?_
    refine gr_RX7_19 C w hx_0 lx_0 rfl dX7_luck_49 ?_
    refine gr_RX7_78 C w hx_11 lx_11 rfl dX7_luck_52 ?_
    refine lv_iload_n C.1.1 C.1.2.1 dX7_luck_55 rfl (lv_at hl 2 rfl) ?_
    refine q_pVi C w [.int x2] (c_X0_wouldBeCaught isE_12 h) kv_X0_wouldBeCaught k_74 (rcv C w kc_X0 hx_12 lx_12) rfl hl.1 (Nat.le_of_ble_eq_true rfl) ⟨Nat.le_of_ble_eq_true rfl, Nat.le_of_ble_eq_true rfl⟩ dX7_luck_56 (fun r9 H locs h w => ?_)
    have J : ∀ ls : Array Slot, lv_has ls 10 [(0, .ref (ga g 0)), (1, .int x1), (2, .int x2), (3, .int x3), (4, .int x4), (5, .long (if r9 = 0 then y5 else (y5 * (x1.toInt64)))), (7, .long (if r9 = 0 then y7 else (y7 * 10))), (9, .int x9)] → W p l e (rmOf 4 89) s m args below meth c H locs 0 0 (MQ below (va_Ql Q (PostW g layX 68) (gF g)) args s 0 0 (gF g)) (F0 m 77 ls []) := by
      intro ls hl
      refine lv_aload_n C.1.1 C.1.2.1 dX7_luck_77 rfl (lv_at hl 0 rfl) ?_
      refine gr_RX7_19 C w hx_0 lx_0 rfl dX7_luck_78 ?_
      refine lv_iconst (v := 1) C.1.1 C.1.2.1 dX7_luck_81 (by decide) ?_
      refine q_cVv C w [.int 1] (c_X6_passOne  h) kv_X6_passOne k_67 (rcv C w kc_X6 hx_11 lx_11) rfl hl.1 (Nat.le_of_ble_eq_true rfl) ⟨Nat.le_of_ble_eq_true rfl, Nat.le_of_ble_eq_true rfl⟩ dX7_luck_82 (fun M12 H locs h w => ?_)
      refine lv_iinc (v := x9 + 1) (lv' := [(9, .int (x9 + 1)), (0, .ref (ga g 0)), (1, .int x1), (2, .int x2), (3, .int x3), (4, .int x4), (5, .long (if r9 = 0 then y5 else (y5 * (x1.toInt64)))), (7, .long (if r9 = 0 then y7 else (y7 * 10)))]) C.1.1 C.1.2.1 dX7_luck_85 hl (k := 7) rfl rfl (by decide) rfl (fun ls hl => ?_)
      refine lv_goto (tgt := 42) C.1.1 C.1.2.1 dX7_luck_88 (by decide) ?_
      exact hK42 _ _ _ _ _ _ _ h w (lv_sub hl [1, 2, 3, 4, 5, 6, 7, 0] rfl)
    refine lv_if_eq (tgt := 77) C.1.1 C.1.2.1 dX7_luck_59 (by decide) (fun hc10 => ?_) (fun hc10 => ?_)
    · simp only [if_pos hc10] at J hl
      exact J ls (lv_sub hl [0, 1, 2, 3, 4, 5, 6, 7] rfl)
    · refine lv_lload C.1.1 C.1.2.1 dX7_luck_62 (lv_at hl 5 rfl) ?_
      refine lv_iload_n C.1.1 C.1.2.1 dX7_luck_64 rfl (lv_at hl 1 rfl) ?_
      refine lv_i2l C.1.1 C.1.2.1 dX7_luck_65 rfl ?_
      refine lv_lmul C.1.1 C.1.2.1 dX7_luck_66 ?_
      refine lv_lstore (lv' := [(5, .long (y5 * (x1.toInt64))), (0, .ref (ga g 0)), (1, .int x1), (2, .int x2), (3, .int x3), (4, .int x4), (7, .long y7), (9, .int x9)]) C.1.1 C.1.2.1 dX7_luck_67 hl (by decide) rfl (fun ls hl => ?_)
      refine lv_lload C.1.1 C.1.2.1 dX7_luck_69 (lv_at hl 6 rfl) ?_
      refine q_ldc2 C k_75 dX7_luck_71 ?_
      refine lv_lmul C.1.1 C.1.2.1 dX7_luck_74 ?_
      refine lv_lstore (lv' := [(7, .long (y7 * 10)), (5, .long (y5 * (x1.toInt64))), (0, .ref (ga g 0)), (1, .int x1), (2, .int x2), (3, .int x3), (4, .int x4), (9, .int x9)]) C.1.1 C.1.2.1 dX7_luck_75 hl (by decide) rfl (fun ls hl => ?_)
      simp only [if_neg hc10] at J hl
      exact J ls (lv_sub hl [2, 3, 4, 5, 6, 1, 0, 7] rfl)
set_option maxHeartbeats 4000000 in
set_option maxRecDepth 100000 in
theorem l_X7_luck_42 {x1 : Int32} {x2 : Int32} {x3 : Int32} {x4 : Int32} {Q : Int64 → Mem → Prop} (C : Cx p s m args c cX7_luck 10 RX7 g) (hr : meth.sig.returnType = (some .long)) (hk : meth.locks = false)  : ∀ (n : Nat) (y5 : Int64) (y7 : Int64) (x9 : Int32) (M : Mem) (H : Heap) (locs : List Loc) (ls : Array Slot), fu4 (w_X7_luck_42 x1 x2 x3 x4 Q) n y5 y7 x9 M → Wd g layX 68 s.heap M H locs → lv_has ls 10 [(0, .ref (ga g 0)), (1, .int x1), (2, .int x2), (3, .int x3), (4, .int x4), (5, .long y5), (7, .long y7), (9, .int x9)] → W p l e (rmOf 4 89) s m args below meth c H locs 0 0 (MQ below (va_Ql Q (PostW g layX 68) (gF g)) args s 0 0 (gF g)) (F0 m 42 ls []) := by
  intro n
  induction n with
  | zero => intro y5 y7 x9 M H locs ls h; exact h.elim
  | succ n ih => intro y5 y7 x9 M H locs ls h w hl; exact v_X7_luck_42 C hr hk   ih h w hl
set_option maxHeartbeats 4000000 in
set_option maxRecDepth 100000 in
theorem c_X7_luck {l : Launch} {g : Gt} {x1 : Int32} {x2 : Int32} {x3 : Int32} {x4 : Int32} {M : Mem} {Q : Int64 → Mem → Prop} (h : w_X7_luck x1 x2 x3 x4 M Q) : ML l yX7_luck cX7_luck 10 (some .long) 4 89 g layX 68 [.ref (ga g 0), .int x1, .int x2, .int x3, .int x4] M Q :=
  m_of (by decide +kernel) (Nat.le_of_ble_eq_true rfl) (fun p e s m args below meth c ls C hr hk w hl => by
    have C : Cx p s m args c cX7_luck 10 RX7 g := C
    have hl : lv_has ls 10 [(0, .ref (ga g 0)), (1, .int x1), (2, .int x2), (3, .int x3), (4, .int x4)] := hl
    unfold w_X7_luck at h
    obtain ⟨H, eH⟩ : ∃ H : Heap, H = s.heap := ⟨_, rfl⟩
    obtain ⟨locs, el⟩ : ∃ locs : List Loc, locs = [] := ⟨_, rfl⟩
    have w : Wd g layX 68 s.heap M H locs := by rw [eH, el]; exact w
    suffices hw : W p l e (rmOf 4 89) s m args below meth c H locs 0 0 (MQ below (va_Ql Q (PostW g layX 68) (gF g)) args s 0 0 (gF g)) (F0 m 0 ls []) by rw [eH, el] at hw; exact hw
    clear eH el
    refine lv_aload_n C.1.1 C.1.2.1 dX7_luck_0 rfl (lv_at hl 0 rfl) ?_
    refine lv_iload_n C.1.1 C.1.2.1 dX7_luck_1 rfl (lv_at hl 2 rfl) ?_
    refine q_pVi C w [.int x2] (c_X7_isNoTaker  h) kv_X7_isNoTaker k_56 (rcv C w kc_X7 hx_0 lx_0) rfl hl.1 (Nat.le_of_ble_eq_true rfl) ⟨Nat.le_of_ble_eq_true rfl, Nat.le_of_ble_eq_true rfl⟩ dX7_luck_2 (fun r1 H locs h w => ?_)
    refine lv_if_ne (tgt := 18) C.1.1 C.1.2.1 dX7_luck_5 (by decide) (fun hc2 => ?_) (fun hc2 => ?_)
    · replace h := h.2 hc2
      refine q_ldc2 C k_71 dX7_luck_18 ?_
      exact q_lret C hr hk w h dX7_luck_21
    · replace h := h.1 hc2
      refine lv_iload_n C.1.1 C.1.2.1 dX7_luck_8 rfl (lv_at hl 1 rfl) ?_
      refine lv_iload_n C.1.1 C.1.2.1 dX7_luck_9 rfl (lv_at hl 3 rfl) ?_
      refine lv_iload C.1.1 C.1.2.1 dX7_luck_10 (lv_at hl 4 rfl) ?_
      refine q_pSi C w [.int x1, .int x3, .int x4] (c_X7_isNoHaze  h) ks_X7_isNoHaze k_72  rfl hl.1 (Nat.le_of_ble_eq_true rfl) ⟨Nat.le_of_ble_eq_true rfl, Nat.le_of_ble_eq_true rfl⟩ dX7_luck_12 (fun r3 H locs h w => ?_)
      refine lv_if_eq (tgt := 22) C.1.1 C.1.2.1 dX7_luck_15 (by decide) (fun hc4 => ?_) (fun hc4 => ?_)
      · replace h := h.1 hc4
        refine lv_lconst (v := 1) C.1.1 C.1.2.1 dX7_luck_22 (by decide) ?_
        refine lv_lstore (lv' := [(5, .long 1), (0, .ref (ga g 0)), (1, .int x1), (2, .int x2), (3, .int x3), (4, .int x4)]) C.1.1 C.1.2.1 dX7_luck_23 hl (by decide) rfl (fun ls hl => ?_)
        refine lv_lconst (v := 1) C.1.1 C.1.2.1 dX7_luck_25 (by decide) ?_
        refine lv_lstore (lv' := [(7, .long 1), (5, .long 1), (0, .ref (ga g 0)), (1, .int x1), (2, .int x2), (3, .int x3), (4, .int x4)]) C.1.1 C.1.2.1 dX7_luck_26 hl (by decide) rfl (fun ls hl => ?_)
        refine lv_aload_n C.1.1 C.1.2.1 dX7_luck_28 rfl (lv_at hl 2 rfl) ?_
        refine gr_RX7_19 C w hx_0 lx_0 rfl dX7_luck_29 ?_
        refine lv_aload_n C.1.1 C.1.2.1 dX7_luck_32 rfl (lv_at hl 2 rfl) ?_
        refine gr_RX7_10 C w hx_0 lx_0 rfl dX7_luck_33 ?_
        refine q_cVv C w [.ref (ga g 1)] (c_X6_begin  h) kv_X6_begin k_64 (rcv C w kc_X6 hx_11 lx_11) rfl hl.1 (Nat.le_of_ble_eq_true rfl) ⟨Nat.le_of_ble_eq_true rfl, Nat.le_of_ble_eq_true rfl⟩ dX7_luck_36 (fun M6 H locs h w => ?_)
        refine lv_iconst (v := 0) C.1.1 C.1.2.1 dX7_luck_39 (by decide) ?_
        refine lv_istore (lv' := [(9, .int 0), (7, .long 1), (5, .long 1), (0, .ref (ga g 0)), (1, .int x1), (2, .int x2), (3, .int x3), (4, .int x4)]) C.1.1 C.1.2.1 dX7_luck_40 hl (by decide) rfl (fun ls hl => ?_)
        obtain ⟨n, h⟩ := h
        exact l_X7_luck_42 C hr hk   n _ _ _ _ _ _ _ h w (lv_sub hl [3, 4, 5, 6, 7, 2, 1, 0] rfl)
      · replace h := h.2 hc4
        refine q_ldc2 C k_71 dX7_luck_18 ?_
        exact q_lret C hr hk w h dX7_luck_21)
-- weightOf
set_option maxHeartbeats 4000000 in
set_option maxRecDepth 100000 in
theorem v_X7_weightOf_5 {x0 : Int32} {x1 : Int32} {x2 : Int32} {y3 : Int64} {x5 : Int32} {M : Mem} {K5 : Int64 → Int32 → Prop} {Q : Int64 → Prop} {H : Heap} {locs : List Loc} {ls : Array Slot} (C : Cx p s m args c cX7_weightOf 6 RX7 g) (hr : meth.sig.returnType = (some .long)) (hk : meth.locks = false) (hK5 : ∀ (y3 : Int64) (x5 : Int32) (H : Heap) (locs : List Loc) (ls : Array Slot), K5 y3 x5 → Wd g layX 68 s.heap M H locs → lv_has ls 6 [(0, .int x0), (1, .int x1), (2, .int x2), (3, .long y3), (5, .int x5)] → W p l e (rmOf 0 0) s m args below meth c H locs 0 0 (MQ below (va_Ql (fun r M9 => M9 = M ∧ Q r) (PostW g layX 68) (gF g)) args s 0 0 (gF g)) (F0 m 5 ls [])) (h : w_X7_weightOf_5 x0 x1 x2 M Q K5 y3 x5) (w : Wd g layX 68 s.heap M H locs) (hl : lv_has ls 6 [(0, .int x0), (1, .int x1), (2, .int x2), (3, .long y3), (5, .int x5)]) : W p l e (rmOf 0 0) s m args below meth c H locs 0 0 (MQ below (va_Ql (fun r M9 => M9 = M ∧ Q r) (PostW g layX 68) (gF g)) args s 0 0 (gF g)) (F0 m 5 ls []) := by
  unfold w_X7_weightOf_5 at h
  refine lv_iload C.1.1 C.1.2.1 dX7_weightOf_5 (lv_at hl 4 rfl) ?_
  refine lv_iload_n C.1.1 C.1.2.1 dX7_weightOf_7 rfl (lv_at hl 2 rfl) ?_
  refine lv_icmp_ge (tgt := 40) C.1.1 C.1.2.1 dX7_weightOf_8 (by decide) (fun hc1 => ?_) (fun hc1 => ?_)
  · replace h := h.1 hc1
    refine lv_lload_n C.1.1 C.1.2.1 dX7_weightOf_40 rfl (lv_at hl 3 rfl) ?_
    exact q_lret C hr hk w ⟨rfl, h⟩ dX7_weightOf_41
  · replace h := h.2 hc1
    refine lv_lload_n C.1.1 C.1.2.1 dX7_weightOf_11 rfl (lv_at hl 3 rfl) ?_
    refine lv_iload_n C.1.1 C.1.2.1 dX7_weightOf_12 rfl (lv_at hl 0 rfl) ?_
    refine lv_iload C.1.1 C.1.2.1 dX7_weightOf_13 (lv_at hl 4 rfl) ?_
    refine q_ishr C dX7_weightOf_15 ?_
    refine lv_iconst (v := 1) C.1.1 C.1.2.1 dX7_weightOf_16 (by decide) ?_
    refine lv_iand C.1.1 C.1.2.1 dX7_weightOf_17 ?_
    refine lv_iconst (v := 1) C.1.1 C.1.2.1 dX7_weightOf_18 (by decide) ?_
    have J : ∀ ls : Array Slot, lv_has ls 6 [(0, .int x0), (1, .int x1), (2, .int x2), (5, .int x5)] → W p l e (rmOf 0 0) s m args below meth c H locs 0 0 (MQ below (va_Ql (fun r M9 => M9 = M ∧ Q r) (PostW g layX 68) (gF g)) args s 0 0 (gF g)) (F0 m 32 ls [.long (if ((sr x0 x5) &&& 1) = 1 then (x1.toInt64) else ((10 - x1).toInt64)), .long y3]) := by
      intro ls hl
      refine lv_lmul C.1.1 C.1.2.1 dX7_weightOf_32 ?_
      refine lv_topl (fun v3 ev3 => ?_)
      replace h := h v3 ev3
      refine lv_lstore_n (lv' := [(3, .long v3), (0, .int x0), (1, .int x1), (2, .int x2), (5, .int x5)]) C.1.1 C.1.2.1 dX7_weightOf_33 rfl hl (by decide) rfl (fun ls hl => ?_)
      refine lv_iinc (v := x5 + 1) (lv' := [(5, .int (x5 + 1)), (3, .long v3), (0, .int x0), (1, .int x1), (2, .int x2)]) C.1.1 C.1.2.1 dX7_weightOf_34 hl (k := 4) rfl rfl (by decide) rfl (fun ls hl => ?_)
      refine lv_goto (tgt := 5) C.1.1 C.1.2.1 dX7_weightOf_37 (by decide) ?_
      exact hK5 _ _ _ _ _ h w (lv_sub hl [2, 3, 4, 1, 0] rfl)
    refine lv_icmp_ne (tgt := 27) C.1.1 C.1.2.1 dX7_weightOf_19 (by decide) (fun hc2 => ?_) (fun hc2 => ?_)
    · refine lv_bipush (v := 10) C.1.1 C.1.2.1 dX7_weightOf_27 (by decide) ?_
      refine lv_iload_n C.1.1 C.1.2.1 dX7_weightOf_29 rfl (lv_at hl 1 rfl) ?_
      refine lv_isub C.1.1 C.1.2.1 dX7_weightOf_30 ?_
      refine lv_i2l C.1.1 C.1.2.1 dX7_weightOf_31 rfl ?_
      simp only [if_neg hc2] at J hl
      exact J ls (lv_sub hl [0, 1, 2, 4] rfl)
    · refine lv_iload_n C.1.1 C.1.2.1 dX7_weightOf_22 rfl (lv_at hl 1 rfl) ?_
      refine lv_i2l C.1.1 C.1.2.1 dX7_weightOf_23 rfl ?_
      refine lv_goto (tgt := 32) C.1.1 C.1.2.1 dX7_weightOf_24 (by decide) ?_
      simp only [if_pos hc2] at J hl
      exact J ls (lv_sub hl [0, 1, 2, 4] rfl)
set_option maxHeartbeats 4000000 in
set_option maxRecDepth 100000 in
theorem l_X7_weightOf_5 {x0 : Int32} {x1 : Int32} {x2 : Int32} {M : Mem} {Q : Int64 → Prop} (C : Cx p s m args c cX7_weightOf 6 RX7 g) (hr : meth.sig.returnType = (some .long)) (hk : meth.locks = false)  : ∀ (n : Nat) (y3 : Int64) (x5 : Int32) (H : Heap) (locs : List Loc) (ls : Array Slot), fu2 (w_X7_weightOf_5 x0 x1 x2 M Q) n y3 x5 → Wd g layX 68 s.heap M H locs → lv_has ls 6 [(0, .int x0), (1, .int x1), (2, .int x2), (3, .long y3), (5, .int x5)] → W p l e (rmOf 0 0) s m args below meth c H locs 0 0 (MQ below (va_Ql (fun r M9 => M9 = M ∧ Q r) (PostW g layX 68) (gF g)) args s 0 0 (gF g)) (F0 m 5 ls []) := by
  intro n
  induction n with
  | zero => intro y3 x5 H locs ls h; exact h.elim
  | succ n ih => intro y3 x5 H locs ls h w hl; exact v_X7_weightOf_5 C hr hk   ih h w hl
set_option maxHeartbeats 4000000 in
set_option maxRecDepth 100000 in
theorem c_X7_weightOf {l : Launch} {g : Gt} {x0 : Int32} {x1 : Int32} {x2 : Int32} {M : Mem} {Q : Int64 → Prop} (h : w_X7_weightOf x0 x1 x2 M Q) : ML l yX7_weightOf cX7_weightOf 6 (some .long) 0 0 g layX 68 [.int x0, .int x1, .int x2] M (fun r M9 => M9 = M ∧ Q r) :=
  m_of (by decide +kernel) (Nat.le_of_ble_eq_true rfl) (fun p e s m args below meth c ls C hr hk w hl => by
    have C : Cx p s m args c cX7_weightOf 6 RX7 g := C
    have hl : lv_has ls 6 [(0, .int x0), (1, .int x1), (2, .int x2)] := hl
    unfold w_X7_weightOf at h
    obtain ⟨H, eH⟩ : ∃ H : Heap, H = s.heap := ⟨_, rfl⟩
    obtain ⟨locs, el⟩ : ∃ locs : List Loc, locs = [] := ⟨_, rfl⟩
    have w : Wd g layX 68 s.heap M H locs := by rw [eH, el]; exact w
    suffices hw : W p l e (rmOf 0 0) s m args below meth c H locs 0 0 (MQ below (va_Ql (fun r M9 => M9 = M ∧ Q r) (PostW g layX 68) (gF g)) args s 0 0 (gF g)) (F0 m 0 ls []) by rw [eH, el] at hw; exact hw
    clear eH el
    refine lv_lconst (v := 1) C.1.1 C.1.2.1 dX7_weightOf_0 (by decide) ?_
    refine lv_lstore_n (lv' := [(3, .long 1), (0, .int x0), (1, .int x1), (2, .int x2)]) C.1.1 C.1.2.1 dX7_weightOf_1 rfl hl (by decide) rfl (fun ls hl => ?_)
    refine lv_iconst (v := 0) C.1.1 C.1.2.1 dX7_weightOf_2 (by decide) ?_
    refine lv_istore (lv' := [(5, .int 0), (3, .long 1), (0, .int x0), (1, .int x1), (2, .int x2)]) C.1.1 C.1.2.1 dX7_weightOf_3 hl (by decide) rfl (fun ls hl => ?_)
    obtain ⟨n, h⟩ := h
    exact l_X7_weightOf_5 C hr hk   n _ _ _ _ _ h w (lv_sub hl [2, 3, 4, 1, 0] rfl))
-- takenInHazes
set_option maxHeartbeats 4000000 in
set_option maxRecDepth 100000 in
theorem v_X7_takenInHazes_45 {M : Mem} {Q : Int32 → Mem → Prop} {H : Heap} {locs : List Loc} {ls : Array Slot} (C : Cx p s m args c cX7_takenInHazes 4 RX7 g) (hr : meth.sig.returnType = (some .int)) (hk : meth.locks = false)  (h : w_X7_takenInHazes_45 M Q) (w : Wd g layX 68 s.heap M H locs) (hl : lv_has ls 4 [(0, .ref (ga g 0))]) : W p l e (rmOf 4 89) s m args below meth c H locs 0 0 (MQ below (va_Qi Q (PostW g layX 68) (gF g)) args s 0 0 (gF g)) (F0 m 45 ls []) := by
  unfold w_X7_takenInHazes_45 at h
  refine lv_aload_n C.1.1 C.1.2.1 dX7_takenInHazes_45 rfl (lv_at hl 0 rfl) ?_
  refine gr_RX7_19 C w hx_0 lx_0 rfl dX7_takenInHazes_46 ?_
  refine gi_RX7_197 C w hx_11 lx_11 rfl dX7_takenInHazes_49 ?_
  exact q_iret C hr hk w rfl h dX7_takenInHazes_52
set_option maxHeartbeats 4000000 in
set_option maxRecDepth 100000 in
theorem v_X7_takenInHazes_13 {x1 : Int32} {x2 : Int32} {x3 : Int32} {M : Mem} {K13 : Int32 → Mem → Prop} {Q : Int32 → Mem → Prop} {H : Heap} {locs : List Loc} {ls : Array Slot} (C : Cx p s m args c cX7_takenInHazes 4 RX7 g) (hr : meth.sig.returnType = (some .int)) (hk : meth.locks = false) (hK13 : ∀ (x3 : Int32) (M : Mem) (H : Heap) (locs : List Loc) (ls : Array Slot), K13 x3 M → Wd g layX 68 s.heap M H locs → lv_has ls 4 [(0, .ref (ga g 0)), (1, .int x1), (2, .int x2), (3, .int x3)] → W p l e (rmOf 4 89) s m args below meth c H locs 0 0 (MQ below (va_Qi Q (PostW g layX 68) (gF g)) args s 0 0 (gF g)) (F0 m 13 ls [])) (h : w_X7_takenInHazes_13 x1 x2 Q K13 x3 M) (w : Wd g layX 68 s.heap M H locs) (hl : lv_has ls 4 [(0, .ref (ga g 0)), (1, .int x1), (2, .int x2), (3, .int x3)]) : W p l e (rmOf 4 89) s m args below meth c H locs 0 0 (MQ below (va_Qi Q (PostW g layX 68) (gF g)) args s 0 0 (gF g)) (F0 m 13 ls []) := by
  unfold w_X7_takenInHazes_13 at h
  refine lv_iload_n C.1.1 C.1.2.1 dX7_takenInHazes_13 rfl (lv_at hl 3 rfl) ?_
  refine lv_iload_n C.1.1 C.1.2.1 dX7_takenInHazes_14 rfl (lv_at hl 2 rfl) ?_
  refine lv_icmp_ge (tgt := 45) C.1.1 C.1.2.1 dX7_takenInHazes_15 (by decide) (fun hc3 => ?_) (fun hc3 => ?_)
  · replace h := h.1 hc3
    exact v_X7_takenInHazes_45 C hr hk   h w (lv_sub hl [0] rfl)
  · replace h := h.2 hc3
    refine lv_aload_n C.1.1 C.1.2.1 dX7_takenInHazes_18 rfl (lv_at hl 0 rfl) ?_
    refine gr_RX7_19 C w hx_0 lx_0 rfl dX7_takenInHazes_19 ?_
    refine lv_iload_n C.1.1 C.1.2.1 dX7_takenInHazes_22 rfl (lv_at hl 1 rfl) ?_
    refine lv_iload_n C.1.1 C.1.2.1 dX7_takenInHazes_23 rfl (lv_at hl 3 rfl) ?_
    refine q_ishr C dX7_takenInHazes_24 ?_
    refine lv_iconst (v := 1) C.1.1 C.1.2.1 dX7_takenInHazes_25 (by decide) ?_
    refine lv_iand C.1.1 C.1.2.1 dX7_takenInHazes_26 ?_
    refine lv_iconst (v := 1) C.1.1 C.1.2.1 dX7_takenInHazes_27 (by decide) ?_
    have J : ∀ ls : Array Slot, lv_has ls 4 [(0, .ref (ga g 0)), (1, .int x1), (2, .int x2), (3, .int x3)] → W p l e (rmOf 4 89) s m args below meth c H locs 0 0 (MQ below (va_Qi Q (PostW g layX 68) (gF g)) args s 0 0 (gF g)) (F0 m 36 ls [.int (if ((sr x1 x3) &&& 1) = 1 then (1 : Int32) else 0), .ref (ga g 11)]) := by
      intro ls hl
      refine q_cVv C w [.int (if ((sr x1 x3) &&& 1) = 1 then (1 : Int32) else 0)] (c_X6_passOne  h) kv_X6_passOne k_67 (rcv C w kc_X6 hx_11 lx_11) rfl hl.1 (Nat.le_of_ble_eq_true rfl) ⟨Nat.le_of_ble_eq_true rfl, Nat.le_of_ble_eq_true rfl⟩ dX7_takenInHazes_36 (fun M6 H locs h w => ?_)
      refine lv_iinc (v := x3 + 1) (lv' := [(3, .int (x3 + 1)), (0, .ref (ga g 0)), (1, .int x1), (2, .int x2)]) C.1.1 C.1.2.1 dX7_takenInHazes_39 hl (k := 3) rfl rfl (by decide) rfl (fun ls hl => ?_)
      refine lv_goto (tgt := 13) C.1.1 C.1.2.1 dX7_takenInHazes_42 (by decide) ?_
      exact hK13 _ _ _ _ _ h w (lv_sub hl [1, 2, 3, 0] rfl)
    refine lv_icmp_ne (tgt := 35) C.1.1 C.1.2.1 dX7_takenInHazes_28 (by decide) (fun hc4 => ?_) (fun hc4 => ?_)
    · refine lv_iconst (v := 0) C.1.1 C.1.2.1 dX7_takenInHazes_35 (by decide) ?_
      simp only [if_neg hc4] at J hl
      exact J ls (lv_sub hl [0, 1, 2, 3] rfl)
    · refine lv_iconst (v := 1) C.1.1 C.1.2.1 dX7_takenInHazes_31 (by decide) ?_
      refine lv_goto (tgt := 36) C.1.1 C.1.2.1 dX7_takenInHazes_32 (by decide) ?_
      simp only [if_pos hc4] at J hl
      exact J ls (lv_sub hl [0, 1, 2, 3] rfl)
set_option maxHeartbeats 4000000 in
set_option maxRecDepth 100000 in
theorem l_X7_takenInHazes_13 {x1 : Int32} {x2 : Int32} {Q : Int32 → Mem → Prop} (C : Cx p s m args c cX7_takenInHazes 4 RX7 g) (hr : meth.sig.returnType = (some .int)) (hk : meth.locks = false)  : ∀ (n : Nat) (x3 : Int32) (M : Mem) (H : Heap) (locs : List Loc) (ls : Array Slot), fu2 (w_X7_takenInHazes_13 x1 x2 Q) n x3 M → Wd g layX 68 s.heap M H locs → lv_has ls 4 [(0, .ref (ga g 0)), (1, .int x1), (2, .int x2), (3, .int x3)] → W p l e (rmOf 4 89) s m args below meth c H locs 0 0 (MQ below (va_Qi Q (PostW g layX 68) (gF g)) args s 0 0 (gF g)) (F0 m 13 ls []) := by
  intro n
  induction n with
  | zero => intro x3 M H locs ls h; exact h.elim
  | succ n ih => intro x3 M H locs ls h w hl; exact v_X7_takenInHazes_13 C hr hk   ih h w hl
set_option maxHeartbeats 4000000 in
set_option maxRecDepth 100000 in
theorem c_X7_takenInHazes {l : Launch} {g : Gt} {x1 : Int32} {x2 : Int32} {M : Mem} {Q : Int32 → Mem → Prop} (h : w_X7_takenInHazes x1 x2 M Q) : MI l yX7_takenInHazes cX7_takenInHazes 4 (some .int) 4 89 g layX 68 [.ref (ga g 0), .int x1, .int x2] M Q :=
  m_of (by decide +kernel) (Nat.le_of_ble_eq_true rfl) (fun p e s m args below meth c ls C hr hk w hl => by
    have C : Cx p s m args c cX7_takenInHazes 4 RX7 g := C
    have hl : lv_has ls 4 [(0, .ref (ga g 0)), (1, .int x1), (2, .int x2)] := hl
    unfold w_X7_takenInHazes at h
    obtain ⟨H, eH⟩ : ∃ H : Heap, H = s.heap := ⟨_, rfl⟩
    obtain ⟨locs, el⟩ : ∃ locs : List Loc, locs = [] := ⟨_, rfl⟩
    have w : Wd g layX 68 s.heap M H locs := by rw [eH, el]; exact w
    suffices hw : W p l e (rmOf 4 89) s m args below meth c H locs 0 0 (MQ below (va_Qi Q (PostW g layX 68) (gF g)) args s 0 0 (gF g)) (F0 m 0 ls []) by rw [eH, el] at hw; exact hw
    clear eH el
    refine lv_aload_n C.1.1 C.1.2.1 dX7_takenInHazes_0 rfl (lv_at hl 0 rfl) ?_
    refine gr_RX7_19 C w hx_0 lx_0 rfl dX7_takenInHazes_1 ?_
    refine lv_aload_n C.1.1 C.1.2.1 dX7_takenInHazes_4 rfl (lv_at hl 0 rfl) ?_
    refine gr_RX7_10 C w hx_0 lx_0 rfl dX7_takenInHazes_5 ?_
    refine q_cVv C w [.ref (ga g 1)] (c_X6_begin  h) kv_X6_begin k_64 (rcv C w kc_X6 hx_11 lx_11) rfl hl.1 (Nat.le_of_ble_eq_true rfl) ⟨Nat.le_of_ble_eq_true rfl, Nat.le_of_ble_eq_true rfl⟩ dX7_takenInHazes_8 (fun M2 H locs h w => ?_)
    refine lv_iconst (v := 0) C.1.1 C.1.2.1 dX7_takenInHazes_11 (by decide) ?_
    refine lv_istore_n (lv' := [(3, .int 0), (0, .ref (ga g 0)), (1, .int x1), (2, .int x2)]) C.1.1 C.1.2.1 dX7_takenInHazes_12 rfl hl (by decide) rfl (fun ls hl => ?_)
    obtain ⟨n, h⟩ := h
    exact l_X7_takenInHazes_13 C hr hk   n _ _ _ _ _ h w (lv_sub hl [1, 2, 3, 0] rfl))
-- mean
set_option maxHeartbeats 4000000 in
set_option maxRecDepth 100000 in
theorem v_X7_mean_91 {x3 : Int32} {y4 : Int64} {y6 : Int64} {M : Mem} {Q : Int64 → Mem → Prop} {H : Heap} {locs : List Loc} {ls : Array Slot} (C : Cx p s m args c cX7_mean 11 RX7 g) (hr : meth.sig.returnType = (some .long)) (hk : meth.locks = false)  (h : w_X7_mean_91 x3 y4 y6 M Q) (w : Wd g layX 68 s.heap M H locs) (hl : lv_has ls 11 [(3, .int x3), (4, .long y4), (6, .long y6)]) : W p l e (rmOf 5 112) s m args below meth c H locs 0 0 (MQ below (va_Ql Q (PostW g layX 68) (gF g)) args s 0 0 (gF g)) (F0 m 91 ls []) := by
  unfold w_X7_mean_91 at h
  refine lv_lload C.1.1 C.1.2.1 dX7_mean_91 (lv_at hl 2 rfl) ?_
  refine lv_lload C.1.1 C.1.2.1 dX7_mean_93 (lv_at hl 1 rfl) ?_
  refine lv_iload_n C.1.1 C.1.2.1 dX7_mean_95 rfl (lv_at hl 0 rfl) ?_
  refine q_pSl C w [.long y6, .long y4, .int x3] (c_X7_partOfFraction  h) ks_X7_partOfFraction k_73  rfl hl.1 (Nat.le_of_ble_eq_true rfl) ⟨Nat.le_of_ble_eq_true rfl, Nat.le_of_ble_eq_true rfl⟩ dX7_mean_96 (fun r5 H locs h w => ?_)
  exact q_lret C hr hk w h dX7_mean_99
set_option maxHeartbeats 4000000 in
set_option maxRecDepth 100000 in
theorem v_X7_mean_85 {x1 : Int32} {x2 : Int32} {x3 : Int32} {y4 : Int64} {y6 : Int64} {x8 : Int32} {M : Mem} {K45 : Int64 → Int32 → Mem → Prop} {Q : Int64 → Mem → Prop} {H : Heap} {locs : List Loc} {ls : Array Slot} (C : Cx p s m args c cX7_mean 11 RX7 g) (hr : meth.sig.returnType = (some .long)) (hk : meth.locks = false) (hK45 : ∀ (y6 : Int64) (x8 : Int32) (M : Mem) (H : Heap) (locs : List Loc) (ls : Array Slot), K45 y6 x8 M → Wd g layX 68 s.heap M H locs → lv_has ls 11 [(0, .ref (ga g 0)), (1, .int x1), (2, .int x2), (3, .int x3), (4, .long y4), (6, .long y6), (8, .int x8)] → W p l e (rmOf 5 112) s m args below meth c H locs 0 0 (MQ below (va_Ql Q (PostW g layX 68) (gF g)) args s 0 0 (gF g)) (F0 m 45 ls [])) (h : w_X7_mean_85 x1 x2 x3 y4 y6 x8 M K45 Q) (w : Wd g layX 68 s.heap M H locs) (hl : lv_has ls 11 [(0, .ref (ga g 0)), (1, .int x1), (2, .int x2), (3, .int x3), (4, .long y4), (6, .long y6), (8, .int x8)]) : W p l e (rmOf 5 112) s m args below meth c H locs 0 0 (MQ below (va_Ql Q (PostW g layX 68) (gF g)) args s 0 0 (gF g)) (F0 m 85 ls []) := by
  unfold w_X7_mean_85 at h
  refine lv_iinc (v := x8 + 1) (lv' := [(8, .int (x8 + 1)), (0, .ref (ga g 0)), (1, .int x1), (2, .int x2), (3, .int x3), (4, .long y4), (6, .long y6)]) C.1.1 C.1.2.1 dX7_mean_85 hl (k := 6) rfl rfl (by decide) rfl (fun ls hl => ?_)
  refine lv_goto (tgt := 45) C.1.1 C.1.2.1 dX7_mean_88 (by decide) ?_
  exact hK45 _ _ _ _ _ _ h w (lv_sub hl [1, 2, 3, 4, 5, 6, 0] rfl)
set_option maxHeartbeats 4000000 in
set_option maxRecDepth 100000 in
theorem v_X7_mean_45 {x1 : Int32} {x2 : Int32} {x3 : Int32} {y4 : Int64} {y6 : Int64} {x8 : Int32} {M : Mem} {K45 : Int64 → Int32 → Mem → Prop} {Q : Int64 → Mem → Prop} {H : Heap} {locs : List Loc} {ls : Array Slot} (C : Cx p s m args c cX7_mean 11 RX7 g) (hr : meth.sig.returnType = (some .long)) (hk : meth.locks = false) (hK45 : ∀ (y6 : Int64) (x8 : Int32) (M : Mem) (H : Heap) (locs : List Loc) (ls : Array Slot), K45 y6 x8 M → Wd g layX 68 s.heap M H locs → lv_has ls 11 [(0, .ref (ga g 0)), (1, .int x1), (2, .int x2), (3, .int x3), (4, .long y4), (6, .long y6), (8, .int x8)] → W p l e (rmOf 5 112) s m args below meth c H locs 0 0 (MQ below (va_Ql Q (PostW g layX 68) (gF g)) args s 0 0 (gF g)) (F0 m 45 ls [])) (h : w_X7_mean_45 x1 x2 x3 y4 Q K45 y6 x8 M) (w : Wd g layX 68 s.heap M H locs) (hl : lv_has ls 11 [(0, .ref (ga g 0)), (1, .int x1), (2, .int x2), (3, .int x3), (4, .long y4), (6, .long y6), (8, .int x8)]) : W p l e (rmOf 5 112) s m args below meth c H locs 0 0 (MQ below (va_Ql Q (PostW g layX 68) (gF g)) args s 0 0 (gF g)) (F0 m 45 ls []) := by
  unfold w_X7_mean_45 at h
  refine lv_iload C.1.1 C.1.2.1 dX7_mean_45 (lv_at hl 6 rfl) ?_
  refine lv_iconst (v := 1) C.1.1 C.1.2.1 dX7_mean_47 (by decide) ?_
  refine lv_iload_n C.1.1 C.1.2.1 dX7_mean_48 rfl (lv_at hl 2 rfl) ?_
  refine q_ishl C dX7_mean_49 ?_
  refine lv_icmp_ge (tgt := 91) C.1.1 C.1.2.1 dX7_mean_50 (by decide) (fun hc4 => ?_) (fun hc4 => ?_)
  · replace h := h.1 hc4
    exact v_X7_mean_91 C hr hk   h w (lv_sub hl [3, 4, 5] rfl)
  · replace h := h.2 hc4
    refine lv_iload C.1.1 C.1.2.1 dX7_mean_53 (lv_at hl 6 rfl) ?_
    refine lv_iload_n C.1.1 C.1.2.1 dX7_mean_55 rfl (lv_at hl 1 rfl) ?_
    refine lv_iload_n C.1.1 C.1.2.1 dX7_mean_56 rfl (lv_at hl 2 rfl) ?_
    refine q_pSl C w [.int x8, .int x1, .int x2] (c_X7_weightOf  h) ks_X7_weightOf k_76  rfl hl.1 (Nat.le_of_ble_eq_true rfl) ⟨Nat.le_of_ble_eq_true rfl, Nat.le_of_ble_eq_true rfl⟩ dX7_mean_57 (fun r6 H locs h w => ?_)
    refine lv_lstore (lv' := [(9, .long r6), (0, .ref (ga g 0)), (1, .int x1), (2, .int x2), (3, .int x3), (4, .long y4), (6, .long y6), (8, .int x8)]) C.1.1 C.1.2.1 dX7_mean_60 hl (by decide) rfl (fun ls hl => ?_)
    refine lv_lload C.1.1 C.1.2.1 dX7_mean_62 (lv_at hl 0 rfl) ?_
    refine lv_lconst (v := 0) C.1.1 C.1.2.1 dX7_mean_64 (by decide) ?_
    refine W.lcmp C.1.1 C.1.2.1 dX7_mean_65 ?_
    refine lv_if_le (tgt := 85) C.1.1 C.1.2.1 dX7_mean_66 (by decide) (fun hc7 => ?_) (fun hc7 => ?_)
    · replace h := h.1 hc7
      exact v_X7_mean_85 C hr hk  hK45 h w (lv_sub hl [1, 2, 3, 4, 5, 6, 7] rfl)
    · replace h := h.2 hc7
      refine lv_lload C.1.1 C.1.2.1 dX7_mean_69 (lv_at hl 6 rfl) ?_
      refine lv_lload C.1.1 C.1.2.1 dX7_mean_71 (lv_at hl 0 rfl) ?_
      refine lv_aload_n C.1.1 C.1.2.1 dX7_mean_73 rfl (lv_at hl 1 rfl) ?_
      refine lv_iload C.1.1 C.1.2.1 dX7_mean_74 (lv_at hl 7 rfl) ?_
      refine lv_iload_n C.1.1 C.1.2.1 dX7_mean_76 rfl (lv_at hl 3 rfl) ?_
      refine q_cVi C w [.int x8, .int x2] (c_X7_takenInHazes  h) kv_X7_takenInHazes k_77 (rcv C w kc_X7 hx_0 lx_0) rfl hl.1 (Nat.le_of_ble_eq_true rfl) ⟨Nat.le_of_ble_eq_true rfl, Nat.le_of_ble_eq_true rfl⟩ dX7_mean_77 (fun r8 M9 H locs h w => ?_)
      refine lv_i2l C.1.1 C.1.2.1 dX7_mean_80 rfl ?_
      refine lv_lmul C.1.1 C.1.2.1 dX7_mean_81 ?_
      refine lv_ladd C.1.1 C.1.2.1 dX7_mean_82 ?_
      refine lv_lstore (lv' := [(6, .long (y6 + (r6 * (r8.toInt64)))), (9, .long r6), (0, .ref (ga g 0)), (1, .int x1), (2, .int x2), (3, .int x3), (4, .long y4), (8, .int x8)]) C.1.1 C.1.2.1 dX7_mean_83 hl (by decide) rfl (fun ls hl => ?_)
      exact v_X7_mean_85 C hr hk  hK45 h w (lv_sub hl [2, 3, 4, 5, 6, 0, 7] rfl)
set_option maxHeartbeats 4000000 in
set_option maxRecDepth 100000 in
theorem l_X7_mean_45 {x1 : Int32} {x2 : Int32} {x3 : Int32} {y4 : Int64} {Q : Int64 → Mem → Prop} (C : Cx p s m args c cX7_mean 11 RX7 g) (hr : meth.sig.returnType = (some .long)) (hk : meth.locks = false)  : ∀ (n : Nat) (y6 : Int64) (x8 : Int32) (M : Mem) (H : Heap) (locs : List Loc) (ls : Array Slot), fu3 (w_X7_mean_45 x1 x2 x3 y4 Q) n y6 x8 M → Wd g layX 68 s.heap M H locs → lv_has ls 11 [(0, .ref (ga g 0)), (1, .int x1), (2, .int x2), (3, .int x3), (4, .long y4), (6, .long y6), (8, .int x8)] → W p l e (rmOf 5 112) s m args below meth c H locs 0 0 (MQ below (va_Ql Q (PostW g layX 68) (gF g)) args s 0 0 (gF g)) (F0 m 45 ls []) := by
  intro n
  induction n with
  | zero => intro y6 x8 M H locs ls h; exact h.elim
  | succ n ih => intro y6 x8 M H locs ls h w hl; exact v_X7_mean_45 C hr hk   ih h w hl
set_option maxHeartbeats 4000000 in
set_option maxRecDepth 100000 in
theorem v_X7_mean_39 {x1 : Int32} {x2 : Int32} {x3 : Int32} {y4 : Int64} {M : Mem} {Q : Int64 → Mem → Prop} {H : Heap} {locs : List Loc} {ls : Array Slot} (C : Cx p s m args c cX7_mean 11 RX7 g) (hr : meth.sig.returnType = (some .long)) (hk : meth.locks = false)  (h : w_X7_mean_39 x1 x2 x3 y4 M Q) (w : Wd g layX 68 s.heap M H locs) (hl : lv_has ls 11 [(0, .ref (ga g 0)), (1, .int x1), (2, .int x2), (3, .int x3), (4, .long y4)]) : W p l e (rmOf 5 112) s m args below meth c H locs 0 0 (MQ below (va_Ql Q (PostW g layX 68) (gF g)) args s 0 0 (gF g)) (F0 m 39 ls []) := by
  unfold w_X7_mean_39 at h
  refine lv_lconst (v := 0) C.1.1 C.1.2.1 dX7_mean_39 (by decide) ?_
  refine lv_lstore (lv' := [(6, .long 0), (0, .ref (ga g 0)), (1, .int x1), (2, .int x2), (3, .int x3), (4, .long y4)]) C.1.1 C.1.2.1 dX7_mean_40 hl (by decide) rfl (fun ls hl => ?_)
  refine lv_iconst (v := 0) C.1.1 C.1.2.1 dX7_mean_42 (by decide) ?_
  refine lv_istore (lv' := [(8, .int 0), (6, .long 0), (0, .ref (ga g 0)), (1, .int x1), (2, .int x2), (3, .int x3), (4, .long y4)]) C.1.1 C.1.2.1 dX7_mean_43 hl (by decide) rfl (fun ls hl => ?_)
  obtain ⟨n, h⟩ := h
  exact l_X7_mean_45 C hr hk   n _ _ _ _ _ _ h w (lv_sub hl [2, 3, 4, 5, 6, 1, 0] rfl)
set_option maxHeartbeats 4000000 in
set_option maxRecDepth 100000 in
theorem v_X7_mean_19 {x1 : Int32} {x2 : Int32} {x3 : Int32} {y4 : Int64} {x6 : Int32} {M : Mem} {K19 : Int64 → Int32 → Prop} {Q : Int64 → Mem → Prop} {H : Heap} {locs : List Loc} {ls : Array Slot} (C : Cx p s m args c cX7_mean 11 RX7 g) (hr : meth.sig.returnType = (some .long)) (hk : meth.locks = false) (hK19 : ∀ (y4 : Int64) (x6 : Int32) (H : Heap) (locs : List Loc) (ls : Array Slot), K19 y4 x6 → Wd g layX 68 s.heap M H locs → lv_has ls 11 [(0, .ref (ga g 0)), (1, .int x1), (2, .int x2), (3, .int x3), (4, .long y4), (6, .int x6)] → W p l e (rmOf 5 112) s m args below meth c H locs 0 0 (MQ below (va_Ql Q (PostW g layX 68) (gF g)) args s 0 0 (gF g)) (F0 m 19 ls [])) (h : w_X7_mean_19 x1 x2 x3 M Q K19 y4 x6) (w : Wd g layX 68 s.heap M H locs) (hl : lv_has ls 11 [(0, .ref (ga g 0)), (1, .int x1), (2, .int x2), (3, .int x3), (4, .long y4), (6, .int x6)]) : W p l e (rmOf 5 112) s m args below meth c H locs 0 0 (MQ below (va_Ql Q (PostW g layX 68) (gF g)) args s 0 0 (gF g)) (F0 m 19 ls []) := by
  unfold w_X7_mean_19 at h
  refine lv_iload C.1.1 C.1.2.1 dX7_mean_19 (lv_at hl 5 rfl) ?_
  refine lv_iload_n C.1.1 C.1.2.1 dX7_mean_21 rfl (lv_at hl 2 rfl) ?_
  refine lv_icmp_ge (tgt := 39) C.1.1 C.1.2.1 dX7_mean_22 (by decide) (fun hc3 => ?_) (fun hc3 => ?_)
  · replace h := h.1 hc3
    exact v_X7_mean_39 C hr hk   h w (lv_sub hl [0, 1, 2, 3, 4] rfl)
  · replace h := h.2 hc3
    refine lv_lload C.1.1 C.1.2.1 dX7_mean_25 (lv_at hl 4 rfl) ?_
    refine q_ldc2 C k_75 dX7_mean_27 ?_
    refine lv_lmul C.1.1 C.1.2.1 dX7_mean_30 ?_
    refine lv_lstore (lv' := [(4, .long (y4 * 10)), (0, .ref (ga g 0)), (1, .int x1), (2, .int x2), (3, .int x3), (6, .int x6)]) C.1.1 C.1.2.1 dX7_mean_31 hl (by decide) rfl (fun ls hl => ?_)
    refine lv_iinc (v := x6 + 1) (lv' := [(6, .int (x6 + 1)), (4, .long (y4 * 10)), (0, .ref (ga g 0)), (1, .int x1), (2, .int x2), (3, .int x3)]) C.1.1 C.1.2.1 dX7_mean_33 hl (k := 5) rfl rfl (by decide) rfl (fun ls hl => ?_)
    refine lv_goto (tgt := 19) C.1.1 C.1.2.1 dX7_mean_36 (by decide) ?_
    exact hK19 _ _ _ _ _ h w (lv_sub hl [2, 3, 4, 5, 1, 0] rfl)
set_option maxHeartbeats 4000000 in
set_option maxRecDepth 100000 in
theorem l_X7_mean_19 {x1 : Int32} {x2 : Int32} {x3 : Int32} {M : Mem} {Q : Int64 → Mem → Prop} (C : Cx p s m args c cX7_mean 11 RX7 g) (hr : meth.sig.returnType = (some .long)) (hk : meth.locks = false)  : ∀ (n : Nat) (y4 : Int64) (x6 : Int32) (H : Heap) (locs : List Loc) (ls : Array Slot), fu2 (w_X7_mean_19 x1 x2 x3 M Q) n y4 x6 → Wd g layX 68 s.heap M H locs → lv_has ls 11 [(0, .ref (ga g 0)), (1, .int x1), (2, .int x2), (3, .int x3), (4, .long y4), (6, .int x6)] → W p l e (rmOf 5 112) s m args below meth c H locs 0 0 (MQ below (va_Ql Q (PostW g layX 68) (gF g)) args s 0 0 (gF g)) (F0 m 19 ls []) := by
  intro n
  induction n with
  | zero => intro y4 x6 H locs ls h; exact h.elim
  | succ n ih => intro y4 x6 H locs ls h w hl; exact v_X7_mean_19 C hr hk   ih h w hl
set_option maxHeartbeats 4000000 in
set_option maxRecDepth 100000 in
theorem c_X7_mean {l : Launch} {g : Gt} {x1 : Int32} {x2 : Int32} {x3 : Int32} {M : Mem} {Q : Int64 → Mem → Prop} (h : w_X7_mean x1 x2 x3 M Q) : ML l yX7_mean cX7_mean 11 (some .long) 5 112 g layX 68 [.ref (ga g 0), .int x1, .int x2, .int x3] M Q :=
  m_of (by decide +kernel) (Nat.le_of_ble_eq_true rfl) (fun p e s m args below meth c ls C hr hk w hl => by
    have C : Cx p s m args c cX7_mean 11 RX7 g := C
    have hl : lv_has ls 11 [(0, .ref (ga g 0)), (1, .int x1), (2, .int x2), (3, .int x3)] := hl
    unfold w_X7_mean at h
    obtain ⟨H, eH⟩ : ∃ H : Heap, H = s.heap := ⟨_, rfl⟩
    obtain ⟨locs, el⟩ : ∃ locs : List Loc, locs = [] := ⟨_, rfl⟩
    have w : Wd g layX 68 s.heap M H locs := by rw [eH, el]; exact w
    suffices hw : W p l e (rmOf 5 112) s m args below meth c H locs 0 0 (MQ below (va_Ql Q (PostW g layX 68) (gF g)) args s 0 0 (gF g)) (F0 m 0 ls []) by rw [eH, el] at hw; exact hw
    clear eH el
    refine lv_iload_n C.1.1 C.1.2.1 dX7_mean_0 rfl (lv_at hl 1 rfl) ?_
    refine lv_iload_n C.1.1 C.1.2.1 dX7_mean_1 rfl (lv_at hl 2 rfl) ?_
    refine lv_iload_n C.1.1 C.1.2.1 dX7_mean_2 rfl (lv_at hl 3 rfl) ?_
    refine q_pSi C w [.int x1, .int x2, .int x3] (c_X7_isNoHaze  h) ks_X7_isNoHaze k_72  rfl hl.1 (Nat.le_of_ble_eq_true rfl) ⟨Nat.le_of_ble_eq_true rfl, Nat.le_of_ble_eq_true rfl⟩ dX7_mean_3 (fun r1 H locs h w => ?_)
    refine lv_if_eq (tgt := 13) C.1.1 C.1.2.1 dX7_mean_6 (by decide) (fun hc2 => ?_) (fun hc2 => ?_)
    · replace h := h.1 hc2
      refine lv_lconst (v := 1) C.1.1 C.1.2.1 dX7_mean_13 (by decide) ?_
      refine lv_lstore (lv' := [(4, .long 1), (0, .ref (ga g 0)), (1, .int x1), (2, .int x2), (3, .int x3)]) C.1.1 C.1.2.1 dX7_mean_14 hl (by decide) rfl (fun ls hl => ?_)
      refine lv_iconst (v := 0) C.1.1 C.1.2.1 dX7_mean_16 (by decide) ?_
      refine lv_istore (lv' := [(6, .int 0), (4, .long 1), (0, .ref (ga g 0)), (1, .int x1), (2, .int x2), (3, .int x3)]) C.1.1 C.1.2.1 dX7_mean_17 hl (by decide) rfl (fun ls hl => ?_)
      obtain ⟨n, h⟩ := h
      exact l_X7_mean_19 C hr hk   n _ _ _ _ _ h w (lv_sub hl [2, 3, 4, 5, 1, 0] rfl)
    · replace h := h.2 hc2
      refine q_ldc2 C k_71 dX7_mean_9 ?_
      exact q_lret C hr hk w h dX7_mean_12)
end
