-- glow
def w_X8_glow (x1 : Int32) (x2 : Int32) (M : Mem) (Q : Int32 → Mem → Prop) : Prop :=
  w_X8_isGate x1 M (fun r1 => (r1 = 0 → Q (-1) M) ∧ (¬ r1 = 0 → w_X8_in (x2.toInt64) 0 60 M (fun r3 => (r3 = 0 → Q (-1) M) ∧ (¬ r3 = 0 → w_X8_nightsGo 0 x2 M (fun r5 M6 => vp_in (176 + x1) 264 ∧ Q ((M6 1 (176 + x1).toNatClampNeg) + 30) M6)))))
-- caught
def w_X8_caught_24 (x1 : Int32) (Q : Int32 → Mem → Prop) (K24 : Int32 → Mem → Prop) (x2 : Int32) (M : Mem) : Prop :=
  (60 < x2 → Q (-4) M) ∧ (¬ 60 < x2 → w_X8_nightOn 176 0 M (fun M9 => (((sr (M9 0 17) x1) &&& 1) = 1 → Q x2 M9) ∧ (¬ ((sr (M9 0 17) x1) &&& 1) = 1 → K24 (x2 + 1) M9)))
def w_X8_caught (x1 : Int32) (M : Mem) (Q : Int32 → Mem → Prop) : Prop :=
  w_X8_isTaker x1 M (fun r1 => (r1 = 0 → Q (-1) M) ∧ (¬ r1 = 0 → w_X8_copies 0 176 M (fun M4 => w_X8_startCounts M4 (fun M6 => ∃ n, fu2 (w_X8_caught_24 x1 Q) n 1 M6))))
-- best
def w_X8_best_127 (x3 : Int32) (x4 : Int32) (x5 : Int32) (M : Mem) (Q : Int32 → Mem → Prop) : Prop :=
  Q (if x3 = 0 then x5 else x4) M
def w_X8_best_41 (x1 : Int32) (x2 : Int32) (x3 : Int32) (Q : Int32 → Mem → Prop) (K41 : Int32 → Int32 → Int32 → Mem → Prop) (x4 : Int32) (x5 : Int32) (x6 : Int32) (M : Mem) : Prop :=
  (6 ≤ x6 → w_X8_best_127 x3 x4 x5 M Q) ∧ (¬ 6 ≤ x6 → w_X8_copies 0 220 M (fun M10 => vp_in (237 + x1) 264 ∧ ∀ M11, M11 = mu M10 1 (237 + x1).toNatClampNeg x6 → w_X8_nightsGo 220 x2 M11 (fun r12 M13 => vp_in (198 + x1) 264 ∧ ∀ v16 : Int32, v16 = (if (M13 1 (198 + x1).toNatClampNeg) ≤ x4 then x4 else (M13 1 (198 + x1).toNatClampNeg)) → K41 v16 (if (M13 1 (198 + x1).toNatClampNeg) ≤ x4 then x5 else x6) (x6 + 1) M13)))
def w_X8_best (x1 : Int32) (x2 : Int32) (x3 : Int32) (M : Mem) (Q : Int32 → Mem → Prop) : Prop :=
  w_X8_isTaker x1 M (fun r1 => (r1 = 0 → Q (-1) M) ∧ (¬ r1 = 0 → w_X8_in (x2.toInt64) 0 60 M (fun r3 => (r3 = 0 → Q (-1) M) ∧ (¬ r3 = 0 → w_X8_in (x3.toInt64) 0 1 M (fun r5 => (r5 = 0 → Q (-1) M) ∧ (¬ r5 = 0 → ∃ n, fu4 (w_X8_best_41 x1 x2 x3 Q) n (-1) 0 0 M))))))
-- ripen
def w_X8_ripen_127 (x3 : Int32) (x4 : Int32) (x5 : Int32) (M : Mem) (Q : Int32 → Mem → Prop) : Prop :=
  Q (if x3 = 0 then x5 else x4) M
def w_X8_ripen_41 (x1 : Int32) (x2 : Int32) (x3 : Int32) (Q : Int32 → Mem → Prop) (K41 : Int32 → Int32 → Int32 → Mem → Prop) (x4 : Int32) (x5 : Int32) (x6 : Int32) (M : Mem) : Prop :=
  (20 < x6 → w_X8_ripen_127 x3 x4 x5 M Q) ∧ (¬ 20 < x6 → w_X8_copies 0 220 M (fun M10 => vp_in (247 + x1) 264 ∧ ∀ M11, M11 = mu M10 1 (247 + x1).toNatClampNeg x6 → w_X8_nightsGo 220 x2 M11 (fun r12 M13 => vp_in (198 + x1) 264 ∧ ∀ v16 : Int32, v16 = (if (M13 1 (198 + x1).toNatClampNeg) ≤ x4 then x4 else (M13 1 (198 + x1).toNatClampNeg)) → K41 v16 (if (M13 1 (198 + x1).toNatClampNeg) ≤ x4 then x5 else x6) (x6 + 1) M13)))
def w_X8_ripen (x1 : Int32) (x2 : Int32) (x3 : Int32) (M : Mem) (Q : Int32 → Mem → Prop) : Prop :=
  w_X8_isTaker x1 M (fun r1 => (r1 = 0 → Q (-1) M) ∧ (¬ r1 = 0 → w_X8_in (x2.toInt64) 0 60 M (fun r3 => (r3 = 0 → Q (-1) M) ∧ (¬ r3 = 0 → w_X8_in (x3.toInt64) 0 1 M (fun r5 => (r5 = 0 → Q (-1) M) ∧ (¬ r5 = 0 → ∃ n, fu4 (w_X8_ripen_41 x1 x2 x3 Q) n (-1) 0 0 M))))))
-- swap
def w_X8_swap_168 (x2 : Int32) (x3 : Int32) (x4 : Int32) (M : Mem) (Q : Int32 → Mem → Prop) : Prop :=
  Q (if x4 = (-4) then x4 else (if x2 = 0 then x4 else x3)) M
def w_X8_swap_162 (x1 : Int32) (x2 : Int32) (x3 : Int32) (x4 : Int32) (x5 : Int32) (M : Mem) (K38 : Int32 → Int32 → Int32 → Mem → Prop) (Q : Int32 → Mem → Prop) : Prop :=
  K38 x3 x4 (x5 + 1) M
def w_X8_swap_53 (x1 : Int32) (x2 : Int32) (x5 : Int32) (K38 : Int32 → Int32 → Int32 → Mem → Prop) (Q : Int32 → Mem → Prop) (K53 : Int32 → Int32 → Int32 → Mem → Prop) (x3 : Int32) (x4 : Int32) (x6 : Int32) (M : Mem) : Prop :=
  ((M 0 1) ≤ x6 → w_X8_swap_162 x1 x2 x3 x4 x5 M K38 Q) ∧ (¬ (M 0 1) ≤ x6 → w_X8_copies 0 220 M (fun M12 => vp_in (17 + x6) 264 ∧ vp_in (237 + x5) 264 ∧ ∀ M13, M13 = mu M12 1 (237 + x5).toNatClampNeg (M12 1 (17 + x6).toNatClampNeg) → vp_in (17 + x5) 264 ∧ vp_in (237 + x6) 264 ∧ ∀ M14, M14 = mu M13 1 (237 + x6).toNatClampNeg (M13 1 (17 + x5).toNatClampNeg) → w_X8_nightsGo 220 x1 M14 (fun r15 M16 => K53 (if r15 ≤ x3 then x3 else r15) (if r15 ≤ x3 then x4 else ((10 * x5) + x6)) (x6 + 1) M16)))
def w_X8_swap_38 (x1 : Int32) (x2 : Int32) (Q : Int32 → Mem → Prop) (K38 : Int32 → Int32 → Int32 → Mem → Prop) (x3 : Int32) (x4 : Int32) (x5 : Int32) (M : Mem) : Prop :=
  ((M 0 1) ≤ x5 → w_X8_swap_168 x2 x3 x4 M Q) ∧ (¬ (M 0 1) ≤ x5 → ∃ n, fu4 (w_X8_swap_53 x1 x2 x5 K38 Q) n x3 x4 (x5 + 1) M)
def w_X8_swap (x1 : Int32) (x2 : Int32) (M : Mem) (Q : Int32 → Mem → Prop) : Prop :=
  w_X8_in (x1.toInt64) 0 60 M (fun r1 => (r1 = 0 → Q (-1) M) ∧ (¬ r1 = 0 → w_X8_in (x2.toInt64) 0 1 M (fun r3 => (r3 = 0 → Q (-1) M) ∧ (¬ r3 = 0 → w_X8_nightsGo 0 x1 M (fun r5 M6 => ∃ n, fu4 (w_X8_swap_38 x1 x2 Q) n r5 (-4) 0 M6)))))
-- round
def w_X8_round_151 (x3 : Int32) (x4 : Int32) (x5 : Int32) (M : Mem) (Q : Int32 → Mem → Prop) : Prop :=
  Q (if x3 = 0 then x5 else x4) M
def w_X8_round_123 (x1 : Int32) (x2 : Int32) (x3 : Int32) (x4 : Int32) (x6 : Int32) (t0 : Int32) (M : Mem) (K41 : Int32 → Int32 → Int32 → Mem → Prop) (Q : Int32 → Mem → Prop) : Prop :=
  K41 (if (M 0 18) ≤ x4 then x4 else (M 0 18)) t0 (x6 + 1) M
def w_X8_round_41 (x1 : Int32) (x2 : Int32) (x3 : Int32) (Q : Int32 → Mem → Prop) (K41 : Int32 → Int32 → Int32 → Mem → Prop) (x4 : Int32) (x5 : Int32) (x6 : Int32) (M : Mem) : Prop :=
  (36 ≤ x6 → w_X8_round_151 x3 x4 x5 M Q) ∧ (¬ 36 ≤ x6 → w_X8_copies 0 220 M (fun M10 => vp_in (252 + x1) 264 ∧ ∀ M11, M11 = mu M10 1 (252 + x1).toNatClampNeg (x6 / 6) → vp_in (255 + x1) 264 ∧ ∀ M12, M12 = mu M11 1 (255 + x1).toNatClampNeg (irm x6 6) → w_X8_nightsGo 220 x2 M12 (fun r13 M14 => ((M14 0 18) ≤ x4 → w_X8_round_123 x1 x2 x3 x4 x6 x5 M14 K41 Q) ∧ (¬ (M14 0 18) ≤ x4 → w_X8_round_123 x1 x2 x3 x4 x6 ((10 * (x6 / 6)) + (irm x6 6)) M14 K41 Q))))
def w_X8_round (x1 : Int32) (x2 : Int32) (x3 : Int32) (M : Mem) (Q : Int32 → Mem → Prop) : Prop :=
  w_X8_isKeeper x1 M (fun r1 => (r1 = 0 → Q (-1) M) ∧ (¬ r1 = 0 → w_X8_in (x2.toInt64) 0 60 M (fun r3 => (r3 = 0 → Q (-1) M) ∧ (¬ r3 = 0 → w_X8_in (x3.toInt64) 0 1 M (fun r5 => (r5 = 0 → Q (-1) M) ∧ (¬ r5 = 0 → ∃ n, fu4 (w_X8_round_41 x1 x2 x3 Q) n (-1) 0 0 M))))))
-- post
def w_X8_post_134 (x3 : Int32) (x4 : Int32) (x5 : Int32) (M : Mem) (Q : Int32 → Mem → Prop) : Prop :=
  Q (if x3 = 0 then x5 else x4) M
def w_X8_post_60 (x1 : Int32) (x2 : Int32) (x3 : Int32) (Q : Int32 → Mem → Prop) (K60 : Int32 → Int32 → Int32 → Mem → Prop) (x4 : Int32) (x5 : Int32) (x6 : Int32) (M : Mem) : Prop :=
  (6 ≤ x6 → w_X8_post_134 x3 x4 x5 M Q) ∧ (¬ 6 ≤ x6 → w_X8_copies 0 220 M (fun M11 => w_X8_hiresOn 220 x6 0 x1 M11 (fun M13 => w_X8_nightsGo 220 x2 M13 (fun r14 M15 => K60 (if x4 ≤ r14 then x4 else r14) (if x4 ≤ r14 then x5 else x6) (x6 + 1) M15))))
def w_X8_post (x1 : Int32) (x2 : Int32) (x3 : Int32) (M : Mem) (Q : Int32 → Mem → Prop) : Prop :=
  w_X8_in (x1.toInt64) 1 9 M (fun r1 => (r1 = 0 → Q (-1) M) ∧ (¬ r1 = 0 → w_X8_in (x2.toInt64) 0 60 M (fun r3 => (r3 = 0 → Q (-1) M) ∧ (¬ r3 = 0 → w_X8_in (x3.toInt64) 0 1 M (fun r5 => (r5 = 0 → Q (-1) M) ∧ (¬ r5 = 0 → vp_in 41 264 ∧ ((M 1 (41 : Int32).toNatClampNeg) = 3 → Q (-3) M) ∧ (¬ (M 1 (41 : Int32).toNatClampNeg) = 3 → ∃ n, fu4 (w_X8_post_60 x1 x2 x3 Q) n 1000000 0 0 M)))))))
-- kind
def w_X8_kind_126 (x3 : Int32) (x4 : Int32) (x5 : Int32) (M : Mem) (Q : Int32 → Mem → Prop) : Prop :=
  Q (if x3 = 0 then x5 else x4) M
def w_X8_kind_41 (x1 : Int32) (x2 : Int32) (x3 : Int32) (Q : Int32 → Mem → Prop) (K41 : Int32 → Int32 → Int32 → Mem → Prop) (x4 : Int32) (x5 : Int32) (x6 : Int32) (M : Mem) : Prop :=
  (4 ≤ x6 → w_X8_kind_126 x3 x4 x5 M Q) ∧ (¬ 4 ≤ x6 → w_X8_copies 0 220 M (fun M10 => vp_in (232 + x1) 264 ∧ ∀ M11, M11 = mu M10 1 (232 + x1).toNatClampNeg x6 → w_X8_nightsGo 220 x2 M11 (fun r12 M13 => vp_in (198 + x1) 264 ∧ ∀ v16 : Int32, v16 = (if (M13 1 (198 + x1).toNatClampNeg) ≤ x4 then x4 else (M13 1 (198 + x1).toNatClampNeg)) → K41 v16 (if (M13 1 (198 + x1).toNatClampNeg) ≤ x4 then x5 else x6) (x6 + 1) M13)))
def w_X8_kind (x1 : Int32) (x2 : Int32) (x3 : Int32) (M : Mem) (Q : Int32 → Mem → Prop) : Prop :=
  w_X8_isTaker x1 M (fun r1 => (r1 = 0 → Q (-1) M) ∧ (¬ r1 = 0 → w_X8_in (x2.toInt64) 0 60 M (fun r3 => (r3 = 0 → Q (-1) M) ∧ (¬ r3 = 0 → w_X8_in (x3.toInt64) 0 1 M (fun r5 => (r5 = 0 → Q (-1) M) ∧ (¬ r5 = 0 → ∃ n, fu4 (w_X8_kind_41 x1 x2 x3 Q) n (-1) 0 0 M))))))
-- sharp
def w_X8_sharp_34 (x1 : Int32) (x2 : Int32) (x3 : Int32) (Q : Int32 → Mem → Prop) (K34 : Int32 → Mem → Prop) (x4 : Int32) (M : Mem) : Prop :=
  (x4 < 1 → Q (-4) M) ∧ (¬ x4 < 1 → w_X8_copies 0 220 M (fun M9 => vp_in (258 + x1) 264 ∧ ∀ M10, M10 = mu M9 1 (258 + x1).toNatClampNeg x4 → w_X8_nightsGo 220 x3 M10 (fun r11 M12 => (((sr (M12 0 17) x2) &&& 1) = 1 → Q x4 M12) ∧ (¬ ((sr (M12 0 17) x2) &&& 1) = 1 → K34 (x4 + (-1)) M12))))
def w_X8_sharp (x1 : Int32) (x2 : Int32) (x3 : Int32) (M : Mem) (Q : Int32 → Mem → Prop) : Prop :=
  w_X8_isKeeper x1 M (fun r1 => (r1 = 0 → Q (-1) M) ∧ (¬ r1 = 0 → w_X8_isTaker x2 M (fun r3 => (r3 = 0 → Q (-1) M) ∧ (¬ r3 = 0 → w_X8_in (x3.toInt64) 0 60 M (fun r5 => (r5 = 0 → Q (-1) M) ∧ (¬ r5 = 0 → ∃ n, fu2 (w_X8_sharp_34 x1 x2 x3 Q) n 9 M))))))
-- lowest
def w_X8_lowest_31 (y0 : Int64) (y2 : Int64) (x4 : Int32) (y5 : Int64) (M : Mem) (Q : Int64 → Prop) : Prop :=
  ¬ y5 = 0 ∧ Q ((if x4 = 0 then y0 else y2) / y5)
def w_X8_lowest_6 (y0 : Int64) (y2 : Int64) (x4 : Int32) (M : Mem) (Q : Int64 → Prop) (K6 : Int64 → Int64 → Prop) (y5 : Int64) (y7 : Int64) : Prop :=
  ((lg_cmp y7 0) = 0 → w_X8_lowest_31 y0 y2 x4 y5 M Q) ∧ (¬ (lg_cmp y7 0) = 0 → ¬ y7 = 0 ∧ K6 y7 (lrm y5 y7))
def w_X8_lowest (y0 : Int64) (y2 : Int64) (x4 : Int32) (M : Mem) (Q : Int64 → Prop) : Prop :=
  ∃ n, fu2 (w_X8_lowest_6 y0 y2 x4 M Q) n y0 y2
-- byHaze
def w_X8_byHaze_155 (x4 : Int32) (y5 : Int64) (y7 : Int64) (M : Mem) (Q : Int64 → Mem → Prop) : Prop :=
  w_X8_lowest y5 y7 x4 M (fun r3 => Q r3 M)
def w_X8_byHaze_117 (x1 : Int32) (x2 : Int32) (x3 : Int32) (x4 : Int32) (y5 : Int64) (y7 : Int64) (x9 : Int32) (y10 : Int64) (M : Mem) (K32 : Int64 → Int32 → Mem → Prop) (Q : Int64 → Mem → Prop) : Prop :=
  ∀ v10 : Int64, v10 = (y5 + (y10 * ((if x2 = (-4) then (M 0 16) else (1 - ((sr (M 0 17) x2) &&& 1))).toInt64))) → K32 v10 (x9 + 1) M
def w_X8_byHaze_58 (x1 : Int32) (x2 : Int32) (x3 : Int32) (x4 : Int32) (y5 : Int64) (y7 : Int64) (x9 : Int32) (K32 : Int64 → Int32 → Mem → Prop) (Q : Int64 → Mem → Prop) (K58 : Int64 → Int32 → Mem → Prop) (y10 : Int64) (x12 : Int32) (M : Mem) : Prop :=
  (x3 ≤ x12 → w_X8_byHaze_117 x1 x2 x3 x4 y5 y7 x9 y10 M K32 Q) ∧ (¬ x3 ≤ x12 → ∀ v13 : Int64, v13 = (y10 * (if (if ((sr x9 x12) &&& 1) = 1 then (1 : Int32) else 0) = 0 then ((10 - x1).toInt64) else (x1.toInt64))) → w_X8_nightOn 176 (if ((sr x9 x12) &&& 1) = 1 then (1 : Int32) else 0) M (fun M15 => K58 v13 (x12 + 1) M15))
def w_X8_byHaze_32 (x1 : Int32) (x2 : Int32) (x3 : Int32) (x4 : Int32) (y7 : Int64) (Q : Int64 → Mem → Prop) (K32 : Int64 → Int32 → Mem → Prop) (y5 : Int64) (x9 : Int32) (M : Mem) : Prop :=
  ((sl 1 x3) ≤ x9 → w_X8_byHaze_155 x4 y5 y7 M Q) ∧ (¬ (sl 1 x3) ≤ x9 → w_X8_copies 0 176 M (fun M5 => w_X8_startCounts M5 (fun M7 => ∃ n, fu3 (w_X8_byHaze_58 x1 x2 x3 x4 y5 y7 x9 K32 Q) n 1 0 M7)))
def w_X8_byHaze_29 (x1 : Int32) (x2 : Int32) (x3 : Int32) (x4 : Int32) (y5 : Int64) (y7 : Int64) (M : Mem) (Q : Int64 → Mem → Prop) : Prop :=
  ∃ n, fu3 (w_X8_byHaze_32 x1 x2 x3 x4 y7 Q) n y5 0 M
def w_X8_byHaze_9 (x1 : Int32) (x2 : Int32) (x3 : Int32) (x4 : Int32) (y5 : Int64) (M : Mem) (Q : Int64 → Mem → Prop) (K9 : Int64 → Int32 → Prop) (y7 : Int64) (x9 : Int32) : Prop :=
  (x3 ≤ x9 → w_X8_byHaze_29 x1 x2 x3 x4 y5 y7 M Q) ∧ (¬ x3 ≤ x9 → K9 (y7 * 10) (x9 + 1))
def w_X8_byHaze (x1 : Int32) (x2 : Int32) (x3 : Int32) (x4 : Int32) (M : Mem) (Q : Int64 → Mem → Prop) : Prop :=
  ∃ n, fu2 (w_X8_byHaze_9 x1 x2 x3 x4 0 M Q) n 1 0
-- luck
def w_X8_luck (x1 : Int32) (x2 : Int32) (x3 : Int32) (x4 : Int32) (M : Mem) (Q : Int64 → Mem → Prop) : Prop :=
  w_X8_in (x1.toInt64) 0 10 M (fun r1 => (r1 = 0 → Q (-1) M) ∧ (¬ r1 = 0 → w_X8_isTaker x2 M (fun r3 => (r3 = 0 → Q (-1) M) ∧ (¬ r3 = 0 → w_X8_in (x3.toInt64) 0 8 M (fun r5 => (r5 = 0 → Q (-1) M) ∧ (¬ r5 = 0 → w_X8_in (x4.toInt64) 0 1 M (fun r7 => (r7 = 0 → Q (-1) M) ∧ (¬ r7 = 0 → w_X8_byHaze x1 x2 x3 x4 M (fun r9 M10 => Q r9 M10)))))))))
-- mean
def w_X8_mean (x1 : Int32) (x2 : Int32) (x3 : Int32) (M : Mem) (Q : Int64 → Mem → Prop) : Prop :=
  w_X8_in (x1.toInt64) 0 10 M (fun r1 => (r1 = 0 → Q (-1) M) ∧ (¬ r1 = 0 → w_X8_in (x2.toInt64) 0 8 M (fun r3 => (r3 = 0 → Q (-1) M) ∧ (¬ r3 = 0 → w_X8_in (x3.toInt64) 0 1 M (fun r5 => (r5 = 0 → Q (-1) M) ∧ (¬ r5 = 0 → w_X8_byHaze x1 (-4) x2 x3 M (fun r7 M8 => Q r7 M8)))))))
-- see
def w_X8_see (x1 : Int32) (x2 : Int32) (x3 : Int32) (M : Mem) (Q : Int32 → Mem → Prop) : Prop :=
  w_X8_in (x1.toInt64) 0 20 M (fun r1 => (r1 = 0 → Q (-1) M) ∧ (¬ r1 = 0 → w_X8_isGate x2 M (fun r3 => (r3 = 0 → Q (-1) M) ∧ (¬ r3 = 0 → w_X8_in (x3.toInt64) 0 60 M (fun r5 => (r5 = 0 → Q (-1) M) ∧ (¬ r5 = 0 → ((M 0 21) = 6 → Q (-3) M) ∧ (¬ (M 0 21) = 6 → vp_in (3 * (M 0 21)) 18 ∧ ∀ M8, M8 = mu M 6 (3 * (M 0 21)).toNatClampNeg x1 → vp_in ((3 * (M8 0 21)) + 1) 18 ∧ ∀ M9, M9 = mu M8 6 ((3 * (M8 0 21)) + 1).toNatClampNeg x2 → vp_in ((3 * (M9 0 21)) + 2) 18 ∧ ∀ M10, M10 = mu M9 6 ((3 * (M9 0 21)) + 2).toNatClampNeg x3 → ∀ M11, M11 = mu M10 0 21 ((M10 0 21) + 1) → Q (M11 0 21) M11)))))))
section
variable {p : Program} {l : Launch} {e : Env} {s : State} {m : MethodId} {args : Array Value} {below : List Frame} {meth : Method} {c : Code} {g : Gt}
-- glow
set_option maxHeartbeats 4000000 in
set_option maxRecDepth 100000 in
theorem c_X8_glow {l : Launch} {g : Gt} {x1 : Int32} {x2 : Int32} {M : Mem} {Q : Int32 → Mem → Prop} (h : w_X8_glow x1 x2 M Q) : MI l yX8_glow cX8_glow 3 (some .int) 5 120 g layM 12 [.ref (ga g 0), .int x1, .int x2] M Q :=
  m_of (by decide +kernel) (Nat.le_of_ble_eq_true rfl) (fun p e s m args below meth c ls C hr hk w hl => by
    have C : Cx p s m args c cX8_glow 3 RX8 g := C
    have hl : lv_has ls 3 [(0, .ref (ga g 0)), (1, .int x1), (2, .int x2)] := hl
    unfold w_X8_glow at h
    obtain ⟨H, eH⟩ : ∃ H : Heap, H = s.heap := ⟨_, rfl⟩
    obtain ⟨locs, el⟩ : ∃ locs : List Loc, locs = [] := ⟨_, rfl⟩
    have w : Wd g layM 12 s.heap M H locs := by rw [eH, el]; exact w
    suffices hw : W p l e (rmOf 5 120) s m args below meth c H locs 0 0 (MQ below (va_Qi Q (PostW g layM 12) (gF g)) args s 0 0 (gF g)) (F0 m 0 ls []) by rw [eH, el] at hw; exact hw
    clear eH el
    refine lv_iload_n C.1.1 C.1.2.1 dX8_glow_0 rfl (lv_at hl 1 rfl) ?_
    refine q_pSi C w [.int x1] (c_X8_isGate  h) ks_X8_isGate k_114  rfl hl.1 (Nat.le_of_ble_eq_true rfl) ⟨Nat.le_of_ble_eq_true rfl, Nat.le_of_ble_eq_true rfl⟩ dX8_glow_1 (fun r1 H locs h w => ?_)
    refine lv_if_eq (tgt := 19) C.1.1 C.1.2.1 dX8_glow_4 (by decide) (fun hc2 => ?_) (fun hc2 => ?_)
    · replace h := h.1 hc2
      refine lv_iconst (v := (-1)) C.1.1 C.1.2.1 dX8_glow_19 (by decide) ?_
      exact q_iret C hr hk w rfl h dX8_glow_20
    · replace h := h.2 hc2
      refine lv_iload_n C.1.1 C.1.2.1 dX8_glow_7 rfl (lv_at hl 2 rfl) ?_
      refine lv_i2l C.1.1 C.1.2.1 dX8_glow_8 rfl ?_
      refine lv_lconst (v := 0) C.1.1 C.1.2.1 dX8_glow_9 (by decide) ?_
      refine q_ldc2 C k_122 dX8_glow_10 ?_
      refine q_pSi C w [.long (x2.toInt64), .long 0, .long 60] (c_X8_in  h) ks_X8_in k_95  rfl hl.1 (Nat.le_of_ble_eq_true rfl) ⟨Nat.le_of_ble_eq_true rfl, Nat.le_of_ble_eq_true rfl⟩ dX8_glow_13 (fun r3 H locs h w => ?_)
      refine lv_if_ne (tgt := 21) C.1.1 C.1.2.1 dX8_glow_16 (by decide) (fun hc4 => ?_) (fun hc4 => ?_)
      · replace h := h.2 hc4
        refine lv_aload_n C.1.1 C.1.2.1 dX8_glow_21 rfl (lv_at hl 0 rfl) ?_
        refine lv_iconst (v := 0) C.1.1 C.1.2.1 dX8_glow_22 (by decide) ?_
        refine lv_iload_n C.1.1 C.1.2.1 dX8_glow_23 rfl (lv_at hl 2 rfl) ?_
        refine q_cVi C w [.int 0, .int x2] (c_X8_nightsGo  h) kv_X8_nightsGo k_129 (rcv C w kc_X8 hm_0 lm_0) rfl hl.1 (Nat.le_of_ble_eq_true rfl) ⟨Nat.le_of_ble_eq_true rfl, Nat.le_of_ble_eq_true rfl⟩ dX8_glow_24 (fun r5 M6 H locs h w => ?_)
        refine lv_pop C.1.1 C.1.2.1 dX8_glow_27 rfl ?_
        refine lv_aload_n C.1.1 C.1.2.1 dX8_glow_28 rfl (lv_at hl 0 rfl) ?_
        refine gr_RX8_7 C w hm_0 lm_0 rfl dX8_glow_29 ?_
        refine lv_sipush (v := 176) C.1.1 C.1.2.1 dX8_glow_32 (by decide) ?_
        refine lv_iload_n C.1.1 C.1.2.1 dX8_glow_35 rfl (lv_at hl 1 rfl) ?_
        refine lv_iadd C.1.1 C.1.2.1 dX8_glow_36 ?_
        refine q_ial C w hm_1 lm_1 h.1 dX8_glow_37 ?_
        replace h := h.2
        refine lv_bipush (v := 30) C.1.1 C.1.2.1 dX8_glow_38 (by decide) ?_
        refine lv_iadd C.1.1 C.1.2.1 dX8_glow_40 ?_
        exact q_iret C hr hk w rfl h dX8_glow_41
      · replace h := h.1 hc4
        refine lv_iconst (v := (-1)) C.1.1 C.1.2.1 dX8_glow_19 (by decide) ?_
        exact q_iret C hr hk w rfl h dX8_glow_20)
-- caught
set_option maxHeartbeats 4000000 in
set_option maxRecDepth 100000 in
theorem v_X8_caught_24 {x1 : Int32} {x2 : Int32} {M : Mem} {K24 : Int32 → Mem → Prop} {Q : Int32 → Mem → Prop} {H : Heap} {locs : List Loc} {ls : Array Slot} (C : Cx p s m args c cX8_caught 3 RX8 g) (hr : meth.sig.returnType = (some .int)) (hk : meth.locks = false) (hK24 : ∀ (x2 : Int32) (M : Mem) (H : Heap) (locs : List Loc) (ls : Array Slot), K24 x2 M → Wd g layM 12 s.heap M H locs → lv_has ls 3 [(0, .ref (ga g 0)), (1, .int x1), (2, .int x2)] → W p l e (rmOf 4 97) s m args below meth c H locs 0 0 (MQ below (va_Qi Q (PostW g layM 12) (gF g)) args s 0 0 (gF g)) (F0 m 24 ls [])) (h : w_X8_caught_24 x1 Q K24 x2 M) (w : Wd g layM 12 s.heap M H locs) (hl : lv_has ls 3 [(0, .ref (ga g 0)), (1, .int x1), (2, .int x2)]) : W p l e (rmOf 4 97) s m args below meth c H locs 0 0 (MQ below (va_Qi Q (PostW g layM 12) (gF g)) args s 0 0 (gF g)) (F0 m 24 ls []) := by
  unfold w_X8_caught_24 at h
  refine lv_iload_n C.1.1 C.1.2.1 dX8_caught_24 rfl (lv_at hl 2 rfl) ?_
  refine lv_bipush (v := 60) C.1.1 C.1.2.1 dX8_caught_25 (by decide) ?_
  refine lv_icmp_gt (tgt := 58) C.1.1 C.1.2.1 dX8_caught_27 (by decide) (fun hc7 => ?_) (fun hc7 => ?_)
  · replace h := h.1 hc7
    refine lv_bipush (v := (-4)) C.1.1 C.1.2.1 dX8_caught_58 (by decide) ?_
    exact q_iret C hr hk w rfl h dX8_caught_60
  · replace h := h.2 hc7
    refine lv_aload_n C.1.1 C.1.2.1 dX8_caught_30 rfl (lv_at hl 0 rfl) ?_
    refine lv_sipush (v := 176) C.1.1 C.1.2.1 dX8_caught_31 (by decide) ?_
    refine lv_iconst (v := 0) C.1.1 C.1.2.1 dX8_caught_34 (by decide) ?_
    refine q_cVv C w [.int 176, .int 0] (c_X8_nightOn  h) kv_X8_nightOn k_126 (rcv C w kc_X8 hm_0 lm_0) rfl hl.1 (Nat.le_of_ble_eq_true rfl) ⟨Nat.le_of_ble_eq_true rfl, Nat.le_of_ble_eq_true rfl⟩ dX8_caught_35 (fun M9 H locs h w => ?_)
    refine lv_aload_n C.1.1 C.1.2.1 dX8_caught_38 rfl (lv_at hl 0 rfl) ?_
    refine gi_RX8_131 C w hm_0 lm_0 rfl dX8_caught_39 ?_
    refine lv_iload_n C.1.1 C.1.2.1 dX8_caught_42 rfl (lv_at hl 1 rfl) ?_
    refine q_ishr C dX8_caught_43 ?_
    refine lv_iconst (v := 1) C.1.1 C.1.2.1 dX8_caught_44 (by decide) ?_
    refine lv_iand C.1.1 C.1.2.1 dX8_caught_45 ?_
    refine lv_iconst (v := 1) C.1.1 C.1.2.1 dX8_caught_46 (by decide) ?_
    refine lv_icmp_ne (tgt := 52) C.1.1 C.1.2.1 dX8_caught_47 (by decide) (fun hc10 => ?_) (fun hc10 => ?_)
    · replace h := h.2 hc10
      refine lv_iinc (v := x2 + 1) (lv' := [(2, .int (x2 + 1)), (0, .ref (ga g 0)), (1, .int x1)]) C.1.1 C.1.2.1 dX8_caught_52 hl (k := 2) rfl rfl (by decide) rfl (fun ls hl => ?_)
      refine lv_goto (tgt := 24) C.1.1 C.1.2.1 dX8_caught_55 (by decide) ?_
      exact hK24 _ _ _ _ _ h w (lv_sub hl [1, 2, 0] rfl)
    · replace h := h.1 hc10
      refine lv_iload_n C.1.1 C.1.2.1 dX8_caught_50 rfl (lv_at hl 2 rfl) ?_
      exact q_iret C hr hk w rfl h dX8_caught_51
set_option maxHeartbeats 4000000 in
set_option maxRecDepth 100000 in
theorem l_X8_caught_24 {x1 : Int32} {Q : Int32 → Mem → Prop} (C : Cx p s m args c cX8_caught 3 RX8 g) (hr : meth.sig.returnType = (some .int)) (hk : meth.locks = false)  : ∀ (n : Nat) (x2 : Int32) (M : Mem) (H : Heap) (locs : List Loc) (ls : Array Slot), fu2 (w_X8_caught_24 x1 Q) n x2 M → Wd g layM 12 s.heap M H locs → lv_has ls 3 [(0, .ref (ga g 0)), (1, .int x1), (2, .int x2)] → W p l e (rmOf 4 97) s m args below meth c H locs 0 0 (MQ below (va_Qi Q (PostW g layM 12) (gF g)) args s 0 0 (gF g)) (F0 m 24 ls []) := by
  intro n
  induction n with
  | zero => intro x2 M H locs ls h; exact h.elim
  | succ n ih => intro x2 M H locs ls h w hl; exact v_X8_caught_24 C hr hk   ih h w hl
set_option maxHeartbeats 4000000 in
set_option maxRecDepth 100000 in
theorem c_X8_caught {l : Launch} {g : Gt} {x1 : Int32} {M : Mem} {Q : Int32 → Mem → Prop} (h : w_X8_caught x1 M Q) : MI l yX8_caught cX8_caught 3 (some .int) 4 97 g layM 12 [.ref (ga g 0), .int x1] M Q :=
  m_of (by decide +kernel) (Nat.le_of_ble_eq_true rfl) (fun p e s m args below meth c ls C hr hk w hl => by
    have C : Cx p s m args c cX8_caught 3 RX8 g := C
    have hl : lv_has ls 3 [(0, .ref (ga g 0)), (1, .int x1)] := hl
    unfold w_X8_caught at h
    obtain ⟨H, eH⟩ : ∃ H : Heap, H = s.heap := ⟨_, rfl⟩
    obtain ⟨locs, el⟩ : ∃ locs : List Loc, locs = [] := ⟨_, rfl⟩
    have w : Wd g layM 12 s.heap M H locs := by rw [eH, el]; exact w
    suffices hw : W p l e (rmOf 4 97) s m args below meth c H locs 0 0 (MQ below (va_Qi Q (PostW g layM 12) (gF g)) args s 0 0 (gF g)) (F0 m 0 ls []) by rw [eH, el] at hw; exact hw
    clear eH el
    refine lv_aload_n C.1.1 C.1.2.1 dX8_caught_0 rfl (lv_at hl 0 rfl) ?_
    refine lv_iload_n C.1.1 C.1.2.1 dX8_caught_1 rfl (lv_at hl 1 rfl) ?_
    refine q_pVi C w [.int x1] (c_X8_isTaker  h) kv_X8_isTaker k_116 (rcv C w kc_X8 hm_0 lm_0) rfl hl.1 (Nat.le_of_ble_eq_true rfl) ⟨Nat.le_of_ble_eq_true rfl, Nat.le_of_ble_eq_true rfl⟩ dX8_caught_2 (fun r1 H locs h w => ?_)
    refine lv_if_ne (tgt := 10) C.1.1 C.1.2.1 dX8_caught_5 (by decide) (fun hc2 => ?_) (fun hc2 => ?_)
    · replace h := h.2 hc2
      refine lv_aload_n C.1.1 C.1.2.1 dX8_caught_10 rfl (lv_at hl 0 rfl) ?_
      refine lv_iconst (v := 0) C.1.1 C.1.2.1 dX8_caught_11 (by decide) ?_
      refine lv_sipush (v := 176) C.1.1 C.1.2.1 dX8_caught_12 (by decide) ?_
      refine q_cVv C w [.int 0, .int 176] (c_X8_copies  h) kv_X8_copies k_127 (rcv C w kc_X8 hm_0 lm_0) rfl hl.1 (Nat.le_of_ble_eq_true rfl) ⟨Nat.le_of_ble_eq_true rfl, Nat.le_of_ble_eq_true rfl⟩ dX8_caught_15 (fun M4 H locs h w => ?_)
      refine lv_aload_n C.1.1 C.1.2.1 dX8_caught_18 rfl (lv_at hl 0 rfl) ?_
      refine q_cVv C w [] (c_X8_startCounts  h) kv_X8_startCounts k_125 (rcv C w kc_X8 hm_0 lm_0) rfl hl.1 (Nat.le_of_ble_eq_true rfl) ⟨Nat.le_of_ble_eq_true rfl, Nat.le_of_ble_eq_true rfl⟩ dX8_caught_19 (fun M6 H locs h w => ?_)
      refine lv_iconst (v := 1) C.1.1 C.1.2.1 dX8_caught_22 (by decide) ?_
      refine lv_istore_n (lv' := [(2, .int 1), (0, .ref (ga g 0)), (1, .int x1)]) C.1.1 C.1.2.1 dX8_caught_23 rfl hl (by decide) rfl (fun ls hl => ?_)
      obtain ⟨n, h⟩ := h
      exact l_X8_caught_24 C hr hk   n _ _ _ _ _ h w (lv_sub hl [1, 2, 0] rfl)
    · replace h := h.1 hc2
      refine lv_iconst (v := (-1)) C.1.1 C.1.2.1 dX8_caught_8 (by decide) ?_
      exact q_iret C hr hk w rfl h dX8_caught_9)
-- best
set_option maxHeartbeats 4000000 in
set_option maxRecDepth 100000 in
theorem v_X8_best_127 {x3 : Int32} {x4 : Int32} {x5 : Int32} {M : Mem} {Q : Int32 → Mem → Prop} {H : Heap} {locs : List Loc} {ls : Array Slot} (C : Cx p s m args c cX8_best 8 RX8 g) (hr : meth.sig.returnType = (some .int)) (hk : meth.locks = false)  (h : w_X8_best_127 x3 x4 x5 M Q) (w : Wd g layM 12 s.heap M H locs) (hl : lv_has ls 8 [(3, .int x3), (4, .int x4), (5, .int x5)]) : W p l e (rmOf 5 120) s m args below meth c H locs 0 0 (MQ below (va_Qi Q (PostW g layM 12) (gF g)) args s 0 0 (gF g)) (F0 m 127 ls []) := by
  unfold w_X8_best_127 at h
  refine lv_iload_n C.1.1 C.1.2.1 dX8_best_127 rfl (lv_at hl 0 rfl) ?_
  have J : ∀ ls : Array Slot, lv_has ls 8 [] → W p l e (rmOf 5 120) s m args below meth c H locs 0 0 (MQ below (va_Qi Q (PostW g layM 12) (gF g)) args s 0 0 (gF g)) (F0 m 138 ls [.int (if x3 = 0 then x5 else x4)]) := by
    intro ls hl
    exact q_iret C hr hk w rfl h dX8_best_138
  refine lv_if_ne (tgt := 136) C.1.1 C.1.2.1 dX8_best_128 (by decide) (fun hc8 => ?_) (fun hc8 => ?_)
  · refine lv_iload C.1.1 C.1.2.1 dX8_best_136 (lv_at hl 1 rfl) ?_
    simp only [if_neg hc8] at J hl
    exact J ls (lv_sub hl [] rfl)
  · refine lv_iload C.1.1 C.1.2.1 dX8_best_131 (lv_at hl 2 rfl) ?_
    refine lv_goto (tgt := 138) C.1.1 C.1.2.1 dX8_best_133 (by decide) ?_
    simp only [if_pos hc8] at J hl
    exact J ls (lv_sub hl [] rfl)
set_option maxHeartbeats 4000000 in
set_option maxRecDepth 100000 in
theorem v_X8_best_41 {x1 : Int32} {x2 : Int32} {x3 : Int32} {x4 : Int32} {x5 : Int32} {x6 : Int32} {M : Mem} {K41 : Int32 → Int32 → Int32 → Mem → Prop} {Q : Int32 → Mem → Prop} {H : Heap} {locs : List Loc} {ls : Array Slot} (C : Cx p s m args c cX8_best 8 RX8 g) (hr : meth.sig.returnType = (some .int)) (hk : meth.locks = false) (hK41 : ∀ (x4 : Int32) (x5 : Int32) (x6 : Int32) (M : Mem) (H : Heap) (locs : List Loc) (ls : Array Slot), K41 x4 x5 x6 M → Wd g layM 12 s.heap M H locs → lv_has ls 8 [(0, .ref (ga g 0)), (1, .int x1), (2, .int x2), (3, .int x3), (4, .int x4), (5, .int x5), (6, .int x6)] → W p l e (rmOf 5 120) s m args below meth c H locs 0 0 (MQ below (va_Qi Q (PostW g layM 12) (gF g)) args s 0 0 (gF g)) (F0 m 41 ls [])) (h : w_X8_best_41 x1 x2 x3 Q K41 x4 x5 x6 M) (w : Wd g layM 12 s.heap M H locs) (hl : lv_has ls 8 [(0, .ref (ga g 0)), (1, .int x1), (2, .int x2), (3, .int x3), (4, .int x4), (5, .int x5), (6, .int x6)]) : W p l e (rmOf 5 120) s m args below meth c H locs 0 0 (MQ below (va_Qi Q (PostW g layM 12) (gF g)) args s 0 0 (gF g)) (F0 m 41 ls []) := by
  unfold w_X8_best_41 at h
  refine lv_iload C.1.1 C.1.2.1 dX8_best_41 (lv_at hl 6 rfl) ?_
  refine lv_bipush (v := 6) C.1.1 C.1.2.1 dX8_best_43 (by decide) ?_
  refine lv_icmp_ge (tgt := 127) C.1.1 C.1.2.1 dX8_best_45 (by decide) (fun hc7 => ?_) (fun hc7 => ?_)
  · replace h := h.1 hc7
    exact v_X8_best_127 C hr hk   h w (lv_sub hl [3, 4, 5] rfl)
  · replace h := h.2 hc7
    refine lv_aload_n C.1.1 C.1.2.1 dX8_best_48 rfl (lv_at hl 0 rfl) ?_
    refine lv_iconst (v := 0) C.1.1 C.1.2.1 dX8_best_49 (by decide) ?_
    refine lv_sipush (v := 220) C.1.1 C.1.2.1 dX8_best_50 (by decide) ?_
    refine q_cVv C w [.int 0, .int 220] (c_X8_copies  h) kv_X8_copies k_127 (rcv C w kc_X8 hm_0 lm_0) rfl hl.1 (Nat.le_of_ble_eq_true rfl) ⟨Nat.le_of_ble_eq_true rfl, Nat.le_of_ble_eq_true rfl⟩ dX8_best_53 (fun M10 H locs h w => ?_)
    refine lv_aload_n C.1.1 C.1.2.1 dX8_best_56 rfl (lv_at hl 0 rfl) ?_
    refine gr_RX8_7 C w hm_0 lm_0 rfl dX8_best_57 ?_
    refine lv_sipush (v := 237) C.1.1 C.1.2.1 dX8_best_60 (by decide) ?_
    refine lv_iload_n C.1.1 C.1.2.1 dX8_best_63 rfl (lv_at hl 1 rfl) ?_
    refine lv_iadd C.1.1 C.1.2.1 dX8_best_64 ?_
    refine lv_iload C.1.1 C.1.2.1 dX8_best_65 (lv_at hl 6 rfl) ?_
    refine q_ias C w hm_1 lm_1 h.1 dX8_best_67 (fun M11 H locs eM11 w => ?_)
    replace h := h.2 M11 eM11
    refine lv_aload_n C.1.1 C.1.2.1 dX8_best_68 rfl (lv_at hl 0 rfl) ?_
    refine lv_sipush (v := 220) C.1.1 C.1.2.1 dX8_best_69 (by decide) ?_
    refine lv_iload_n C.1.1 C.1.2.1 dX8_best_72 rfl (lv_at hl 2 rfl) ?_
    refine q_cVi C w [.int 220, .int x2] (c_X8_nightsGo  h) kv_X8_nightsGo k_129 (rcv C w kc_X8 hm_0 lm_0) rfl hl.1 (Nat.le_of_ble_eq_true rfl) ⟨Nat.le_of_ble_eq_true rfl, Nat.le_of_ble_eq_true rfl⟩ dX8_best_73 (fun r12 M13 H locs h w => ?_)
    refine lv_pop C.1.1 C.1.2.1 dX8_best_76 rfl ?_
    refine lv_aload_n C.1.1 C.1.2.1 dX8_best_77 rfl (lv_at hl 0 rfl) ?_
    refine gr_RX8_7 C w hm_0 lm_0 rfl dX8_best_78 ?_
    refine lv_sipush (v := 198) C.1.1 C.1.2.1 dX8_best_81 (by decide) ?_
    refine lv_iload_n C.1.1 C.1.2.1 dX8_best_84 rfl (lv_at hl 1 rfl) ?_
    refine lv_iadd C.1.1 C.1.2.1 dX8_best_85 ?_
    refine q_ial C w hm_1 lm_1 h.1 dX8_best_86 ?_
    replace h := h.2
    refine lv_istore (lv' := [(7, .int (M13 1 (198 + x1).toNatClampNeg)), (0, .ref (ga g 0)), (1, .int x1), (2, .int x2), (3, .int x3), (4, .int x4), (5, .int x5), (6, .int x6)]) C.1.1 C.1.2.1 dX8_best_87 hl (by decide) rfl (fun ls hl => ?_)
    refine lv_iload C.1.1 C.1.2.1 dX8_best_89 (lv_at hl 0 rfl) ?_
    refine lv_iload C.1.1 C.1.2.1 dX8_best_91 (lv_at hl 5 rfl) ?_
    have J : ∀ ls : Array Slot, lv_has ls 8 [(0, .ref (ga g 0)), (1, .int x1), (2, .int x2), (3, .int x3), (4, .int x4), (6, .int x6), (7, .int (M13 1 (198 + x1).toNatClampNeg))] → W p l e (rmOf 5 120) s m args below meth c H locs 0 0 (MQ below (va_Qi Q (PostW g layM 12) (gF g)) args s 0 0 (gF g)) (F0 m 103 ls [.int (if (M13 1 (198 + x1).toNatClampNeg) ≤ x4 then x5 else x6)]) := by
      intro ls hl
      refine lv_istore (lv' := [(5, .int (if (M13 1 (198 + x1).toNatClampNeg) ≤ x4 then x5 else x6)), (0, .ref (ga g 0)), (1, .int x1), (2, .int x2), (3, .int x3), (4, .int x4), (6, .int x6), (7, .int (M13 1 (198 + x1).toNatClampNeg))]) C.1.1 C.1.2.1 dX8_best_103 hl (by decide) rfl (fun ls hl => ?_)
      refine lv_iload C.1.1 C.1.2.1 dX8_best_105 (lv_at hl 7 rfl) ?_
      refine lv_iload C.1.1 C.1.2.1 dX8_best_107 (lv_at hl 5 rfl) ?_
      have J : ∀ ls : Array Slot, lv_has ls 8 [(0, .ref (ga g 0)), (1, .int x1), (2, .int x2), (3, .int x3), (5, .int (if (M13 1 (198 + x1).toNatClampNeg) ≤ x4 then x5 else x6)), (6, .int x6)] → W p l e (rmOf 5 120) s m args below meth c H locs 0 0 (MQ below (va_Qi Q (PostW g layM 12) (gF g)) args s 0 0 (gF g)) (F0 m 119 ls [.int (if (M13 1 (198 + x1).toNatClampNeg) ≤ x4 then x4 else (M13 1 (198 + x1).toNatClampNeg))]) := by
        intro ls hl
        refine lv_topi (fun v16 ev16 => ?_)
        replace h := h v16 ev16
        refine lv_istore (lv' := [(4, .int v16), (0, .ref (ga g 0)), (1, .int x1), (2, .int x2), (3, .int x3), (5, .int (if (M13 1 (198 + x1).toNatClampNeg) ≤ x4 then x5 else x6)), (6, .int x6)]) C.1.1 C.1.2.1 dX8_best_119 hl (by decide) rfl (fun ls hl => ?_)
        refine lv_iinc (v := x6 + 1) (lv' := [(6, .int (x6 + 1)), (4, .int v16), (0, .ref (ga g 0)), (1, .int x1), (2, .int x2), (3, .int x3), (5, .int (if (M13 1 (198 + x1).toNatClampNeg) ≤ x4 then x5 else x6))]) C.1.1 C.1.2.1 dX8_best_121 hl (k := 6) rfl rfl (by decide) rfl (fun ls hl => ?_)
        refine lv_goto (tgt := 41) C.1.1 C.1.2.1 dX8_best_124 (by decide) ?_
        exact hK41 _ _ _ _ _ _ _ h w (lv_sub hl [2, 3, 4, 5, 1, 6, 0] rfl)
      refine lv_icmp_le (tgt := 117) C.1.1 C.1.2.1 dX8_best_109 (by decide) (fun hc15 => ?_) (fun hc15 => ?_)
      · refine lv_iload C.1.1 C.1.2.1 dX8_best_117 (lv_at hl 5 rfl) ?_
        simp only [if_pos hc15] at J hl
        exact J ls (lv_sub hl [1, 2, 3, 4, 0, 6] rfl)
      · refine lv_iload C.1.1 C.1.2.1 dX8_best_112 (lv_at hl 7 rfl) ?_
        refine lv_goto (tgt := 119) C.1.1 C.1.2.1 dX8_best_114 (by decide) ?_
        simp only [if_neg hc15] at J hl
        exact J ls (lv_sub hl [1, 2, 3, 4, 0, 6] rfl)
    refine lv_icmp_le (tgt := 101) C.1.1 C.1.2.1 dX8_best_93 (by decide) (fun hc14 => ?_) (fun hc14 => ?_)
    · refine lv_iload C.1.1 C.1.2.1 dX8_best_101 (lv_at hl 6 rfl) ?_
      simp only [if_pos hc14] at J hl
      exact J ls (lv_sub hl [1, 2, 3, 4, 5, 7, 0] rfl)
    · refine lv_iload C.1.1 C.1.2.1 dX8_best_96 (lv_at hl 7 rfl) ?_
      refine lv_goto (tgt := 103) C.1.1 C.1.2.1 dX8_best_98 (by decide) ?_
      simp only [if_neg hc14] at J hl
      exact J ls (lv_sub hl [1, 2, 3, 4, 5, 7, 0] rfl)
set_option maxHeartbeats 4000000 in
set_option maxRecDepth 100000 in
theorem l_X8_best_41 {x1 : Int32} {x2 : Int32} {x3 : Int32} {Q : Int32 → Mem → Prop} (C : Cx p s m args c cX8_best 8 RX8 g) (hr : meth.sig.returnType = (some .int)) (hk : meth.locks = false)  : ∀ (n : Nat) (x4 : Int32) (x5 : Int32) (x6 : Int32) (M : Mem) (H : Heap) (locs : List Loc) (ls : Array Slot), fu4 (w_X8_best_41 x1 x2 x3 Q) n x4 x5 x6 M → Wd g layM 12 s.heap M H locs → lv_has ls 8 [(0, .ref (ga g 0)), (1, .int x1), (2, .int x2), (3, .int x3), (4, .int x4), (5, .int x5), (6, .int x6)] → W p l e (rmOf 5 120) s m args below meth c H locs 0 0 (MQ below (va_Qi Q (PostW g layM 12) (gF g)) args s 0 0 (gF g)) (F0 m 41 ls []) := by
  intro n
  induction n with
  | zero => intro x4 x5 x6 M H locs ls h; exact h.elim
  | succ n ih => intro x4 x5 x6 M H locs ls h w hl; exact v_X8_best_41 C hr hk   ih h w hl
set_option maxHeartbeats 4000000 in
set_option maxRecDepth 100000 in
theorem c_X8_best {l : Launch} {g : Gt} {x1 : Int32} {x2 : Int32} {x3 : Int32} {M : Mem} {Q : Int32 → Mem → Prop} (h : w_X8_best x1 x2 x3 M Q) : MI l yX8_best cX8_best 8 (some .int) 5 120 g layM 12 [.ref (ga g 0), .int x1, .int x2, .int x3] M Q :=
  m_of (by decide +kernel) (Nat.le_of_ble_eq_true rfl) (fun p e s m args below meth c ls C hr hk w hl => by
    have C : Cx p s m args c cX8_best 8 RX8 g := C
    have hl : lv_has ls 8 [(0, .ref (ga g 0)), (1, .int x1), (2, .int x2), (3, .int x3)] := hl
    unfold w_X8_best at h
    obtain ⟨H, eH⟩ : ∃ H : Heap, H = s.heap := ⟨_, rfl⟩
    obtain ⟨locs, el⟩ : ∃ locs : List Loc, locs = [] := ⟨_, rfl⟩
    have w : Wd g layM 12 s.heap M H locs := by rw [eH, el]; exact w
    suffices hw : W p l e (rmOf 5 120) s m args below meth c H locs 0 0 (MQ below (va_Qi Q (PostW g layM 12) (gF g)) args s 0 0 (gF g)) (F0 m 0 ls []) by rw [eH, el] at hw; exact hw
    clear eH el
    refine lv_aload_n C.1.1 C.1.2.1 dX8_best_0 rfl (lv_at hl 0 rfl) ?_
    refine lv_iload_n C.1.1 C.1.2.1 dX8_best_1 rfl (lv_at hl 1 rfl) ?_
    refine q_pVi C w [.int x1] (c_X8_isTaker  h) kv_X8_isTaker k_116 (rcv C w kc_X8 hm_0 lm_0) rfl hl.1 (Nat.le_of_ble_eq_true rfl) ⟨Nat.le_of_ble_eq_true rfl, Nat.le_of_ble_eq_true rfl⟩ dX8_best_2 (fun r1 H locs h w => ?_)
    refine lv_if_eq (tgt := 30) C.1.1 C.1.2.1 dX8_best_5 (by decide) (fun hc2 => ?_) (fun hc2 => ?_)
    · replace h := h.1 hc2
      refine lv_iconst (v := (-1)) C.1.1 C.1.2.1 dX8_best_30 (by decide) ?_
      exact q_iret C hr hk w rfl h dX8_best_31
    · replace h := h.2 hc2
      refine lv_iload_n C.1.1 C.1.2.1 dX8_best_8 rfl (lv_at hl 2 rfl) ?_
      refine lv_i2l C.1.1 C.1.2.1 dX8_best_9 rfl ?_
      refine lv_lconst (v := 0) C.1.1 C.1.2.1 dX8_best_10 (by decide) ?_
      refine q_ldc2 C k_122 dX8_best_11 ?_
      refine q_pSi C w [.long (x2.toInt64), .long 0, .long 60] (c_X8_in  h) ks_X8_in k_95  rfl hl.1 (Nat.le_of_ble_eq_true rfl) ⟨Nat.le_of_ble_eq_true rfl, Nat.le_of_ble_eq_true rfl⟩ dX8_best_14 (fun r3 H locs h w => ?_)
      refine lv_if_eq (tgt := 30) C.1.1 C.1.2.1 dX8_best_17 (by decide) (fun hc4 => ?_) (fun hc4 => ?_)
      · replace h := h.1 hc4
        refine lv_iconst (v := (-1)) C.1.1 C.1.2.1 dX8_best_30 (by decide) ?_
        exact q_iret C hr hk w rfl h dX8_best_31
      · replace h := h.2 hc4
        refine lv_iload_n C.1.1 C.1.2.1 dX8_best_20 rfl (lv_at hl 3 rfl) ?_
        refine lv_i2l C.1.1 C.1.2.1 dX8_best_21 rfl ?_
        refine lv_lconst (v := 0) C.1.1 C.1.2.1 dX8_best_22 (by decide) ?_
        refine lv_lconst (v := 1) C.1.1 C.1.2.1 dX8_best_23 (by decide) ?_
        refine q_pSi C w [.long (x3.toInt64), .long 0, .long 1] (c_X8_in  h) ks_X8_in k_95  rfl hl.1 (Nat.le_of_ble_eq_true rfl) ⟨Nat.le_of_ble_eq_true rfl, Nat.le_of_ble_eq_true rfl⟩ dX8_best_24 (fun r5 H locs h w => ?_)
        refine lv_if_ne (tgt := 32) C.1.1 C.1.2.1 dX8_best_27 (by decide) (fun hc6 => ?_) (fun hc6 => ?_)
        · replace h := h.2 hc6
          refine lv_iconst (v := (-1)) C.1.1 C.1.2.1 dX8_best_32 (by decide) ?_
          refine lv_istore (lv' := [(4, .int (-1)), (0, .ref (ga g 0)), (1, .int x1), (2, .int x2), (3, .int x3)]) C.1.1 C.1.2.1 dX8_best_33 hl (by decide) rfl (fun ls hl => ?_)
          refine lv_iconst (v := 0) C.1.1 C.1.2.1 dX8_best_35 (by decide) ?_
          refine lv_istore (lv' := [(5, .int 0), (4, .int (-1)), (0, .ref (ga g 0)), (1, .int x1), (2, .int x2), (3, .int x3)]) C.1.1 C.1.2.1 dX8_best_36 hl (by decide) rfl (fun ls hl => ?_)
          refine lv_iconst (v := 0) C.1.1 C.1.2.1 dX8_best_38 (by decide) ?_
          refine lv_istore (lv' := [(6, .int 0), (5, .int 0), (4, .int (-1)), (0, .ref (ga g 0)), (1, .int x1), (2, .int x2), (3, .int x3)]) C.1.1 C.1.2.1 dX8_best_39 hl (by decide) rfl (fun ls hl => ?_)
          obtain ⟨n, h⟩ := h
          exact l_X8_best_41 C hr hk   n _ _ _ _ _ _ _ h w (lv_sub hl [3, 4, 5, 6, 2, 1, 0] rfl)
        · replace h := h.1 hc6
          refine lv_iconst (v := (-1)) C.1.1 C.1.2.1 dX8_best_30 (by decide) ?_
          exact q_iret C hr hk w rfl h dX8_best_31)
-- ripen
set_option maxHeartbeats 4000000 in
set_option maxRecDepth 100000 in
theorem v_X8_ripen_127 {x3 : Int32} {x4 : Int32} {x5 : Int32} {M : Mem} {Q : Int32 → Mem → Prop} {H : Heap} {locs : List Loc} {ls : Array Slot} (C : Cx p s m args c cX8_ripen 8 RX8 g) (hr : meth.sig.returnType = (some .int)) (hk : meth.locks = false)  (h : w_X8_ripen_127 x3 x4 x5 M Q) (w : Wd g layM 12 s.heap M H locs) (hl : lv_has ls 8 [(3, .int x3), (4, .int x4), (5, .int x5)]) : W p l e (rmOf 5 120) s m args below meth c H locs 0 0 (MQ below (va_Qi Q (PostW g layM 12) (gF g)) args s 0 0 (gF g)) (F0 m 127 ls []) := by
  unfold w_X8_ripen_127 at h
  refine lv_iload_n C.1.1 C.1.2.1 dX8_ripen_127 rfl (lv_at hl 0 rfl) ?_
  have J : ∀ ls : Array Slot, lv_has ls 8 [] → W p l e (rmOf 5 120) s m args below meth c H locs 0 0 (MQ below (va_Qi Q (PostW g layM 12) (gF g)) args s 0 0 (gF g)) (F0 m 138 ls [.int (if x3 = 0 then x5 else x4)]) := by
    intro ls hl
    exact q_iret C hr hk w rfl h dX8_ripen_138
  refine lv_if_ne (tgt := 136) C.1.1 C.1.2.1 dX8_ripen_128 (by decide) (fun hc8 => ?_) (fun hc8 => ?_)
  · refine lv_iload C.1.1 C.1.2.1 dX8_ripen_136 (lv_at hl 1 rfl) ?_
    simp only [if_neg hc8] at J hl
    exact J ls (lv_sub hl [] rfl)
  · refine lv_iload C.1.1 C.1.2.1 dX8_ripen_131 (lv_at hl 2 rfl) ?_
    refine lv_goto (tgt := 138) C.1.1 C.1.2.1 dX8_ripen_133 (by decide) ?_
    simp only [if_pos hc8] at J hl
    exact J ls (lv_sub hl [] rfl)
set_option maxHeartbeats 4000000 in
set_option maxRecDepth 100000 in
theorem v_X8_ripen_41 {x1 : Int32} {x2 : Int32} {x3 : Int32} {x4 : Int32} {x5 : Int32} {x6 : Int32} {M : Mem} {K41 : Int32 → Int32 → Int32 → Mem → Prop} {Q : Int32 → Mem → Prop} {H : Heap} {locs : List Loc} {ls : Array Slot} (C : Cx p s m args c cX8_ripen 8 RX8 g) (hr : meth.sig.returnType = (some .int)) (hk : meth.locks = false) (hK41 : ∀ (x4 : Int32) (x5 : Int32) (x6 : Int32) (M : Mem) (H : Heap) (locs : List Loc) (ls : Array Slot), K41 x4 x5 x6 M → Wd g layM 12 s.heap M H locs → lv_has ls 8 [(0, .ref (ga g 0)), (1, .int x1), (2, .int x2), (3, .int x3), (4, .int x4), (5, .int x5), (6, .int x6)] → W p l e (rmOf 5 120) s m args below meth c H locs 0 0 (MQ below (va_Qi Q (PostW g layM 12) (gF g)) args s 0 0 (gF g)) (F0 m 41 ls [])) (h : w_X8_ripen_41 x1 x2 x3 Q K41 x4 x5 x6 M) (w : Wd g layM 12 s.heap M H locs) (hl : lv_has ls 8 [(0, .ref (ga g 0)), (1, .int x1), (2, .int x2), (3, .int x3), (4, .int x4), (5, .int x5), (6, .int x6)]) : W p l e (rmOf 5 120) s m args below meth c H locs 0 0 (MQ below (va_Qi Q (PostW g layM 12) (gF g)) args s 0 0 (gF g)) (F0 m 41 ls []) := by
  unfold w_X8_ripen_41 at h
  refine lv_iload C.1.1 C.1.2.1 dX8_ripen_41 (lv_at hl 6 rfl) ?_
  refine lv_bipush (v := 20) C.1.1 C.1.2.1 dX8_ripen_43 (by decide) ?_
  refine lv_icmp_gt (tgt := 127) C.1.1 C.1.2.1 dX8_ripen_45 (by decide) (fun hc7 => ?_) (fun hc7 => ?_)
  · replace h := h.1 hc7
    exact v_X8_ripen_127 C hr hk   h w (lv_sub hl [3, 4, 5] rfl)
  · replace h := h.2 hc7
    refine lv_aload_n C.1.1 C.1.2.1 dX8_ripen_48 rfl (lv_at hl 0 rfl) ?_
    refine lv_iconst (v := 0) C.1.1 C.1.2.1 dX8_ripen_49 (by decide) ?_
    refine lv_sipush (v := 220) C.1.1 C.1.2.1 dX8_ripen_50 (by decide) ?_
    refine q_cVv C w [.int 0, .int 220] (c_X8_copies  h) kv_X8_copies k_127 (rcv C w kc_X8 hm_0 lm_0) rfl hl.1 (Nat.le_of_ble_eq_true rfl) ⟨Nat.le_of_ble_eq_true rfl, Nat.le_of_ble_eq_true rfl⟩ dX8_ripen_53 (fun M10 H locs h w => ?_)
    refine lv_aload_n C.1.1 C.1.2.1 dX8_ripen_56 rfl (lv_at hl 0 rfl) ?_
    refine gr_RX8_7 C w hm_0 lm_0 rfl dX8_ripen_57 ?_
    refine lv_sipush (v := 247) C.1.1 C.1.2.1 dX8_ripen_60 (by decide) ?_
    refine lv_iload_n C.1.1 C.1.2.1 dX8_ripen_63 rfl (lv_at hl 1 rfl) ?_
    refine lv_iadd C.1.1 C.1.2.1 dX8_ripen_64 ?_
    refine lv_iload C.1.1 C.1.2.1 dX8_ripen_65 (lv_at hl 6 rfl) ?_
    refine q_ias C w hm_1 lm_1 h.1 dX8_ripen_67 (fun M11 H locs eM11 w => ?_)
    replace h := h.2 M11 eM11
    refine lv_aload_n C.1.1 C.1.2.1 dX8_ripen_68 rfl (lv_at hl 0 rfl) ?_
    refine lv_sipush (v := 220) C.1.1 C.1.2.1 dX8_ripen_69 (by decide) ?_
    refine lv_iload_n C.1.1 C.1.2.1 dX8_ripen_72 rfl (lv_at hl 2 rfl) ?_
    refine q_cVi C w [.int 220, .int x2] (c_X8_nightsGo  h) kv_X8_nightsGo k_129 (rcv C w kc_X8 hm_0 lm_0) rfl hl.1 (Nat.le_of_ble_eq_true rfl) ⟨Nat.le_of_ble_eq_true rfl, Nat.le_of_ble_eq_true rfl⟩ dX8_ripen_73 (fun r12 M13 H locs h w => ?_)
    refine lv_pop C.1.1 C.1.2.1 dX8_ripen_76 rfl ?_
    refine lv_aload_n C.1.1 C.1.2.1 dX8_ripen_77 rfl (lv_at hl 0 rfl) ?_
    refine gr_RX8_7 C w hm_0 lm_0 rfl dX8_ripen_78 ?_
    refine lv_sipush (v := 198) C.1.1 C.1.2.1 dX8_ripen_81 (by decide) ?_
    refine lv_iload_n C.1.1 C.1.2.1 dX8_ripen_84 rfl (lv_at hl 1 rfl) ?_
    refine lv_iadd C.1.1 C.1.2.1 dX8_ripen_85 ?_
    refine q_ial C w hm_1 lm_1 h.1 dX8_ripen_86 ?_
    replace h := h.2
    refine lv_istore (lv' := [(7, .int (M13 1 (198 + x1).toNatClampNeg)), (0, .ref (ga g 0)), (1, .int x1), (2, .int x2), (3, .int x3), (4, .int x4), (5, .int x5), (6, .int x6)]) C.1.1 C.1.2.1 dX8_ripen_87 hl (by decide) rfl (fun ls hl => ?_)
    refine lv_iload C.1.1 C.1.2.1 dX8_ripen_89 (lv_at hl 0 rfl) ?_
    refine lv_iload C.1.1 C.1.2.1 dX8_ripen_91 (lv_at hl 5 rfl) ?_
    have J : ∀ ls : Array Slot, lv_has ls 8 [(0, .ref (ga g 0)), (1, .int x1), (2, .int x2), (3, .int x3), (4, .int x4), (6, .int x6), (7, .int (M13 1 (198 + x1).toNatClampNeg))] → W p l e (rmOf 5 120) s m args below meth c H locs 0 0 (MQ below (va_Qi Q (PostW g layM 12) (gF g)) args s 0 0 (gF g)) (F0 m 103 ls [.int (if (M13 1 (198 + x1).toNatClampNeg) ≤ x4 then x5 else x6)]) := by
      intro ls hl
      refine lv_istore (lv' := [(5, .int (if (M13 1 (198 + x1).toNatClampNeg) ≤ x4 then x5 else x6)), (0, .ref (ga g 0)), (1, .int x1), (2, .int x2), (3, .int x3), (4, .int x4), (6, .int x6), (7, .int (M13 1 (198 + x1).toNatClampNeg))]) C.1.1 C.1.2.1 dX8_ripen_103 hl (by decide) rfl (fun ls hl => ?_)
      refine lv_iload C.1.1 C.1.2.1 dX8_ripen_105 (lv_at hl 7 rfl) ?_
      refine lv_iload C.1.1 C.1.2.1 dX8_ripen_107 (lv_at hl 5 rfl) ?_
      have J : ∀ ls : Array Slot, lv_has ls 8 [(0, .ref (ga g 0)), (1, .int x1), (2, .int x2), (3, .int x3), (5, .int (if (M13 1 (198 + x1).toNatClampNeg) ≤ x4 then x5 else x6)), (6, .int x6)] → W p l e (rmOf 5 120) s m args below meth c H locs 0 0 (MQ below (va_Qi Q (PostW g layM 12) (gF g)) args s 0 0 (gF g)) (F0 m 119 ls [.int (if (M13 1 (198 + x1).toNatClampNeg) ≤ x4 then x4 else (M13 1 (198 + x1).toNatClampNeg))]) := by
        intro ls hl
        refine lv_topi (fun v16 ev16 => ?_)
        replace h := h v16 ev16
        refine lv_istore (lv' := [(4, .int v16), (0, .ref (ga g 0)), (1, .int x1), (2, .int x2), (3, .int x3), (5, .int (if (M13 1 (198 + x1).toNatClampNeg) ≤ x4 then x5 else x6)), (6, .int x6)]) C.1.1 C.1.2.1 dX8_ripen_119 hl (by decide) rfl (fun ls hl => ?_)
        refine lv_iinc (v := x6 + 1) (lv' := [(6, .int (x6 + 1)), (4, .int v16), (0, .ref (ga g 0)), (1, .int x1), (2, .int x2), (3, .int x3), (5, .int (if (M13 1 (198 + x1).toNatClampNeg) ≤ x4 then x5 else x6))]) C.1.1 C.1.2.1 dX8_ripen_121 hl (k := 6) rfl rfl (by decide) rfl (fun ls hl => ?_)
        refine lv_goto (tgt := 41) C.1.1 C.1.2.1 dX8_ripen_124 (by decide) ?_
        exact hK41 _ _ _ _ _ _ _ h w (lv_sub hl [2, 3, 4, 5, 1, 6, 0] rfl)
      refine lv_icmp_le (tgt := 117) C.1.1 C.1.2.1 dX8_ripen_109 (by decide) (fun hc15 => ?_) (fun hc15 => ?_)
      · refine lv_iload C.1.1 C.1.2.1 dX8_ripen_117 (lv_at hl 5 rfl) ?_
        simp only [if_pos hc15] at J hl
        exact J ls (lv_sub hl [1, 2, 3, 4, 0, 6] rfl)
      · refine lv_iload C.1.1 C.1.2.1 dX8_ripen_112 (lv_at hl 7 rfl) ?_
        refine lv_goto (tgt := 119) C.1.1 C.1.2.1 dX8_ripen_114 (by decide) ?_
        simp only [if_neg hc15] at J hl
        exact J ls (lv_sub hl [1, 2, 3, 4, 0, 6] rfl)
    refine lv_icmp_le (tgt := 101) C.1.1 C.1.2.1 dX8_ripen_93 (by decide) (fun hc14 => ?_) (fun hc14 => ?_)
    · refine lv_iload C.1.1 C.1.2.1 dX8_ripen_101 (lv_at hl 6 rfl) ?_
      simp only [if_pos hc14] at J hl
      exact J ls (lv_sub hl [1, 2, 3, 4, 5, 7, 0] rfl)
    · refine lv_iload C.1.1 C.1.2.1 dX8_ripen_96 (lv_at hl 7 rfl) ?_
      refine lv_goto (tgt := 103) C.1.1 C.1.2.1 dX8_ripen_98 (by decide) ?_
      simp only [if_neg hc14] at J hl
      exact J ls (lv_sub hl [1, 2, 3, 4, 5, 7, 0] rfl)
set_option maxHeartbeats 4000000 in
set_option maxRecDepth 100000 in
theorem l_X8_ripen_41 {x1 : Int32} {x2 : Int32} {x3 : Int32} {Q : Int32 → Mem → Prop} (C : Cx p s m args c cX8_ripen 8 RX8 g) (hr : meth.sig.returnType = (some .int)) (hk : meth.locks = false)  : ∀ (n : Nat) (x4 : Int32) (x5 : Int32) (x6 : Int32) (M : Mem) (H : Heap) (locs : List Loc) (ls : Array Slot), fu4 (w_X8_ripen_41 x1 x2 x3 Q) n x4 x5 x6 M → Wd g layM 12 s.heap M H locs → lv_has ls 8 [(0, .ref (ga g 0)), (1, .int x1), (2, .int x2), (3, .int x3), (4, .int x4), (5, .int x5), (6, .int x6)] → W p l e (rmOf 5 120) s m args below meth c H locs 0 0 (MQ below (va_Qi Q (PostW g layM 12) (gF g)) args s 0 0 (gF g)) (F0 m 41 ls []) := by
  intro n
  induction n with
  | zero => intro x4 x5 x6 M H locs ls h; exact h.elim
  | succ n ih => intro x4 x5 x6 M H locs ls h w hl; exact v_X8_ripen_41 C hr hk   ih h w hl
set_option maxHeartbeats 4000000 in
set_option maxRecDepth 100000 in
theorem c_X8_ripen {l : Launch} {g : Gt} {x1 : Int32} {x2 : Int32} {x3 : Int32} {M : Mem} {Q : Int32 → Mem → Prop} (h : w_X8_ripen x1 x2 x3 M Q) : MI l yX8_ripen cX8_ripen 8 (some .int) 5 120 g layM 12 [.ref (ga g 0), .int x1, .int x2, .int x3] M Q :=
  m_of (by decide +kernel) (Nat.le_of_ble_eq_true rfl) (fun p e s m args below meth c ls C hr hk w hl => by
    have C : Cx p s m args c cX8_ripen 8 RX8 g := C
    have hl : lv_has ls 8 [(0, .ref (ga g 0)), (1, .int x1), (2, .int x2), (3, .int x3)] := hl
    unfold w_X8_ripen at h
    obtain ⟨H, eH⟩ : ∃ H : Heap, H = s.heap := ⟨_, rfl⟩
    obtain ⟨locs, el⟩ : ∃ locs : List Loc, locs = [] := ⟨_, rfl⟩
    have w : Wd g layM 12 s.heap M H locs := by rw [eH, el]; exact w
    suffices hw : W p l e (rmOf 5 120) s m args below meth c H locs 0 0 (MQ below (va_Qi Q (PostW g layM 12) (gF g)) args s 0 0 (gF g)) (F0 m 0 ls []) by rw [eH, el] at hw; exact hw
    clear eH el
    refine lv_aload_n C.1.1 C.1.2.1 dX8_ripen_0 rfl (lv_at hl 0 rfl) ?_
    refine lv_iload_n C.1.1 C.1.2.1 dX8_ripen_1 rfl (lv_at hl 1 rfl) ?_
    refine q_pVi C w [.int x1] (c_X8_isTaker  h) kv_X8_isTaker k_116 (rcv C w kc_X8 hm_0 lm_0) rfl hl.1 (Nat.le_of_ble_eq_true rfl) ⟨Nat.le_of_ble_eq_true rfl, Nat.le_of_ble_eq_true rfl⟩ dX8_ripen_2 (fun r1 H locs h w => ?_)
    refine lv_if_eq (tgt := 30) C.1.1 C.1.2.1 dX8_ripen_5 (by decide) (fun hc2 => ?_) (fun hc2 => ?_)
    · replace h := h.1 hc2
      refine lv_iconst (v := (-1)) C.1.1 C.1.2.1 dX8_ripen_30 (by decide) ?_
      exact q_iret C hr hk w rfl h dX8_ripen_31
    · replace h := h.2 hc2
      refine lv_iload_n C.1.1 C.1.2.1 dX8_ripen_8 rfl (lv_at hl 2 rfl) ?_
      refine lv_i2l C.1.1 C.1.2.1 dX8_ripen_9 rfl ?_
      refine lv_lconst (v := 0) C.1.1 C.1.2.1 dX8_ripen_10 (by decide) ?_
      refine q_ldc2 C k_122 dX8_ripen_11 ?_
      refine q_pSi C w [.long (x2.toInt64), .long 0, .long 60] (c_X8_in  h) ks_X8_in k_95  rfl hl.1 (Nat.le_of_ble_eq_true rfl) ⟨Nat.le_of_ble_eq_true rfl, Nat.le_of_ble_eq_true rfl⟩ dX8_ripen_14 (fun r3 H locs h w => ?_)
      refine lv_if_eq (tgt := 30) C.1.1 C.1.2.1 dX8_ripen_17 (by decide) (fun hc4 => ?_) (fun hc4 => ?_)
      · replace h := h.1 hc4
        refine lv_iconst (v := (-1)) C.1.1 C.1.2.1 dX8_ripen_30 (by decide) ?_
        exact q_iret C hr hk w rfl h dX8_ripen_31
      · replace h := h.2 hc4
        refine lv_iload_n C.1.1 C.1.2.1 dX8_ripen_20 rfl (lv_at hl 3 rfl) ?_
        refine lv_i2l C.1.1 C.1.2.1 dX8_ripen_21 rfl ?_
        refine lv_lconst (v := 0) C.1.1 C.1.2.1 dX8_ripen_22 (by decide) ?_
        refine lv_lconst (v := 1) C.1.1 C.1.2.1 dX8_ripen_23 (by decide) ?_
        refine q_pSi C w [.long (x3.toInt64), .long 0, .long 1] (c_X8_in  h) ks_X8_in k_95  rfl hl.1 (Nat.le_of_ble_eq_true rfl) ⟨Nat.le_of_ble_eq_true rfl, Nat.le_of_ble_eq_true rfl⟩ dX8_ripen_24 (fun r5 H locs h w => ?_)
        refine lv_if_ne (tgt := 32) C.1.1 C.1.2.1 dX8_ripen_27 (by decide) (fun hc6 => ?_) (fun hc6 => ?_)
        · replace h := h.2 hc6
          refine lv_iconst (v := (-1)) C.1.1 C.1.2.1 dX8_ripen_32 (by decide) ?_
          refine lv_istore (lv' := [(4, .int (-1)), (0, .ref (ga g 0)), (1, .int x1), (2, .int x2), (3, .int x3)]) C.1.1 C.1.2.1 dX8_ripen_33 hl (by decide) rfl (fun ls hl => ?_)
          refine lv_iconst (v := 0) C.1.1 C.1.2.1 dX8_ripen_35 (by decide) ?_
          refine lv_istore (lv' := [(5, .int 0), (4, .int (-1)), (0, .ref (ga g 0)), (1, .int x1), (2, .int x2), (3, .int x3)]) C.1.1 C.1.2.1 dX8_ripen_36 hl (by decide) rfl (fun ls hl => ?_)
          refine lv_iconst (v := 0) C.1.1 C.1.2.1 dX8_ripen_38 (by decide) ?_
          refine lv_istore (lv' := [(6, .int 0), (5, .int 0), (4, .int (-1)), (0, .ref (ga g 0)), (1, .int x1), (2, .int x2), (3, .int x3)]) C.1.1 C.1.2.1 dX8_ripen_39 hl (by decide) rfl (fun ls hl => ?_)
          obtain ⟨n, h⟩ := h
          exact l_X8_ripen_41 C hr hk   n _ _ _ _ _ _ _ h w (lv_sub hl [3, 4, 5, 6, 2, 1, 0] rfl)
        · replace h := h.1 hc6
          refine lv_iconst (v := (-1)) C.1.1 C.1.2.1 dX8_ripen_30 (by decide) ?_
          exact q_iret C hr hk w rfl h dX8_ripen_31)
-- swap
set_option maxHeartbeats 4000000 in
set_option maxRecDepth 100000 in
theorem v_X8_swap_168 {x2 : Int32} {x3 : Int32} {x4 : Int32} {M : Mem} {Q : Int32 → Mem → Prop} {H : Heap} {locs : List Loc} {ls : Array Slot} (C : Cx p s m args c cX8_swap 8 RX8 g) (hr : meth.sig.returnType = (some .int)) (hk : meth.locks = false)  (h : w_X8_swap_168 x2 x3 x4 M Q) (w : Wd g layM 12 s.heap M H locs) (hl : lv_has ls 8 [(2, .int x2), (3, .int x3), (4, .int x4)]) : W p l e (rmOf 5 120) s m args below meth c H locs 0 0 (MQ below (va_Qi Q (PostW g layM 12) (gF g)) args s 0 0 (gF g)) (F0 m 168 ls []) := by
  unfold w_X8_swap_168 at h
  refine lv_iload C.1.1 C.1.2.1 dX8_swap_168 (lv_at hl 2 rfl) ?_
  refine lv_bipush (v := (-4)) C.1.1 C.1.2.1 dX8_swap_170 (by decide) ?_
  have J : ∀ ls : Array Slot, lv_has ls 8 [] → W p l e (rmOf 5 120) s m args below meth c H locs 0 0 (MQ below (va_Qi Q (PostW g layM 12) (gF g)) args s 0 0 (gF g)) (F0 m 185 ls [.int (if x4 = (-4) then x4 else (if x2 = 0 then x4 else x3))]) := by
    intro ls hl
    exact q_iret C hr hk w rfl h dX8_swap_185
  refine lv_icmp_eq (tgt := 179) C.1.1 C.1.2.1 dX8_swap_172 (by decide) (fun hc8 => ?_) (fun hc8 => ?_)
  · refine lv_iload C.1.1 C.1.2.1 dX8_swap_179 (lv_at hl 2 rfl) ?_
    refine lv_goto (tgt := 185) C.1.1 C.1.2.1 dX8_swap_181 (by decide) ?_
    simp only [if_pos hc8] at J hl
    exact J ls (lv_sub hl [] rfl)
  · refine lv_iload_n C.1.1 C.1.2.1 dX8_swap_175 rfl (lv_at hl 0 rfl) ?_
    refine lv_if_ne (tgt := 184) C.1.1 C.1.2.1 dX8_swap_176 (by decide) (fun hc9 => ?_) (fun hc9 => ?_)
    · refine lv_iload_n C.1.1 C.1.2.1 dX8_swap_184 rfl (lv_at hl 1 rfl) ?_
      simp only [if_neg hc8, if_neg hc9] at J hl
      exact J ls (lv_sub hl [] rfl)
    · refine lv_iload C.1.1 C.1.2.1 dX8_swap_179 (lv_at hl 2 rfl) ?_
      refine lv_goto (tgt := 185) C.1.1 C.1.2.1 dX8_swap_181 (by decide) ?_
      simp only [if_neg hc8, if_pos hc9] at J hl
      exact J ls (lv_sub hl [] rfl)
set_option maxHeartbeats 4000000 in
set_option maxRecDepth 100000 in
theorem v_X8_swap_162 {x1 : Int32} {x2 : Int32} {x3 : Int32} {x4 : Int32} {x5 : Int32} {M : Mem} {K38 : Int32 → Int32 → Int32 → Mem → Prop} {Q : Int32 → Mem → Prop} {H : Heap} {locs : List Loc} {ls : Array Slot} (C : Cx p s m args c cX8_swap 8 RX8 g) (hr : meth.sig.returnType = (some .int)) (hk : meth.locks = false) (hK38 : ∀ (x3 : Int32) (x4 : Int32) (x5 : Int32) (M : Mem) (H : Heap) (locs : List Loc) (ls : Array Slot), K38 x3 x4 x5 M → Wd g layM 12 s.heap M H locs → lv_has ls 8 [(0, .ref (ga g 0)), (1, .int x1), (2, .int x2), (3, .int x3), (4, .int x4), (5, .int x5)] → W p l e (rmOf 5 120) s m args below meth c H locs 0 0 (MQ below (va_Qi Q (PostW g layM 12) (gF g)) args s 0 0 (gF g)) (F0 m 38 ls [])) (h : w_X8_swap_162 x1 x2 x3 x4 x5 M K38 Q) (w : Wd g layM 12 s.heap M H locs) (hl : lv_has ls 8 [(0, .ref (ga g 0)), (1, .int x1), (2, .int x2), (3, .int x3), (4, .int x4), (5, .int x5)]) : W p l e (rmOf 5 120) s m args below meth c H locs 0 0 (MQ below (va_Qi Q (PostW g layM 12) (gF g)) args s 0 0 (gF g)) (F0 m 162 ls []) := by
  unfold w_X8_swap_162 at h
  refine lv_iinc (v := x5 + 1) (lv' := [(5, .int (x5 + 1)), (0, .ref (ga g 0)), (1, .int x1), (2, .int x2), (3, .int x3), (4, .int x4)]) C.1.1 C.1.2.1 dX8_swap_162 hl (k := 5) rfl rfl (by decide) rfl (fun ls hl => ?_)
  refine lv_goto (tgt := 38) C.1.1 C.1.2.1 dX8_swap_165 (by decide) ?_
  exact hK38 _ _ _ _ _ _ _ h w (lv_sub hl [1, 2, 3, 4, 5, 0] rfl)
set_option maxHeartbeats 4000000 in
set_option maxRecDepth 100000 in
theorem v_X8_swap_53 {x1 : Int32} {x2 : Int32} {x5 : Int32} {x3 : Int32} {x4 : Int32} {x6 : Int32} {M : Mem} {K38 : Int32 → Int32 → Int32 → Mem → Prop} {K53 : Int32 → Int32 → Int32 → Mem → Prop} {Q : Int32 → Mem → Prop} {H : Heap} {locs : List Loc} {ls : Array Slot} (C : Cx p s m args c cX8_swap 8 RX8 g) (hr : meth.sig.returnType = (some .int)) (hk : meth.locks = false) (hK38 : ∀ (x3 : Int32) (x4 : Int32) (x5 : Int32) (M : Mem) (H : Heap) (locs : List Loc) (ls : Array Slot), K38 x3 x4 x5 M → Wd g layM 12 s.heap M H locs → lv_has ls 8 [(0, .ref (ga g 0)), (1, .int x1), (2, .int x2), (3, .int x3), (4, .int x4), (5, .int x5)] → W p l e (rmOf 5 120) s m args below meth c H locs 0 0 (MQ below (va_Qi Q (PostW g layM 12) (gF g)) args s 0 0 (gF g)) (F0 m 38 ls [])) (hK53 : ∀ (x3 : Int32) (x4 : Int32) (x6 : Int32) (M : Mem) (H : Heap) (locs : List Loc) (ls : Array Slot), K53 x3 x4 x6 M → Wd g layM 12 s.heap M H locs → lv_has ls 8 [(0, .ref (ga g 0)), (1, .int x1), (2, .int x2), (3, .int x3), (4, .int x4), (5, .int x5), (6, .int x6)] → W p l e (rmOf 5 120) s m args below meth c H locs 0 0 (MQ below (va_Qi Q (PostW g layM 12) (gF g)) args s 0 0 (gF g)) (F0 m 53 ls [])) (h : w_X8_swap_53 x1 x2 x5 K38 Q K53 x3 x4 x6 M) (w : Wd g layM 12 s.heap M H locs) (hl : lv_has ls 8 [(0, .ref (ga g 0)), (1, .int x1), (2, .int x2), (3, .int x3), (4, .int x4), (5, .int x5), (6, .int x6)]) : W p l e (rmOf 5 120) s m args below meth c H locs 0 0 (MQ below (va_Qi Q (PostW g layM 12) (gF g)) args s 0 0 (gF g)) (F0 m 53 ls []) := by
  unfold w_X8_swap_53 at h
  refine lv_iload C.1.1 C.1.2.1 dX8_swap_53 (lv_at hl 6 rfl) ?_
  refine lv_aload_n C.1.1 C.1.2.1 dX8_swap_55 rfl (lv_at hl 0 rfl) ?_
  refine gi_RX8_116 C w hm_0 lm_0 rfl dX8_swap_56 ?_
  refine lv_icmp_ge (tgt := 162) C.1.1 C.1.2.1 dX8_swap_59 (by decide) (fun hc10 => ?_) (fun hc10 => ?_)
  · replace h := h.1 hc10
    exact v_X8_swap_162 C hr hk  hK38 h w (lv_sub hl [0, 1, 2, 3, 4, 5] rfl)
  · replace h := h.2 hc10
    refine lv_aload_n C.1.1 C.1.2.1 dX8_swap_62 rfl (lv_at hl 0 rfl) ?_
    refine lv_iconst (v := 0) C.1.1 C.1.2.1 dX8_swap_63 (by decide) ?_
    refine lv_sipush (v := 220) C.1.1 C.1.2.1 dX8_swap_64 (by decide) ?_
    refine q_cVv C w [.int 0, .int 220] (c_X8_copies  h) kv_X8_copies k_127 (rcv C w kc_X8 hm_0 lm_0) rfl hl.1 (Nat.le_of_ble_eq_true rfl) ⟨Nat.le_of_ble_eq_true rfl, Nat.le_of_ble_eq_true rfl⟩ dX8_swap_67 (fun M12 H locs h w => ?_)
    refine lv_aload_n C.1.1 C.1.2.1 dX8_swap_70 rfl (lv_at hl 0 rfl) ?_
    refine gr_RX8_7 C w hm_0 lm_0 rfl dX8_swap_71 ?_
    refine lv_sipush (v := 237) C.1.1 C.1.2.1 dX8_swap_74 (by decide) ?_
    refine lv_iload C.1.1 C.1.2.1 dX8_swap_77 (lv_at hl 5 rfl) ?_
    refine lv_iadd C.1.1 C.1.2.1 dX8_swap_79 ?_
    refine lv_aload_n C.1.1 C.1.2.1 dX8_swap_80 rfl (lv_at hl 0 rfl) ?_
    refine gr_RX8_7 C w hm_0 lm_0 rfl dX8_swap_81 ?_
    refine lv_bipush (v := 17) C.1.1 C.1.2.1 dX8_swap_84 (by decide) ?_
    refine lv_iload C.1.1 C.1.2.1 dX8_swap_86 (lv_at hl 6 rfl) ?_
    refine lv_iadd C.1.1 C.1.2.1 dX8_swap_88 ?_
    refine q_ial C w hm_1 lm_1 h.1 dX8_swap_89 ?_
    replace h := h.2
    refine q_ias C w hm_1 lm_1 h.1 dX8_swap_90 (fun M13 H locs eM13 w => ?_)
    replace h := h.2 M13 eM13
    refine lv_aload_n C.1.1 C.1.2.1 dX8_swap_91 rfl (lv_at hl 0 rfl) ?_
    refine gr_RX8_7 C w hm_0 lm_0 rfl dX8_swap_92 ?_
    refine lv_sipush (v := 237) C.1.1 C.1.2.1 dX8_swap_95 (by decide) ?_
    refine lv_iload C.1.1 C.1.2.1 dX8_swap_98 (lv_at hl 6 rfl) ?_
    refine lv_iadd C.1.1 C.1.2.1 dX8_swap_100 ?_
    refine lv_aload_n C.1.1 C.1.2.1 dX8_swap_101 rfl (lv_at hl 0 rfl) ?_
    refine gr_RX8_7 C w hm_0 lm_0 rfl dX8_swap_102 ?_
    refine lv_bipush (v := 17) C.1.1 C.1.2.1 dX8_swap_105 (by decide) ?_
    refine lv_iload C.1.1 C.1.2.1 dX8_swap_107 (lv_at hl 5 rfl) ?_
    refine lv_iadd C.1.1 C.1.2.1 dX8_swap_109 ?_
    refine q_ial C w hm_1 lm_1 h.1 dX8_swap_110 ?_
    replace h := h.2
    refine q_ias C w hm_1 lm_1 h.1 dX8_swap_111 (fun M14 H locs eM14 w => ?_)
    replace h := h.2 M14 eM14
    refine lv_aload_n C.1.1 C.1.2.1 dX8_swap_112 rfl (lv_at hl 0 rfl) ?_
    refine lv_sipush (v := 220) C.1.1 C.1.2.1 dX8_swap_113 (by decide) ?_
    refine lv_iload_n C.1.1 C.1.2.1 dX8_swap_116 rfl (lv_at hl 1 rfl) ?_
    refine q_cVi C w [.int 220, .int x1] (c_X8_nightsGo  h) kv_X8_nightsGo k_129 (rcv C w kc_X8 hm_0 lm_0) rfl hl.1 (Nat.le_of_ble_eq_true rfl) ⟨Nat.le_of_ble_eq_true rfl, Nat.le_of_ble_eq_true rfl⟩ dX8_swap_117 (fun r15 M16 H locs h w => ?_)
    refine lv_istore (lv' := [(7, .int r15), (0, .ref (ga g 0)), (1, .int x1), (2, .int x2), (3, .int x3), (4, .int x4), (5, .int x5), (6, .int x6)]) C.1.1 C.1.2.1 dX8_swap_120 hl (by decide) rfl (fun ls hl => ?_)
    refine lv_iload C.1.1 C.1.2.1 dX8_swap_122 (lv_at hl 0 rfl) ?_
    refine lv_iload_n C.1.1 C.1.2.1 dX8_swap_124 rfl (lv_at hl 4 rfl) ?_
    have J : ∀ ls : Array Slot, lv_has ls 8 [(0, .ref (ga g 0)), (1, .int x1), (2, .int x2), (3, .int x3), (5, .int x5), (6, .int x6), (7, .int r15)] → W p l e (rmOf 5 120) s m args below meth c H locs 0 0 (MQ below (va_Qi Q (PostW g layM 12) (gF g)) args s 0 0 (gF g)) (F0 m 141 ls [.int (if r15 ≤ x3 then x4 else ((10 * x5) + x6))]) := by
      intro ls hl
      refine lv_istore (lv' := [(4, .int (if r15 ≤ x3 then x4 else ((10 * x5) + x6))), (0, .ref (ga g 0)), (1, .int x1), (2, .int x2), (3, .int x3), (5, .int x5), (6, .int x6), (7, .int r15)]) C.1.1 C.1.2.1 dX8_swap_141 hl (by decide) rfl (fun ls hl => ?_)
      refine lv_iload C.1.1 C.1.2.1 dX8_swap_143 (lv_at hl 7 rfl) ?_
      refine lv_iload_n C.1.1 C.1.2.1 dX8_swap_145 rfl (lv_at hl 4 rfl) ?_
      have J : ∀ ls : Array Slot, lv_has ls 8 [(0, .ref (ga g 0)), (1, .int x1), (2, .int x2), (4, .int (if r15 ≤ x3 then x4 else ((10 * x5) + x6))), (5, .int x5), (6, .int x6)] → W p l e (rmOf 5 120) s m args below meth c H locs 0 0 (MQ below (va_Qi Q (PostW g layM 12) (gF g)) args s 0 0 (gF g)) (F0 m 155 ls [.int (if r15 ≤ x3 then x3 else r15)]) := by
        intro ls hl
        refine lv_istore_n (lv' := [(3, .int (if r15 ≤ x3 then x3 else r15)), (0, .ref (ga g 0)), (1, .int x1), (2, .int x2), (4, .int (if r15 ≤ x3 then x4 else ((10 * x5) + x6))), (5, .int x5), (6, .int x6)]) C.1.1 C.1.2.1 dX8_swap_155 rfl hl (by decide) rfl (fun ls hl => ?_)
        refine lv_iinc (v := x6 + 1) (lv' := [(6, .int (x6 + 1)), (3, .int (if r15 ≤ x3 then x3 else r15)), (0, .ref (ga g 0)), (1, .int x1), (2, .int x2), (4, .int (if r15 ≤ x3 then x4 else ((10 * x5) + x6))), (5, .int x5)]) C.1.1 C.1.2.1 dX8_swap_156 hl (k := 6) rfl rfl (by decide) rfl (fun ls hl => ?_)
        refine lv_goto (tgt := 53) C.1.1 C.1.2.1 dX8_swap_159 (by decide) ?_
        exact hK53 _ _ _ _ _ _ _ h w (lv_sub hl [2, 3, 4, 1, 5, 6, 0] rfl)
      refine lv_icmp_le (tgt := 154) C.1.1 C.1.2.1 dX8_swap_146 (by decide) (fun hc18 => ?_) (fun hc18 => ?_)
      · refine lv_iload_n C.1.1 C.1.2.1 dX8_swap_154 rfl (lv_at hl 4 rfl) ?_
        simp only [if_pos hc18] at J hl
        exact J ls (lv_sub hl [1, 2, 3, 0, 5, 6] rfl)
      · refine lv_iload C.1.1 C.1.2.1 dX8_swap_149 (lv_at hl 7 rfl) ?_
        refine lv_goto (tgt := 155) C.1.1 C.1.2.1 dX8_swap_151 (by decide) ?_
        simp only [if_neg hc18] at J hl
        exact J ls (lv_sub hl [1, 2, 3, 0, 5, 6] rfl)
    refine lv_icmp_le (tgt := 139) C.1.1 C.1.2.1 dX8_swap_125 (by decide) (fun hc17 => ?_) (fun hc17 => ?_)
    · refine lv_iload C.1.1 C.1.2.1 dX8_swap_139 (lv_at hl 5 rfl) ?_
      simp only [if_pos hc17] at J hl
      exact J ls (lv_sub hl [1, 2, 3, 4, 6, 7, 0] rfl)
    · refine lv_bipush (v := 10) C.1.1 C.1.2.1 dX8_swap_128 (by decide) ?_
      refine lv_iload C.1.1 C.1.2.1 dX8_swap_130 (lv_at hl 6 rfl) ?_
      refine lv_imul C.1.1 C.1.2.1 dX8_swap_132 ?_
      refine lv_iload C.1.1 C.1.2.1 dX8_swap_133 (lv_at hl 7 rfl) ?_
      refine lv_iadd C.1.1 C.1.2.1 dX8_swap_135 ?_
      refine lv_goto (tgt := 141) C.1.1 C.1.2.1 dX8_swap_136 (by decide) ?_
      simp only [if_neg hc17] at J hl
      exact J ls (lv_sub hl [1, 2, 3, 4, 6, 7, 0] rfl)
set_option maxHeartbeats 4000000 in
set_option maxRecDepth 100000 in
theorem l_X8_swap_53 {x1 : Int32} {x2 : Int32} {x5 : Int32} {K38 : Int32 → Int32 → Int32 → Mem → Prop} {Q : Int32 → Mem → Prop} (C : Cx p s m args c cX8_swap 8 RX8 g) (hr : meth.sig.returnType = (some .int)) (hk : meth.locks = false) (hK38 : ∀ (x3 : Int32) (x4 : Int32) (x5 : Int32) (M : Mem) (H : Heap) (locs : List Loc) (ls : Array Slot), K38 x3 x4 x5 M → Wd g layM 12 s.heap M H locs → lv_has ls 8 [(0, .ref (ga g 0)), (1, .int x1), (2, .int x2), (3, .int x3), (4, .int x4), (5, .int x5)] → W p l e (rmOf 5 120) s m args below meth c H locs 0 0 (MQ below (va_Qi Q (PostW g layM 12) (gF g)) args s 0 0 (gF g)) (F0 m 38 ls [])) : ∀ (n : Nat) (x3 : Int32) (x4 : Int32) (x6 : Int32) (M : Mem) (H : Heap) (locs : List Loc) (ls : Array Slot), fu4 (w_X8_swap_53 x1 x2 x5 K38 Q) n x3 x4 x6 M → Wd g layM 12 s.heap M H locs → lv_has ls 8 [(0, .ref (ga g 0)), (1, .int x1), (2, .int x2), (3, .int x3), (4, .int x4), (5, .int x5), (6, .int x6)] → W p l e (rmOf 5 120) s m args below meth c H locs 0 0 (MQ below (va_Qi Q (PostW g layM 12) (gF g)) args s 0 0 (gF g)) (F0 m 53 ls []) := by
  intro n
  induction n with
  | zero => intro x3 x4 x6 M H locs ls h; exact h.elim
  | succ n ih => intro x3 x4 x6 M H locs ls h w hl; exact v_X8_swap_53 C hr hk  hK38 ih h w hl
set_option maxHeartbeats 4000000 in
set_option maxRecDepth 100000 in
theorem v_X8_swap_38 {x1 : Int32} {x2 : Int32} {x3 : Int32} {x4 : Int32} {x5 : Int32} {M : Mem} {K38 : Int32 → Int32 → Int32 → Mem → Prop} {Q : Int32 → Mem → Prop} {H : Heap} {locs : List Loc} {ls : Array Slot} (C : Cx p s m args c cX8_swap 8 RX8 g) (hr : meth.sig.returnType = (some .int)) (hk : meth.locks = false) (hK38 : ∀ (x3 : Int32) (x4 : Int32) (x5 : Int32) (M : Mem) (H : Heap) (locs : List Loc) (ls : Array Slot), K38 x3 x4 x5 M → Wd g layM 12 s.heap M H locs → lv_has ls 8 [(0, .ref (ga g 0)), (1, .int x1), (2, .int x2), (3, .int x3), (4, .int x4), (5, .int x5)] → W p l e (rmOf 5 120) s m args below meth c H locs 0 0 (MQ below (va_Qi Q (PostW g layM 12) (gF g)) args s 0 0 (gF g)) (F0 m 38 ls [])) (h : w_X8_swap_38 x1 x2 Q K38 x3 x4 x5 M) (w : Wd g layM 12 s.heap M H locs) (hl : lv_has ls 8 [(0, .ref (ga g 0)), (1, .int x1), (2, .int x2), (3, .int x3), (4, .int x4), (5, .int x5)]) : W p l e (rmOf 5 120) s m args below meth c H locs 0 0 (MQ below (va_Qi Q (PostW g layM 12) (gF g)) args s 0 0 (gF g)) (F0 m 38 ls []) := by
  unfold w_X8_swap_38 at h
  refine lv_iload C.1.1 C.1.2.1 dX8_swap_38 (lv_at hl 5 rfl) ?_
  refine lv_aload_n C.1.1 C.1.2.1 dX8_swap_40 rfl (lv_at hl 0 rfl) ?_
  refine gi_RX8_116 C w hm_0 lm_0 rfl dX8_swap_41 ?_
  refine lv_icmp_ge (tgt := 168) C.1.1 C.1.2.1 dX8_swap_44 (by decide) (fun hc7 => ?_) (fun hc7 => ?_)
  · replace h := h.1 hc7
    exact v_X8_swap_168 C hr hk   h w (lv_sub hl [2, 3, 4] rfl)
  · replace h := h.2 hc7
    refine lv_iload C.1.1 C.1.2.1 dX8_swap_47 (lv_at hl 5 rfl) ?_
    refine lv_iconst (v := 1) C.1.1 C.1.2.1 dX8_swap_49 (by decide) ?_
    refine lv_iadd C.1.1 C.1.2.1 dX8_swap_50 ?_
    refine lv_istore (lv' := [(6, .int (x5 + 1)), (0, .ref (ga g 0)), (1, .int x1), (2, .int x2), (3, .int x3), (4, .int x4), (5, .int x5)]) C.1.1 C.1.2.1 dX8_swap_51 hl (by decide) rfl (fun ls hl => ?_)
    obtain ⟨n, h⟩ := h
    exact l_X8_swap_53 C hr hk  hK38 n _ _ _ _ _ _ _ h w (lv_sub hl [1, 2, 3, 4, 5, 6, 0] rfl)
set_option maxHeartbeats 4000000 in
set_option maxRecDepth 100000 in
theorem l_X8_swap_38 {x1 : Int32} {x2 : Int32} {Q : Int32 → Mem → Prop} (C : Cx p s m args c cX8_swap 8 RX8 g) (hr : meth.sig.returnType = (some .int)) (hk : meth.locks = false)  : ∀ (n : Nat) (x3 : Int32) (x4 : Int32) (x5 : Int32) (M : Mem) (H : Heap) (locs : List Loc) (ls : Array Slot), fu4 (w_X8_swap_38 x1 x2 Q) n x3 x4 x5 M → Wd g layM 12 s.heap M H locs → lv_has ls 8 [(0, .ref (ga g 0)), (1, .int x1), (2, .int x2), (3, .int x3), (4, .int x4), (5, .int x5)] → W p l e (rmOf 5 120) s m args below meth c H locs 0 0 (MQ below (va_Qi Q (PostW g layM 12) (gF g)) args s 0 0 (gF g)) (F0 m 38 ls []) := by
  intro n
  induction n with
  | zero => intro x3 x4 x5 M H locs ls h; exact h.elim
  | succ n ih => intro x3 x4 x5 M H locs ls h w hl; exact v_X8_swap_38 C hr hk   ih h w hl
set_option maxHeartbeats 4000000 in
set_option maxRecDepth 100000 in
theorem c_X8_swap {l : Launch} {g : Gt} {x1 : Int32} {x2 : Int32} {M : Mem} {Q : Int32 → Mem → Prop} (h : w_X8_swap x1 x2 M Q) : MI l yX8_swap cX8_swap 8 (some .int) 5 120 g layM 12 [.ref (ga g 0), .int x1, .int x2] M Q :=
  m_of (by decide +kernel) (Nat.le_of_ble_eq_true rfl) (fun p e s m args below meth c ls C hr hk w hl => by
    have C : Cx p s m args c cX8_swap 8 RX8 g := C
    have hl : lv_has ls 8 [(0, .ref (ga g 0)), (1, .int x1), (2, .int x2)] := hl
    unfold w_X8_swap at h
    obtain ⟨H, eH⟩ : ∃ H : Heap, H = s.heap := ⟨_, rfl⟩
    obtain ⟨locs, el⟩ : ∃ locs : List Loc, locs = [] := ⟨_, rfl⟩
    have w : Wd g layM 12 s.heap M H locs := by rw [eH, el]; exact w
    suffices hw : W p l e (rmOf 5 120) s m args below meth c H locs 0 0 (MQ below (va_Qi Q (PostW g layM 12) (gF g)) args s 0 0 (gF g)) (F0 m 0 ls []) by rw [eH, el] at hw; exact hw
    clear eH el
    refine lv_iload_n C.1.1 C.1.2.1 dX8_swap_0 rfl (lv_at hl 1 rfl) ?_
    refine lv_i2l C.1.1 C.1.2.1 dX8_swap_1 rfl ?_
    refine lv_lconst (v := 0) C.1.1 C.1.2.1 dX8_swap_2 (by decide) ?_
    refine q_ldc2 C k_122 dX8_swap_3 ?_
    refine q_pSi C w [.long (x1.toInt64), .long 0, .long 60] (c_X8_in  h) ks_X8_in k_95  rfl hl.1 (Nat.le_of_ble_eq_true rfl) ⟨Nat.le_of_ble_eq_true rfl, Nat.le_of_ble_eq_true rfl⟩ dX8_swap_6 (fun r1 H locs h w => ?_)
    refine lv_if_eq (tgt := 22) C.1.1 C.1.2.1 dX8_swap_9 (by decide) (fun hc2 => ?_) (fun hc2 => ?_)
    · replace h := h.1 hc2
      refine lv_iconst (v := (-1)) C.1.1 C.1.2.1 dX8_swap_22 (by decide) ?_
      exact q_iret C hr hk w rfl h dX8_swap_23
    · replace h := h.2 hc2
      refine lv_iload_n C.1.1 C.1.2.1 dX8_swap_12 rfl (lv_at hl 2 rfl) ?_
      refine lv_i2l C.1.1 C.1.2.1 dX8_swap_13 rfl ?_
      refine lv_lconst (v := 0) C.1.1 C.1.2.1 dX8_swap_14 (by decide) ?_
      refine lv_lconst (v := 1) C.1.1 C.1.2.1 dX8_swap_15 (by decide) ?_
      refine q_pSi C w [.long (x2.toInt64), .long 0, .long 1] (c_X8_in  h) ks_X8_in k_95  rfl hl.1 (Nat.le_of_ble_eq_true rfl) ⟨Nat.le_of_ble_eq_true rfl, Nat.le_of_ble_eq_true rfl⟩ dX8_swap_16 (fun r3 H locs h w => ?_)
      refine lv_if_ne (tgt := 24) C.1.1 C.1.2.1 dX8_swap_19 (by decide) (fun hc4 => ?_) (fun hc4 => ?_)
      · replace h := h.2 hc4
        refine lv_aload_n C.1.1 C.1.2.1 dX8_swap_24 rfl (lv_at hl 0 rfl) ?_
        refine lv_iconst (v := 0) C.1.1 C.1.2.1 dX8_swap_25 (by decide) ?_
        refine lv_iload_n C.1.1 C.1.2.1 dX8_swap_26 rfl (lv_at hl 1 rfl) ?_
        refine q_cVi C w [.int 0, .int x1] (c_X8_nightsGo  h) kv_X8_nightsGo k_129 (rcv C w kc_X8 hm_0 lm_0) rfl hl.1 (Nat.le_of_ble_eq_true rfl) ⟨Nat.le_of_ble_eq_true rfl, Nat.le_of_ble_eq_true rfl⟩ dX8_swap_27 (fun r5 M6 H locs h w => ?_)
        refine lv_istore_n (lv' := [(3, .int r5), (0, .ref (ga g 0)), (1, .int x1), (2, .int x2)]) C.1.1 C.1.2.1 dX8_swap_30 rfl hl (by decide) rfl (fun ls hl => ?_)
        refine lv_bipush (v := (-4)) C.1.1 C.1.2.1 dX8_swap_31 (by decide) ?_
        refine lv_istore (lv' := [(4, .int (-4)), (3, .int r5), (0, .ref (ga g 0)), (1, .int x1), (2, .int x2)]) C.1.1 C.1.2.1 dX8_swap_33 hl (by decide) rfl (fun ls hl => ?_)
        refine lv_iconst (v := 0) C.1.1 C.1.2.1 dX8_swap_35 (by decide) ?_
        refine lv_istore (lv' := [(5, .int 0), (4, .int (-4)), (3, .int r5), (0, .ref (ga g 0)), (1, .int x1), (2, .int x2)]) C.1.1 C.1.2.1 dX8_swap_36 hl (by decide) rfl (fun ls hl => ?_)
        obtain ⟨n, h⟩ := h
        exact l_X8_swap_38 C hr hk   n _ _ _ _ _ _ _ h w (lv_sub hl [3, 4, 5, 2, 1, 0] rfl)
      · replace h := h.1 hc4
        refine lv_iconst (v := (-1)) C.1.1 C.1.2.1 dX8_swap_22 (by decide) ?_
        exact q_iret C hr hk w rfl h dX8_swap_23)
-- round
set_option maxHeartbeats 4000000 in
set_option maxRecDepth 100000 in
theorem v_X8_round_151 {x3 : Int32} {x4 : Int32} {x5 : Int32} {M : Mem} {Q : Int32 → Mem → Prop} {H : Heap} {locs : List Loc} {ls : Array Slot} (C : Cx p s m args c cX8_round 7 RX8 g) (hr : meth.sig.returnType = (some .int)) (hk : meth.locks = false)  (h : w_X8_round_151 x3 x4 x5 M Q) (w : Wd g layM 12 s.heap M H locs) (hl : lv_has ls 7 [(3, .int x3), (4, .int x4), (5, .int x5)]) : W p l e (rmOf 5 120) s m args below meth c H locs 0 0 (MQ below (va_Qi Q (PostW g layM 12) (gF g)) args s 0 0 (gF g)) (F0 m 151 ls []) := by
  unfold w_X8_round_151 at h
  refine lv_iload_n C.1.1 C.1.2.1 dX8_round_151 rfl (lv_at hl 0 rfl) ?_
  have J : ∀ ls : Array Slot, lv_has ls 7 [] → W p l e (rmOf 5 120) s m args below meth c H locs 0 0 (MQ below (va_Qi Q (PostW g layM 12) (gF g)) args s 0 0 (gF g)) (F0 m 162 ls [.int (if x3 = 0 then x5 else x4)]) := by
    intro ls hl
    exact q_iret C hr hk w rfl h dX8_round_162
  refine lv_if_ne (tgt := 160) C.1.1 C.1.2.1 dX8_round_152 (by decide) (fun hc8 => ?_) (fun hc8 => ?_)
  · refine lv_iload C.1.1 C.1.2.1 dX8_round_160 (lv_at hl 1 rfl) ?_
    simp only [if_neg hc8] at J hl
    exact J ls (lv_sub hl [] rfl)
  · refine lv_iload C.1.1 C.1.2.1 dX8_round_155 (lv_at hl 2 rfl) ?_
    refine lv_goto (tgt := 162) C.1.1 C.1.2.1 dX8_round_157 (by decide) ?_
    simp only [if_pos hc8] at J hl
    exact J ls (lv_sub hl [] rfl)
set_option maxHeartbeats 4000000 in
set_option maxRecDepth 100000 in
theorem v_X8_round_123 {x1 : Int32} {x2 : Int32} {x3 : Int32} {x4 : Int32} {x6 : Int32} {t0 : Int32} {M : Mem} {K41 : Int32 → Int32 → Int32 → Mem → Prop} {Q : Int32 → Mem → Prop} {H : Heap} {locs : List Loc} {ls : Array Slot} (C : Cx p s m args c cX8_round 7 RX8 g) (hr : meth.sig.returnType = (some .int)) (hk : meth.locks = false) (hK41 : ∀ (x4 : Int32) (x5 : Int32) (x6 : Int32) (M : Mem) (H : Heap) (locs : List Loc) (ls : Array Slot), K41 x4 x5 x6 M → Wd g layM 12 s.heap M H locs → lv_has ls 7 [(0, .ref (ga g 0)), (1, .int x1), (2, .int x2), (3, .int x3), (4, .int x4), (5, .int x5), (6, .int x6)] → W p l e (rmOf 5 120) s m args below meth c H locs 0 0 (MQ below (va_Qi Q (PostW g layM 12) (gF g)) args s 0 0 (gF g)) (F0 m 41 ls [])) (h : w_X8_round_123 x1 x2 x3 x4 x6 t0 M K41 Q) (w : Wd g layM 12 s.heap M H locs) (hl : lv_has ls 7 [(0, .ref (ga g 0)), (1, .int x1), (2, .int x2), (3, .int x3), (4, .int x4), (6, .int x6)]) : W p l e (rmOf 5 120) s m args below meth c H locs 0 0 (MQ below (va_Qi Q (PostW g layM 12) (gF g)) args s 0 0 (gF g)) (F0 m 123 ls [.int t0]) := by
  unfold w_X8_round_123 at h
  refine lv_istore (lv' := [(5, .int t0), (0, .ref (ga g 0)), (1, .int x1), (2, .int x2), (3, .int x3), (4, .int x4), (6, .int x6)]) C.1.1 C.1.2.1 dX8_round_123 hl (by decide) rfl (fun ls hl => ?_)
  refine lv_aload_n C.1.1 C.1.2.1 dX8_round_125 rfl (lv_at hl 1 rfl) ?_
  refine gi_RX8_134 C w hm_0 lm_0 rfl dX8_round_126 ?_
  refine lv_iload C.1.1 C.1.2.1 dX8_round_129 (lv_at hl 5 rfl) ?_
  have J : ∀ ls : Array Slot, lv_has ls 7 [(0, .ref (ga g 0)), (1, .int x1), (2, .int x2), (3, .int x3), (5, .int t0), (6, .int x6)] → W p l e (rmOf 5 120) s m args below meth c H locs 0 0 (MQ below (va_Qi Q (PostW g layM 12) (gF g)) args s 0 0 (gF g)) (F0 m 143 ls [.int (if (M 0 18) ≤ x4 then x4 else (M 0 18))]) := by
    intro ls hl
    refine lv_istore (lv' := [(4, .int (if (M 0 18) ≤ x4 then x4 else (M 0 18))), (0, .ref (ga g 0)), (1, .int x1), (2, .int x2), (3, .int x3), (5, .int t0), (6, .int x6)]) C.1.1 C.1.2.1 dX8_round_143 hl (by decide) rfl (fun ls hl => ?_)
    refine lv_iinc (v := x6 + 1) (lv' := [(6, .int (x6 + 1)), (4, .int (if (M 0 18) ≤ x4 then x4 else (M 0 18))), (0, .ref (ga g 0)), (1, .int x1), (2, .int x2), (3, .int x3), (5, .int t0)]) C.1.1 C.1.2.1 dX8_round_145 hl (k := 6) rfl rfl (by decide) rfl (fun ls hl => ?_)
    refine lv_goto (tgt := 41) C.1.1 C.1.2.1 dX8_round_148 (by decide) ?_
    exact hK41 _ _ _ _ _ _ _ h w (lv_sub hl [2, 3, 4, 5, 1, 6, 0] rfl)
  refine lv_icmp_le (tgt := 141) C.1.1 C.1.2.1 dX8_round_131 (by decide) (fun hc16 => ?_) (fun hc16 => ?_)
  · refine lv_iload C.1.1 C.1.2.1 dX8_round_141 (lv_at hl 5 rfl) ?_
    simp only [if_pos hc16] at J hl
    exact J ls (lv_sub hl [1, 2, 3, 4, 0, 6] rfl)
  · refine lv_aload_n C.1.1 C.1.2.1 dX8_round_134 rfl (lv_at hl 1 rfl) ?_
    refine gi_RX8_134 C w hm_0 lm_0 rfl dX8_round_135 ?_
    refine lv_goto (tgt := 143) C.1.1 C.1.2.1 dX8_round_138 (by decide) ?_
    simp only [if_neg hc16] at J hl
    exact J ls (lv_sub hl [1, 2, 3, 4, 0, 6] rfl)
set_option maxHeartbeats 4000000 in
set_option maxRecDepth 100000 in
theorem v_X8_round_41 {x1 : Int32} {x2 : Int32} {x3 : Int32} {x4 : Int32} {x5 : Int32} {x6 : Int32} {M : Mem} {K41 : Int32 → Int32 → Int32 → Mem → Prop} {Q : Int32 → Mem → Prop} {H : Heap} {locs : List Loc} {ls : Array Slot} (C : Cx p s m args c cX8_round 7 RX8 g) (hr : meth.sig.returnType = (some .int)) (hk : meth.locks = false) (hK41 : ∀ (x4 : Int32) (x5 : Int32) (x6 : Int32) (M : Mem) (H : Heap) (locs : List Loc) (ls : Array Slot), K41 x4 x5 x6 M → Wd g layM 12 s.heap M H locs → lv_has ls 7 [(0, .ref (ga g 0)), (1, .int x1), (2, .int x2), (3, .int x3), (4, .int x4), (5, .int x5), (6, .int x6)] → W p l e (rmOf 5 120) s m args below meth c H locs 0 0 (MQ below (va_Qi Q (PostW g layM 12) (gF g)) args s 0 0 (gF g)) (F0 m 41 ls [])) (h : w_X8_round_41 x1 x2 x3 Q K41 x4 x5 x6 M) (w : Wd g layM 12 s.heap M H locs) (hl : lv_has ls 7 [(0, .ref (ga g 0)), (1, .int x1), (2, .int x2), (3, .int x3), (4, .int x4), (5, .int x5), (6, .int x6)]) : W p l e (rmOf 5 120) s m args below meth c H locs 0 0 (MQ below (va_Qi Q (PostW g layM 12) (gF g)) args s 0 0 (gF g)) (F0 m 41 ls []) := by
  unfold w_X8_round_41 at h
  refine lv_iload C.1.1 C.1.2.1 dX8_round_41 (lv_at hl 6 rfl) ?_
  refine lv_bipush (v := 36) C.1.1 C.1.2.1 dX8_round_43 (by decide) ?_
  refine lv_icmp_ge (tgt := 151) C.1.1 C.1.2.1 dX8_round_45 (by decide) (fun hc7 => ?_) (fun hc7 => ?_)
  · replace h := h.1 hc7
    exact v_X8_round_151 C hr hk   h w (lv_sub hl [3, 4, 5] rfl)
  · replace h := h.2 hc7
    refine lv_aload_n C.1.1 C.1.2.1 dX8_round_48 rfl (lv_at hl 0 rfl) ?_
    refine lv_iconst (v := 0) C.1.1 C.1.2.1 dX8_round_49 (by decide) ?_
    refine lv_sipush (v := 220) C.1.1 C.1.2.1 dX8_round_50 (by decide) ?_
    refine q_cVv C w [.int 0, .int 220] (c_X8_copies  h) kv_X8_copies k_127 (rcv C w kc_X8 hm_0 lm_0) rfl hl.1 (Nat.le_of_ble_eq_true rfl) ⟨Nat.le_of_ble_eq_true rfl, Nat.le_of_ble_eq_true rfl⟩ dX8_round_53 (fun M10 H locs h w => ?_)
    refine lv_aload_n C.1.1 C.1.2.1 dX8_round_56 rfl (lv_at hl 0 rfl) ?_
    refine gr_RX8_7 C w hm_0 lm_0 rfl dX8_round_57 ?_
    refine lv_sipush (v := 252) C.1.1 C.1.2.1 dX8_round_60 (by decide) ?_
    refine lv_iload_n C.1.1 C.1.2.1 dX8_round_63 rfl (lv_at hl 1 rfl) ?_
    refine lv_iadd C.1.1 C.1.2.1 dX8_round_64 ?_
    refine lv_iload C.1.1 C.1.2.1 dX8_round_65 (lv_at hl 6 rfl) ?_
    refine lv_bipush (v := 6) C.1.1 C.1.2.1 dX8_round_67 (by decide) ?_
    refine lv_idiv C.1.1 C.1.2.1 dX8_round_69 (by decide) ?_
    refine q_ias C w hm_1 lm_1 h.1 dX8_round_70 (fun M11 H locs eM11 w => ?_)
    replace h := h.2 M11 eM11
    refine lv_aload_n C.1.1 C.1.2.1 dX8_round_71 rfl (lv_at hl 0 rfl) ?_
    refine gr_RX8_7 C w hm_0 lm_0 rfl dX8_round_72 ?_
    refine lv_sipush (v := 255) C.1.1 C.1.2.1 dX8_round_75 (by decide) ?_
    refine lv_iload_n C.1.1 C.1.2.1 dX8_round_78 rfl (lv_at hl 1 rfl) ?_
    refine lv_iadd C.1.1 C.1.2.1 dX8_round_79 ?_
    refine lv_iload C.1.1 C.1.2.1 dX8_round_80 (lv_at hl 6 rfl) ?_
    refine lv_bipush (v := 6) C.1.1 C.1.2.1 dX8_round_82 (by decide) ?_
    refine q_irem C dX8_round_84 (by decide) ?_
    refine q_ias C w hm_1 lm_1 h.1 dX8_round_85 (fun M12 H locs eM12 w => ?_)
    replace h := h.2 M12 eM12
    refine lv_aload_n C.1.1 C.1.2.1 dX8_round_86 rfl (lv_at hl 0 rfl) ?_
    refine lv_sipush (v := 220) C.1.1 C.1.2.1 dX8_round_87 (by decide) ?_
    refine lv_iload_n C.1.1 C.1.2.1 dX8_round_90 rfl (lv_at hl 2 rfl) ?_
    refine q_cVi C w [.int 220, .int x2] (c_X8_nightsGo  h) kv_X8_nightsGo k_129 (rcv C w kc_X8 hm_0 lm_0) rfl hl.1 (Nat.le_of_ble_eq_true rfl) ⟨Nat.le_of_ble_eq_true rfl, Nat.le_of_ble_eq_true rfl⟩ dX8_round_91 (fun r13 M14 H locs h w => ?_)
    refine lv_pop C.1.1 C.1.2.1 dX8_round_94 rfl ?_
    refine lv_aload_n C.1.1 C.1.2.1 dX8_round_95 rfl (lv_at hl 0 rfl) ?_
    refine gi_RX8_134 C w hm_0 lm_0 rfl dX8_round_96 ?_
    refine lv_iload C.1.1 C.1.2.1 dX8_round_99 (lv_at hl 4 rfl) ?_
    refine lv_icmp_le (tgt := 121) C.1.1 C.1.2.1 dX8_round_101 (by decide) (fun hc15 => ?_) (fun hc15 => ?_)
    · replace h := h.1 hc15
      refine lv_iload C.1.1 C.1.2.1 dX8_round_121 (lv_at hl 5 rfl) ?_
      exact v_X8_round_123 C hr hk  hK41 h w (lv_sub hl [0, 1, 2, 3, 4, 6] rfl)
    · replace h := h.2 hc15
      refine lv_bipush (v := 10) C.1.1 C.1.2.1 dX8_round_104 (by decide) ?_
      refine lv_iload C.1.1 C.1.2.1 dX8_round_106 (lv_at hl 6 rfl) ?_
      refine lv_bipush (v := 6) C.1.1 C.1.2.1 dX8_round_108 (by decide) ?_
      refine lv_idiv C.1.1 C.1.2.1 dX8_round_110 (by decide) ?_
      refine lv_imul C.1.1 C.1.2.1 dX8_round_111 ?_
      refine lv_iload C.1.1 C.1.2.1 dX8_round_112 (lv_at hl 6 rfl) ?_
      refine lv_bipush (v := 6) C.1.1 C.1.2.1 dX8_round_114 (by decide) ?_
      refine q_irem C dX8_round_116 (by decide) ?_
      refine lv_iadd C.1.1 C.1.2.1 dX8_round_117 ?_
      refine lv_goto (tgt := 123) C.1.1 C.1.2.1 dX8_round_118 (by decide) ?_
      exact v_X8_round_123 C hr hk  hK41 h w (lv_sub hl [0, 1, 2, 3, 4, 6] rfl)
set_option maxHeartbeats 4000000 in
set_option maxRecDepth 100000 in
theorem l_X8_round_41 {x1 : Int32} {x2 : Int32} {x3 : Int32} {Q : Int32 → Mem → Prop} (C : Cx p s m args c cX8_round 7 RX8 g) (hr : meth.sig.returnType = (some .int)) (hk : meth.locks = false)  : ∀ (n : Nat) (x4 : Int32) (x5 : Int32) (x6 : Int32) (M : Mem) (H : Heap) (locs : List Loc) (ls : Array Slot), fu4 (w_X8_round_41 x1 x2 x3 Q) n x4 x5 x6 M → Wd g layM 12 s.heap M H locs → lv_has ls 7 [(0, .ref (ga g 0)), (1, .int x1), (2, .int x2), (3, .int x3), (4, .int x4), (5, .int x5), (6, .int x6)] → W p l e (rmOf 5 120) s m args below meth c H locs 0 0 (MQ below (va_Qi Q (PostW g layM 12) (gF g)) args s 0 0 (gF g)) (F0 m 41 ls []) := by
  intro n
  induction n with
  | zero => intro x4 x5 x6 M H locs ls h; exact h.elim
  | succ n ih => intro x4 x5 x6 M H locs ls h w hl; exact v_X8_round_41 C hr hk   ih h w hl
set_option maxHeartbeats 4000000 in
set_option maxRecDepth 100000 in
theorem c_X8_round {l : Launch} {g : Gt} {x1 : Int32} {x2 : Int32} {x3 : Int32} {M : Mem} {Q : Int32 → Mem → Prop} (h : w_X8_round x1 x2 x3 M Q) : MI l yX8_round cX8_round 7 (some .int) 5 120 g layM 12 [.ref (ga g 0), .int x1, .int x2, .int x3] M Q :=
  m_of (by decide +kernel) (Nat.le_of_ble_eq_true rfl) (fun p e s m args below meth c ls C hr hk w hl => by
    have C : Cx p s m args c cX8_round 7 RX8 g := C
    have hl : lv_has ls 7 [(0, .ref (ga g 0)), (1, .int x1), (2, .int x2), (3, .int x3)] := hl
    unfold w_X8_round at h
    obtain ⟨H, eH⟩ : ∃ H : Heap, H = s.heap := ⟨_, rfl⟩
    obtain ⟨locs, el⟩ : ∃ locs : List Loc, locs = [] := ⟨_, rfl⟩
    have w : Wd g layM 12 s.heap M H locs := by rw [eH, el]; exact w
    suffices hw : W p l e (rmOf 5 120) s m args below meth c H locs 0 0 (MQ below (va_Qi Q (PostW g layM 12) (gF g)) args s 0 0 (gF g)) (F0 m 0 ls []) by rw [eH, el] at hw; exact hw
    clear eH el
    refine lv_aload_n C.1.1 C.1.2.1 dX8_round_0 rfl (lv_at hl 0 rfl) ?_
    refine lv_iload_n C.1.1 C.1.2.1 dX8_round_1 rfl (lv_at hl 1 rfl) ?_
    refine q_pVi C w [.int x1] (c_X8_isKeeper  h) kv_X8_isKeeper k_117 (rcv C w kc_X8 hm_0 lm_0) rfl hl.1 (Nat.le_of_ble_eq_true rfl) ⟨Nat.le_of_ble_eq_true rfl, Nat.le_of_ble_eq_true rfl⟩ dX8_round_2 (fun r1 H locs h w => ?_)
    refine lv_if_eq (tgt := 30) C.1.1 C.1.2.1 dX8_round_5 (by decide) (fun hc2 => ?_) (fun hc2 => ?_)
    · replace h := h.1 hc2
      refine lv_iconst (v := (-1)) C.1.1 C.1.2.1 dX8_round_30 (by decide) ?_
      exact q_iret C hr hk w rfl h dX8_round_31
    · replace h := h.2 hc2
      refine lv_iload_n C.1.1 C.1.2.1 dX8_round_8 rfl (lv_at hl 2 rfl) ?_
      refine lv_i2l C.1.1 C.1.2.1 dX8_round_9 rfl ?_
      refine lv_lconst (v := 0) C.1.1 C.1.2.1 dX8_round_10 (by decide) ?_
      refine q_ldc2 C k_122 dX8_round_11 ?_
      refine q_pSi C w [.long (x2.toInt64), .long 0, .long 60] (c_X8_in  h) ks_X8_in k_95  rfl hl.1 (Nat.le_of_ble_eq_true rfl) ⟨Nat.le_of_ble_eq_true rfl, Nat.le_of_ble_eq_true rfl⟩ dX8_round_14 (fun r3 H locs h w => ?_)
      refine lv_if_eq (tgt := 30) C.1.1 C.1.2.1 dX8_round_17 (by decide) (fun hc4 => ?_) (fun hc4 => ?_)
      · replace h := h.1 hc4
        refine lv_iconst (v := (-1)) C.1.1 C.1.2.1 dX8_round_30 (by decide) ?_
        exact q_iret C hr hk w rfl h dX8_round_31
      · replace h := h.2 hc4
        refine lv_iload_n C.1.1 C.1.2.1 dX8_round_20 rfl (lv_at hl 3 rfl) ?_
        refine lv_i2l C.1.1 C.1.2.1 dX8_round_21 rfl ?_
        refine lv_lconst (v := 0) C.1.1 C.1.2.1 dX8_round_22 (by decide) ?_
        refine lv_lconst (v := 1) C.1.1 C.1.2.1 dX8_round_23 (by decide) ?_
        refine q_pSi C w [.long (x3.toInt64), .long 0, .long 1] (c_X8_in  h) ks_X8_in k_95  rfl hl.1 (Nat.le_of_ble_eq_true rfl) ⟨Nat.le_of_ble_eq_true rfl, Nat.le_of_ble_eq_true rfl⟩ dX8_round_24 (fun r5 H locs h w => ?_)
        refine lv_if_ne (tgt := 32) C.1.1 C.1.2.1 dX8_round_27 (by decide) (fun hc6 => ?_) (fun hc6 => ?_)
        · replace h := h.2 hc6
          refine lv_iconst (v := (-1)) C.1.1 C.1.2.1 dX8_round_32 (by decide) ?_
          refine lv_istore (lv' := [(4, .int (-1)), (0, .ref (ga g 0)), (1, .int x1), (2, .int x2), (3, .int x3)]) C.1.1 C.1.2.1 dX8_round_33 hl (by decide) rfl (fun ls hl => ?_)
          refine lv_iconst (v := 0) C.1.1 C.1.2.1 dX8_round_35 (by decide) ?_
          refine lv_istore (lv' := [(5, .int 0), (4, .int (-1)), (0, .ref (ga g 0)), (1, .int x1), (2, .int x2), (3, .int x3)]) C.1.1 C.1.2.1 dX8_round_36 hl (by decide) rfl (fun ls hl => ?_)
          refine lv_iconst (v := 0) C.1.1 C.1.2.1 dX8_round_38 (by decide) ?_
          refine lv_istore (lv' := [(6, .int 0), (5, .int 0), (4, .int (-1)), (0, .ref (ga g 0)), (1, .int x1), (2, .int x2), (3, .int x3)]) C.1.1 C.1.2.1 dX8_round_39 hl (by decide) rfl (fun ls hl => ?_)
          obtain ⟨n, h⟩ := h
          exact l_X8_round_41 C hr hk   n _ _ _ _ _ _ _ h w (lv_sub hl [3, 4, 5, 6, 2, 1, 0] rfl)
        · replace h := h.1 hc6
          refine lv_iconst (v := (-1)) C.1.1 C.1.2.1 dX8_round_30 (by decide) ?_
          exact q_iret C hr hk w rfl h dX8_round_31)
-- post
set_option maxHeartbeats 4000000 in
set_option maxRecDepth 100000 in
theorem v_X8_post_134 {x3 : Int32} {x4 : Int32} {x5 : Int32} {M : Mem} {Q : Int32 → Mem → Prop} {H : Heap} {locs : List Loc} {ls : Array Slot} (C : Cx p s m args c cX8_post 8 RX8 g) (hr : meth.sig.returnType = (some .int)) (hk : meth.locks = false)  (h : w_X8_post_134 x3 x4 x5 M Q) (w : Wd g layM 12 s.heap M H locs) (hl : lv_has ls 8 [(3, .int x3), (4, .int x4), (5, .int x5)]) : W p l e (rmOf 5 120) s m args below meth c H locs 0 0 (MQ below (va_Qi Q (PostW g layM 12) (gF g)) args s 0 0 (gF g)) (F0 m 134 ls []) := by
  unfold w_X8_post_134 at h
  refine lv_iload_n C.1.1 C.1.2.1 dX8_post_134 rfl (lv_at hl 0 rfl) ?_
  have J : ∀ ls : Array Slot, lv_has ls 8 [] → W p l e (rmOf 5 120) s m args below meth c H locs 0 0 (MQ below (va_Qi Q (PostW g layM 12) (gF g)) args s 0 0 (gF g)) (F0 m 145 ls [.int (if x3 = 0 then x5 else x4)]) := by
    intro ls hl
    exact q_iret C hr hk w rfl h dX8_post_145
  refine lv_if_ne (tgt := 143) C.1.1 C.1.2.1 dX8_post_135 (by decide) (fun hc9 => ?_) (fun hc9 => ?_)
  · refine lv_iload C.1.1 C.1.2.1 dX8_post_143 (lv_at hl 1 rfl) ?_
    simp only [if_neg hc9] at J hl
    exact J ls (lv_sub hl [] rfl)
  · refine lv_iload C.1.1 C.1.2.1 dX8_post_138 (lv_at hl 2 rfl) ?_
    refine lv_goto (tgt := 145) C.1.1 C.1.2.1 dX8_post_140 (by decide) ?_
    simp only [if_pos hc9] at J hl
    exact J ls (lv_sub hl [] rfl)
set_option maxHeartbeats 4000000 in
set_option maxRecDepth 100000 in
theorem v_X8_post_60 {x1 : Int32} {x2 : Int32} {x3 : Int32} {x4 : Int32} {x5 : Int32} {x6 : Int32} {M : Mem} {K60 : Int32 → Int32 → Int32 → Mem → Prop} {Q : Int32 → Mem → Prop} {H : Heap} {locs : List Loc} {ls : Array Slot} (C : Cx p s m args c cX8_post 8 RX8 g) (hr : meth.sig.returnType = (some .int)) (hk : meth.locks = false) (hK60 : ∀ (x4 : Int32) (x5 : Int32) (x6 : Int32) (M : Mem) (H : Heap) (locs : List Loc) (ls : Array Slot), K60 x4 x5 x6 M → Wd g layM 12 s.heap M H locs → lv_has ls 8 [(0, .ref (ga g 0)), (1, .int x1), (2, .int x2), (3, .int x3), (4, .int x4), (5, .int x5), (6, .int x6)] → W p l e (rmOf 5 120) s m args below meth c H locs 0 0 (MQ below (va_Qi Q (PostW g layM 12) (gF g)) args s 0 0 (gF g)) (F0 m 60 ls [])) (h : w_X8_post_60 x1 x2 x3 Q K60 x4 x5 x6 M) (w : Wd g layM 12 s.heap M H locs) (hl : lv_has ls 8 [(0, .ref (ga g 0)), (1, .int x1), (2, .int x2), (3, .int x3), (4, .int x4), (5, .int x5), (6, .int x6)]) : W p l e (rmOf 5 120) s m args below meth c H locs 0 0 (MQ below (va_Qi Q (PostW g layM 12) (gF g)) args s 0 0 (gF g)) (F0 m 60 ls []) := by
  unfold w_X8_post_60 at h
  refine lv_iload C.1.1 C.1.2.1 dX8_post_60 (lv_at hl 6 rfl) ?_
  refine lv_bipush (v := 6) C.1.1 C.1.2.1 dX8_post_62 (by decide) ?_
  refine lv_icmp_ge (tgt := 134) C.1.1 C.1.2.1 dX8_post_64 (by decide) (fun hc8 => ?_) (fun hc8 => ?_)
  · replace h := h.1 hc8
    exact v_X8_post_134 C hr hk   h w (lv_sub hl [3, 4, 5] rfl)
  · replace h := h.2 hc8
    refine lv_aload_n C.1.1 C.1.2.1 dX8_post_67 rfl (lv_at hl 0 rfl) ?_
    refine lv_iconst (v := 0) C.1.1 C.1.2.1 dX8_post_68 (by decide) ?_
    refine lv_sipush (v := 220) C.1.1 C.1.2.1 dX8_post_69 (by decide) ?_
    refine q_cVv C w [.int 0, .int 220] (c_X8_copies  h) kv_X8_copies k_127 (rcv C w kc_X8 hm_0 lm_0) rfl hl.1 (Nat.le_of_ble_eq_true rfl) ⟨Nat.le_of_ble_eq_true rfl, Nat.le_of_ble_eq_true rfl⟩ dX8_post_72 (fun M11 H locs h w => ?_)
    refine lv_aload_n C.1.1 C.1.2.1 dX8_post_75 rfl (lv_at hl 0 rfl) ?_
    refine lv_sipush (v := 220) C.1.1 C.1.2.1 dX8_post_76 (by decide) ?_
    refine lv_iload C.1.1 C.1.2.1 dX8_post_79 (lv_at hl 6 rfl) ?_
    refine lv_iconst (v := 0) C.1.1 C.1.2.1 dX8_post_81 (by decide) ?_
    refine lv_iload_n C.1.1 C.1.2.1 dX8_post_82 rfl (lv_at hl 1 rfl) ?_
    refine q_cVv C w [.int 220, .int x6, .int 0, .int x1] (c_X8_hiresOn  h) kv_X8_hiresOn k_123 (rcv C w kc_X8 hm_0 lm_0) rfl hl.1 (Nat.le_of_ble_eq_true rfl) ⟨Nat.le_of_ble_eq_true rfl, Nat.le_of_ble_eq_true rfl⟩ dX8_post_83 (fun M13 H locs h w => ?_)
    refine lv_aload_n C.1.1 C.1.2.1 dX8_post_86 rfl (lv_at hl 0 rfl) ?_
    refine lv_sipush (v := 220) C.1.1 C.1.2.1 dX8_post_87 (by decide) ?_
    refine lv_iload_n C.1.1 C.1.2.1 dX8_post_90 rfl (lv_at hl 2 rfl) ?_
    refine q_cVi C w [.int 220, .int x2] (c_X8_nightsGo  h) kv_X8_nightsGo k_129 (rcv C w kc_X8 hm_0 lm_0) rfl hl.1 (Nat.le_of_ble_eq_true rfl) ⟨Nat.le_of_ble_eq_true rfl, Nat.le_of_ble_eq_true rfl⟩ dX8_post_91 (fun r14 M15 H locs h w => ?_)
    refine lv_istore (lv' := [(7, .int r14), (0, .ref (ga g 0)), (1, .int x1), (2, .int x2), (3, .int x3), (4, .int x4), (5, .int x5), (6, .int x6)]) C.1.1 C.1.2.1 dX8_post_94 hl (by decide) rfl (fun ls hl => ?_)
    refine lv_iload C.1.1 C.1.2.1 dX8_post_96 (lv_at hl 0 rfl) ?_
    refine lv_iload C.1.1 C.1.2.1 dX8_post_98 (lv_at hl 5 rfl) ?_
    have J : ∀ ls : Array Slot, lv_has ls 8 [(0, .ref (ga g 0)), (1, .int x1), (2, .int x2), (3, .int x3), (4, .int x4), (6, .int x6), (7, .int r14)] → W p l e (rmOf 5 120) s m args below meth c H locs 0 0 (MQ below (va_Qi Q (PostW g layM 12) (gF g)) args s 0 0 (gF g)) (F0 m 110 ls [.int (if x4 ≤ r14 then x5 else x6)]) := by
      intro ls hl
      refine lv_istore (lv' := [(5, .int (if x4 ≤ r14 then x5 else x6)), (0, .ref (ga g 0)), (1, .int x1), (2, .int x2), (3, .int x3), (4, .int x4), (6, .int x6), (7, .int r14)]) C.1.1 C.1.2.1 dX8_post_110 hl (by decide) rfl (fun ls hl => ?_)
      refine lv_iload C.1.1 C.1.2.1 dX8_post_112 (lv_at hl 7 rfl) ?_
      refine lv_iload C.1.1 C.1.2.1 dX8_post_114 (lv_at hl 5 rfl) ?_
      have J : ∀ ls : Array Slot, lv_has ls 8 [(0, .ref (ga g 0)), (1, .int x1), (2, .int x2), (3, .int x3), (5, .int (if x4 ≤ r14 then x5 else x6)), (6, .int x6)] → W p l e (rmOf 5 120) s m args below meth c H locs 0 0 (MQ below (va_Qi Q (PostW g layM 12) (gF g)) args s 0 0 (gF g)) (F0 m 126 ls [.int (if x4 ≤ r14 then x4 else r14)]) := by
        intro ls hl
        refine lv_istore (lv' := [(4, .int (if x4 ≤ r14 then x4 else r14)), (0, .ref (ga g 0)), (1, .int x1), (2, .int x2), (3, .int x3), (5, .int (if x4 ≤ r14 then x5 else x6)), (6, .int x6)]) C.1.1 C.1.2.1 dX8_post_126 hl (by decide) rfl (fun ls hl => ?_)
        refine lv_iinc (v := x6 + 1) (lv' := [(6, .int (x6 + 1)), (4, .int (if x4 ≤ r14 then x4 else r14)), (0, .ref (ga g 0)), (1, .int x1), (2, .int x2), (3, .int x3), (5, .int (if x4 ≤ r14 then x5 else x6))]) C.1.1 C.1.2.1 dX8_post_128 hl (k := 6) rfl rfl (by decide) rfl (fun ls hl => ?_)
        refine lv_goto (tgt := 60) C.1.1 C.1.2.1 dX8_post_131 (by decide) ?_
        exact hK60 _ _ _ _ _ _ _ h w (lv_sub hl [2, 3, 4, 5, 1, 6, 0] rfl)
      refine lv_icmp_ge (tgt := 124) C.1.1 C.1.2.1 dX8_post_116 (by decide) (fun hc17 => ?_) (fun hc17 => ?_)
      · refine lv_iload C.1.1 C.1.2.1 dX8_post_124 (lv_at hl 5 rfl) ?_
        simp only [if_pos hc17] at J hl
        exact J ls (lv_sub hl [1, 2, 3, 4, 0, 6] rfl)
      · refine lv_iload C.1.1 C.1.2.1 dX8_post_119 (lv_at hl 7 rfl) ?_
        refine lv_goto (tgt := 126) C.1.1 C.1.2.1 dX8_post_121 (by decide) ?_
        simp only [if_neg hc17] at J hl
        exact J ls (lv_sub hl [1, 2, 3, 4, 0, 6] rfl)
    refine lv_icmp_ge (tgt := 108) C.1.1 C.1.2.1 dX8_post_100 (by decide) (fun hc16 => ?_) (fun hc16 => ?_)
    · refine lv_iload C.1.1 C.1.2.1 dX8_post_108 (lv_at hl 6 rfl) ?_
      simp only [if_pos hc16] at J hl
      exact J ls (lv_sub hl [1, 2, 3, 4, 5, 7, 0] rfl)
    · refine lv_iload C.1.1 C.1.2.1 dX8_post_103 (lv_at hl 7 rfl) ?_
      refine lv_goto (tgt := 110) C.1.1 C.1.2.1 dX8_post_105 (by decide) ?_
      simp only [if_neg hc16] at J hl
      exact J ls (lv_sub hl [1, 2, 3, 4, 5, 7, 0] rfl)
set_option maxHeartbeats 4000000 in
set_option maxRecDepth 100000 in
theorem l_X8_post_60 {x1 : Int32} {x2 : Int32} {x3 : Int32} {Q : Int32 → Mem → Prop} (C : Cx p s m args c cX8_post 8 RX8 g) (hr : meth.sig.returnType = (some .int)) (hk : meth.locks = false)  : ∀ (n : Nat) (x4 : Int32) (x5 : Int32) (x6 : Int32) (M : Mem) (H : Heap) (locs : List Loc) (ls : Array Slot), fu4 (w_X8_post_60 x1 x2 x3 Q) n x4 x5 x6 M → Wd g layM 12 s.heap M H locs → lv_has ls 8 [(0, .ref (ga g 0)), (1, .int x1), (2, .int x2), (3, .int x3), (4, .int x4), (5, .int x5), (6, .int x6)] → W p l e (rmOf 5 120) s m args below meth c H locs 0 0 (MQ below (va_Qi Q (PostW g layM 12) (gF g)) args s 0 0 (gF g)) (F0 m 60 ls []) := by
  intro n
  induction n with
  | zero => intro x4 x5 x6 M H locs ls h; exact h.elim
  | succ n ih => intro x4 x5 x6 M H locs ls h w hl; exact v_X8_post_60 C hr hk   ih h w hl
set_option maxHeartbeats 4000000 in
set_option maxRecDepth 100000 in
theorem c_X8_post {l : Launch} {g : Gt} {x1 : Int32} {x2 : Int32} {x3 : Int32} {M : Mem} {Q : Int32 → Mem → Prop} (h : w_X8_post x1 x2 x3 M Q) : MI l yX8_post cX8_post 8 (some .int) 5 120 g layM 12 [.ref (ga g 0), .int x1, .int x2, .int x3] M Q :=
  m_of (by decide +kernel) (Nat.le_of_ble_eq_true rfl) (fun p e s m args below meth c ls C hr hk w hl => by
    have C : Cx p s m args c cX8_post 8 RX8 g := C
    have hl : lv_has ls 8 [(0, .ref (ga g 0)), (1, .int x1), (2, .int x2), (3, .int x3)] := hl
    unfold w_X8_post at h
    obtain ⟨H, eH⟩ : ∃ H : Heap, H = s.heap := ⟨_, rfl⟩
    obtain ⟨locs, el⟩ : ∃ locs : List Loc, locs = [] := ⟨_, rfl⟩
    have w : Wd g layM 12 s.heap M H locs := by rw [eH, el]; exact w
    suffices hw : W p l e (rmOf 5 120) s m args below meth c H locs 0 0 (MQ below (va_Qi Q (PostW g layM 12) (gF g)) args s 0 0 (gF g)) (F0 m 0 ls []) by rw [eH, el] at hw; exact hw
    clear eH el
    refine lv_iload_n C.1.1 C.1.2.1 dX8_post_0 rfl (lv_at hl 1 rfl) ?_
    refine lv_i2l C.1.1 C.1.2.1 dX8_post_1 rfl ?_
    refine lv_lconst (v := 1) C.1.1 C.1.2.1 dX8_post_2 (by decide) ?_
    refine q_ldc2 C k_121 dX8_post_3 ?_
    refine q_pSi C w [.long (x1.toInt64), .long 1, .long 9] (c_X8_in  h) ks_X8_in k_95  rfl hl.1 (Nat.le_of_ble_eq_true rfl) ⟨Nat.le_of_ble_eq_true rfl, Nat.le_of_ble_eq_true rfl⟩ dX8_post_6 (fun r1 H locs h w => ?_)
    refine lv_if_eq (tgt := 34) C.1.1 C.1.2.1 dX8_post_9 (by decide) (fun hc2 => ?_) (fun hc2 => ?_)
    · replace h := h.1 hc2
      refine lv_iconst (v := (-1)) C.1.1 C.1.2.1 dX8_post_34 (by decide) ?_
      exact q_iret C hr hk w rfl h dX8_post_35
    · replace h := h.2 hc2
      refine lv_iload_n C.1.1 C.1.2.1 dX8_post_12 rfl (lv_at hl 2 rfl) ?_
      refine lv_i2l C.1.1 C.1.2.1 dX8_post_13 rfl ?_
      refine lv_lconst (v := 0) C.1.1 C.1.2.1 dX8_post_14 (by decide) ?_
      refine q_ldc2 C k_122 dX8_post_15 ?_
      refine q_pSi C w [.long (x2.toInt64), .long 0, .long 60] (c_X8_in  h) ks_X8_in k_95  rfl hl.1 (Nat.le_of_ble_eq_true rfl) ⟨Nat.le_of_ble_eq_true rfl, Nat.le_of_ble_eq_true rfl⟩ dX8_post_18 (fun r3 H locs h w => ?_)
      refine lv_if_eq (tgt := 34) C.1.1 C.1.2.1 dX8_post_21 (by decide) (fun hc4 => ?_) (fun hc4 => ?_)
      · replace h := h.1 hc4
        refine lv_iconst (v := (-1)) C.1.1 C.1.2.1 dX8_post_34 (by decide) ?_
        exact q_iret C hr hk w rfl h dX8_post_35
      · replace h := h.2 hc4
        refine lv_iload_n C.1.1 C.1.2.1 dX8_post_24 rfl (lv_at hl 3 rfl) ?_
        refine lv_i2l C.1.1 C.1.2.1 dX8_post_25 rfl ?_
        refine lv_lconst (v := 0) C.1.1 C.1.2.1 dX8_post_26 (by decide) ?_
        refine lv_lconst (v := 1) C.1.1 C.1.2.1 dX8_post_27 (by decide) ?_
        refine q_pSi C w [.long (x3.toInt64), .long 0, .long 1] (c_X8_in  h) ks_X8_in k_95  rfl hl.1 (Nat.le_of_ble_eq_true rfl) ⟨Nat.le_of_ble_eq_true rfl, Nat.le_of_ble_eq_true rfl⟩ dX8_post_28 (fun r5 H locs h w => ?_)
        refine lv_if_ne (tgt := 36) C.1.1 C.1.2.1 dX8_post_31 (by decide) (fun hc6 => ?_) (fun hc6 => ?_)
        · replace h := h.2 hc6
          refine lv_aload_n C.1.1 C.1.2.1 dX8_post_36 rfl (lv_at hl 0 rfl) ?_
          refine gr_RX8_7 C w hm_0 lm_0 rfl dX8_post_37 ?_
          refine lv_bipush (v := 41) C.1.1 C.1.2.1 dX8_post_40 (by decide) ?_
          refine q_ial C w hm_1 lm_1 h.1 dX8_post_42 ?_
          replace h := h.2
          refine lv_iconst (v := 3) C.1.1 C.1.2.1 dX8_post_43 (by decide) ?_
          refine lv_icmp_ne (tgt := 50) C.1.1 C.1.2.1 dX8_post_44 (by decide) (fun hc7 => ?_) (fun hc7 => ?_)
          · replace h := h.2 hc7
            refine q_ldc C k_130 dX8_post_50 ?_
            refine lv_istore (lv' := [(4, .int 1000000), (0, .ref (ga g 0)), (1, .int x1), (2, .int x2), (3, .int x3)]) C.1.1 C.1.2.1 dX8_post_52 hl (by decide) rfl (fun ls hl => ?_)
            refine lv_iconst (v := 0) C.1.1 C.1.2.1 dX8_post_54 (by decide) ?_
            refine lv_istore (lv' := [(5, .int 0), (4, .int 1000000), (0, .ref (ga g 0)), (1, .int x1), (2, .int x2), (3, .int x3)]) C.1.1 C.1.2.1 dX8_post_55 hl (by decide) rfl (fun ls hl => ?_)
            refine lv_iconst (v := 0) C.1.1 C.1.2.1 dX8_post_57 (by decide) ?_
            refine lv_istore (lv' := [(6, .int 0), (5, .int 0), (4, .int 1000000), (0, .ref (ga g 0)), (1, .int x1), (2, .int x2), (3, .int x3)]) C.1.1 C.1.2.1 dX8_post_58 hl (by decide) rfl (fun ls hl => ?_)
            obtain ⟨n, h⟩ := h
            exact l_X8_post_60 C hr hk   n _ _ _ _ _ _ _ h w (lv_sub hl [3, 4, 5, 6, 2, 1, 0] rfl)
          · replace h := h.1 hc7
            refine lv_bipush (v := (-3)) C.1.1 C.1.2.1 dX8_post_47 (by decide) ?_
            exact q_iret C hr hk w rfl h dX8_post_49
        · replace h := h.1 hc6
          refine lv_iconst (v := (-1)) C.1.1 C.1.2.1 dX8_post_34 (by decide) ?_
          exact q_iret C hr hk w rfl h dX8_post_35)
-- kind
set_option maxHeartbeats 4000000 in
set_option maxRecDepth 100000 in
theorem v_X8_kind_126 {x3 : Int32} {x4 : Int32} {x5 : Int32} {M : Mem} {Q : Int32 → Mem → Prop} {H : Heap} {locs : List Loc} {ls : Array Slot} (C : Cx p s m args c cX8_kind 8 RX8 g) (hr : meth.sig.returnType = (some .int)) (hk : meth.locks = false)  (h : w_X8_kind_126 x3 x4 x5 M Q) (w : Wd g layM 12 s.heap M H locs) (hl : lv_has ls 8 [(3, .int x3), (4, .int x4), (5, .int x5)]) : W p l e (rmOf 5 120) s m args below meth c H locs 0 0 (MQ below (va_Qi Q (PostW g layM 12) (gF g)) args s 0 0 (gF g)) (F0 m 126 ls []) := by
  unfold w_X8_kind_126 at h
  refine lv_iload_n C.1.1 C.1.2.1 dX8_kind_126 rfl (lv_at hl 0 rfl) ?_
  have J : ∀ ls : Array Slot, lv_has ls 8 [] → W p l e (rmOf 5 120) s m args below meth c H locs 0 0 (MQ below (va_Qi Q (PostW g layM 12) (gF g)) args s 0 0 (gF g)) (F0 m 137 ls [.int (if x3 = 0 then x5 else x4)]) := by
    intro ls hl
    exact q_iret C hr hk w rfl h dX8_kind_137
  refine lv_if_ne (tgt := 135) C.1.1 C.1.2.1 dX8_kind_127 (by decide) (fun hc8 => ?_) (fun hc8 => ?_)
  · refine lv_iload C.1.1 C.1.2.1 dX8_kind_135 (lv_at hl 1 rfl) ?_
    simp only [if_neg hc8] at J hl
    exact J ls (lv_sub hl [] rfl)
  · refine lv_iload C.1.1 C.1.2.1 dX8_kind_130 (lv_at hl 2 rfl) ?_
    refine lv_goto (tgt := 137) C.1.1 C.1.2.1 dX8_kind_132 (by decide) ?_
    simp only [if_pos hc8] at J hl
    exact J ls (lv_sub hl [] rfl)
set_option maxHeartbeats 4000000 in
set_option maxRecDepth 100000 in
theorem v_X8_kind_41 {x1 : Int32} {x2 : Int32} {x3 : Int32} {x4 : Int32} {x5 : Int32} {x6 : Int32} {M : Mem} {K41 : Int32 → Int32 → Int32 → Mem → Prop} {Q : Int32 → Mem → Prop} {H : Heap} {locs : List Loc} {ls : Array Slot} (C : Cx p s m args c cX8_kind 8 RX8 g) (hr : meth.sig.returnType = (some .int)) (hk : meth.locks = false) (hK41 : ∀ (x4 : Int32) (x5 : Int32) (x6 : Int32) (M : Mem) (H : Heap) (locs : List Loc) (ls : Array Slot), K41 x4 x5 x6 M → Wd g layM 12 s.heap M H locs → lv_has ls 8 [(0, .ref (ga g 0)), (1, .int x1), (2, .int x2), (3, .int x3), (4, .int x4), (5, .int x5), (6, .int x6)] → W p l e (rmOf 5 120) s m args below meth c H locs 0 0 (MQ below (va_Qi Q (PostW g layM 12) (gF g)) args s 0 0 (gF g)) (F0 m 41 ls [])) (h : w_X8_kind_41 x1 x2 x3 Q K41 x4 x5 x6 M) (w : Wd g layM 12 s.heap M H locs) (hl : lv_has ls 8 [(0, .ref (ga g 0)), (1, .int x1), (2, .int x2), (3, .int x3), (4, .int x4), (5, .int x5), (6, .int x6)]) : W p l e (rmOf 5 120) s m args below meth c H locs 0 0 (MQ below (va_Qi Q (PostW g layM 12) (gF g)) args s 0 0 (gF g)) (F0 m 41 ls []) := by
  unfold w_X8_kind_41 at h
  refine lv_iload C.1.1 C.1.2.1 dX8_kind_41 (lv_at hl 6 rfl) ?_
  refine lv_iconst (v := 4) C.1.1 C.1.2.1 dX8_kind_43 (by decide) ?_
  refine lv_icmp_ge (tgt := 126) C.1.1 C.1.2.1 dX8_kind_44 (by decide) (fun hc7 => ?_) (fun hc7 => ?_)
  · replace h := h.1 hc7
    exact v_X8_kind_126 C hr hk   h w (lv_sub hl [3, 4, 5] rfl)
  · replace h := h.2 hc7
    refine lv_aload_n C.1.1 C.1.2.1 dX8_kind_47 rfl (lv_at hl 0 rfl) ?_
    refine lv_iconst (v := 0) C.1.1 C.1.2.1 dX8_kind_48 (by decide) ?_
    refine lv_sipush (v := 220) C.1.1 C.1.2.1 dX8_kind_49 (by decide) ?_
    refine q_cVv C w [.int 0, .int 220] (c_X8_copies  h) kv_X8_copies k_127 (rcv C w kc_X8 hm_0 lm_0) rfl hl.1 (Nat.le_of_ble_eq_true rfl) ⟨Nat.le_of_ble_eq_true rfl, Nat.le_of_ble_eq_true rfl⟩ dX8_kind_52 (fun M10 H locs h w => ?_)
    refine lv_aload_n C.1.1 C.1.2.1 dX8_kind_55 rfl (lv_at hl 0 rfl) ?_
    refine gr_RX8_7 C w hm_0 lm_0 rfl dX8_kind_56 ?_
    refine lv_sipush (v := 232) C.1.1 C.1.2.1 dX8_kind_59 (by decide) ?_
    refine lv_iload_n C.1.1 C.1.2.1 dX8_kind_62 rfl (lv_at hl 1 rfl) ?_
    refine lv_iadd C.1.1 C.1.2.1 dX8_kind_63 ?_
    refine lv_iload C.1.1 C.1.2.1 dX8_kind_64 (lv_at hl 6 rfl) ?_
    refine q_ias C w hm_1 lm_1 h.1 dX8_kind_66 (fun M11 H locs eM11 w => ?_)
    replace h := h.2 M11 eM11
    refine lv_aload_n C.1.1 C.1.2.1 dX8_kind_67 rfl (lv_at hl 0 rfl) ?_
    refine lv_sipush (v := 220) C.1.1 C.1.2.1 dX8_kind_68 (by decide) ?_
    refine lv_iload_n C.1.1 C.1.2.1 dX8_kind_71 rfl (lv_at hl 2 rfl) ?_
    refine q_cVi C w [.int 220, .int x2] (c_X8_nightsGo  h) kv_X8_nightsGo k_129 (rcv C w kc_X8 hm_0 lm_0) rfl hl.1 (Nat.le_of_ble_eq_true rfl) ⟨Nat.le_of_ble_eq_true rfl, Nat.le_of_ble_eq_true rfl⟩ dX8_kind_72 (fun r12 M13 H locs h w => ?_)
    refine lv_pop C.1.1 C.1.2.1 dX8_kind_75 rfl ?_
    refine lv_aload_n C.1.1 C.1.2.1 dX8_kind_76 rfl (lv_at hl 0 rfl) ?_
    refine gr_RX8_7 C w hm_0 lm_0 rfl dX8_kind_77 ?_
    refine lv_sipush (v := 198) C.1.1 C.1.2.1 dX8_kind_80 (by decide) ?_
    refine lv_iload_n C.1.1 C.1.2.1 dX8_kind_83 rfl (lv_at hl 1 rfl) ?_
    refine lv_iadd C.1.1 C.1.2.1 dX8_kind_84 ?_
    refine q_ial C w hm_1 lm_1 h.1 dX8_kind_85 ?_
    replace h := h.2
    refine lv_istore (lv' := [(7, .int (M13 1 (198 + x1).toNatClampNeg)), (0, .ref (ga g 0)), (1, .int x1), (2, .int x2), (3, .int x3), (4, .int x4), (5, .int x5), (6, .int x6)]) C.1.1 C.1.2.1 dX8_kind_86 hl (by decide) rfl (fun ls hl => ?_)
    refine lv_iload C.1.1 C.1.2.1 dX8_kind_88 (lv_at hl 0 rfl) ?_
    refine lv_iload C.1.1 C.1.2.1 dX8_kind_90 (lv_at hl 5 rfl) ?_
    have J : ∀ ls : Array Slot, lv_has ls 8 [(0, .ref (ga g 0)), (1, .int x1), (2, .int x2), (3, .int x3), (4, .int x4), (6, .int x6), (7, .int (M13 1 (198 + x1).toNatClampNeg))] → W p l e (rmOf 5 120) s m args below meth c H locs 0 0 (MQ below (va_Qi Q (PostW g layM 12) (gF g)) args s 0 0 (gF g)) (F0 m 102 ls [.int (if (M13 1 (198 + x1).toNatClampNeg) ≤ x4 then x5 else x6)]) := by
      intro ls hl
      refine lv_istore (lv' := [(5, .int (if (M13 1 (198 + x1).toNatClampNeg) ≤ x4 then x5 else x6)), (0, .ref (ga g 0)), (1, .int x1), (2, .int x2), (3, .int x3), (4, .int x4), (6, .int x6), (7, .int (M13 1 (198 + x1).toNatClampNeg))]) C.1.1 C.1.2.1 dX8_kind_102 hl (by decide) rfl (fun ls hl => ?_)
      refine lv_iload C.1.1 C.1.2.1 dX8_kind_104 (lv_at hl 7 rfl) ?_
      refine lv_iload C.1.1 C.1.2.1 dX8_kind_106 (lv_at hl 5 rfl) ?_
      have J : ∀ ls : Array Slot, lv_has ls 8 [(0, .ref (ga g 0)), (1, .int x1), (2, .int x2), (3, .int x3), (5, .int (if (M13 1 (198 + x1).toNatClampNeg) ≤ x4 then x5 else x6)), (6, .int x6)] → W p l e (rmOf 5 120) s m args below meth c H locs 0 0 (MQ below (va_Qi Q (PostW g layM 12) (gF g)) args s 0 0 (gF g)) (F0 m 118 ls [.int (if (M13 1 (198 + x1).toNatClampNeg) ≤ x4 then x4 else (M13 1 (198 + x1).toNatClampNeg))]) := by
        intro ls hl
        refine lv_topi (fun v16 ev16 => ?_)
        replace h := h v16 ev16
        refine lv_istore (lv' := [(4, .int v16), (0, .ref (ga g 0)), (1, .int x1), (2, .int x2), (3, .int x3), (5, .int (if (M13 1 (198 + x1).toNatClampNeg) ≤ x4 then x5 else x6)), (6, .int x6)]) C.1.1 C.1.2.1 dX8_kind_118 hl (by decide) rfl (fun ls hl => ?_)
        refine lv_iinc (v := x6 + 1) (lv' := [(6, .int (x6 + 1)), (4, .int v16), (0, .ref (ga g 0)), (1, .int x1), (2, .int x2), (3, .int x3), (5, .int (if (M13 1 (198 + x1).toNatClampNeg) ≤ x4 then x5 else x6))]) C.1.1 C.1.2.1 dX8_kind_120 hl (k := 6) rfl rfl (by decide) rfl (fun ls hl => ?_)
        refine lv_goto (tgt := 41) C.1.1 C.1.2.1 dX8_kind_123 (by decide) ?_
        exact hK41 _ _ _ _ _ _ _ h w (lv_sub hl [2, 3, 4, 5, 1, 6, 0] rfl)
      refine lv_icmp_le (tgt := 116) C.1.1 C.1.2.1 dX8_kind_108 (by decide) (fun hc15 => ?_) (fun hc15 => ?_)
      · refine lv_iload C.1.1 C.1.2.1 dX8_kind_116 (lv_at hl 5 rfl) ?_
        simp only [if_pos hc15] at J hl
        exact J ls (lv_sub hl [1, 2, 3, 4, 0, 6] rfl)
      · refine lv_iload C.1.1 C.1.2.1 dX8_kind_111 (lv_at hl 7 rfl) ?_
        refine lv_goto (tgt := 118) C.1.1 C.1.2.1 dX8_kind_113 (by decide) ?_
        simp only [if_neg hc15] at J hl
        exact J ls (lv_sub hl [1, 2, 3, 4, 0, 6] rfl)
    refine lv_icmp_le (tgt := 100) C.1.1 C.1.2.1 dX8_kind_92 (by decide) (fun hc14 => ?_) (fun hc14 => ?_)
    · refine lv_iload C.1.1 C.1.2.1 dX8_kind_100 (lv_at hl 6 rfl) ?_
      simp only [if_pos hc14] at J hl
      exact J ls (lv_sub hl [1, 2, 3, 4, 5, 7, 0] rfl)
    · refine lv_iload C.1.1 C.1.2.1 dX8_kind_95 (lv_at hl 7 rfl) ?_
      refine lv_goto (tgt := 102) C.1.1 C.1.2.1 dX8_kind_97 (by decide) ?_
      simp only [if_neg hc14] at J hl
      exact J ls (lv_sub hl [1, 2, 3, 4, 5, 7, 0] rfl)
set_option maxHeartbeats 4000000 in
set_option maxRecDepth 100000 in
theorem l_X8_kind_41 {x1 : Int32} {x2 : Int32} {x3 : Int32} {Q : Int32 → Mem → Prop} (C : Cx p s m args c cX8_kind 8 RX8 g) (hr : meth.sig.returnType = (some .int)) (hk : meth.locks = false)  : ∀ (n : Nat) (x4 : Int32) (x5 : Int32) (x6 : Int32) (M : Mem) (H : Heap) (locs : List Loc) (ls : Array Slot), fu4 (w_X8_kind_41 x1 x2 x3 Q) n x4 x5 x6 M → Wd g layM 12 s.heap M H locs → lv_has ls 8 [(0, .ref (ga g 0)), (1, .int x1), (2, .int x2), (3, .int x3), (4, .int x4), (5, .int x5), (6, .int x6)] → W p l e (rmOf 5 120) s m args below meth c H locs 0 0 (MQ below (va_Qi Q (PostW g layM 12) (gF g)) args s 0 0 (gF g)) (F0 m 41 ls []) := by
  intro n
  induction n with
  | zero => intro x4 x5 x6 M H locs ls h; exact h.elim
  | succ n ih => intro x4 x5 x6 M H locs ls h w hl; exact v_X8_kind_41 C hr hk   ih h w hl
set_option maxHeartbeats 4000000 in
set_option maxRecDepth 100000 in
theorem c_X8_kind {l : Launch} {g : Gt} {x1 : Int32} {x2 : Int32} {x3 : Int32} {M : Mem} {Q : Int32 → Mem → Prop} (h : w_X8_kind x1 x2 x3 M Q) : MI l yX8_kind cX8_kind 8 (some .int) 5 120 g layM 12 [.ref (ga g 0), .int x1, .int x2, .int x3] M Q :=
  m_of (by decide +kernel) (Nat.le_of_ble_eq_true rfl) (fun p e s m args below meth c ls C hr hk w hl => by
    have C : Cx p s m args c cX8_kind 8 RX8 g := C
    have hl : lv_has ls 8 [(0, .ref (ga g 0)), (1, .int x1), (2, .int x2), (3, .int x3)] := hl
    unfold w_X8_kind at h
    obtain ⟨H, eH⟩ : ∃ H : Heap, H = s.heap := ⟨_, rfl⟩
    obtain ⟨locs, el⟩ : ∃ locs : List Loc, locs = [] := ⟨_, rfl⟩
    have w : Wd g layM 12 s.heap M H locs := by rw [eH, el]; exact w
    suffices hw : W p l e (rmOf 5 120) s m args below meth c H locs 0 0 (MQ below (va_Qi Q (PostW g layM 12) (gF g)) args s 0 0 (gF g)) (F0 m 0 ls []) by rw [eH, el] at hw; exact hw
    clear eH el
    refine lv_aload_n C.1.1 C.1.2.1 dX8_kind_0 rfl (lv_at hl 0 rfl) ?_
    refine lv_iload_n C.1.1 C.1.2.1 dX8_kind_1 rfl (lv_at hl 1 rfl) ?_
    refine q_pVi C w [.int x1] (c_X8_isTaker  h) kv_X8_isTaker k_116 (rcv C w kc_X8 hm_0 lm_0) rfl hl.1 (Nat.le_of_ble_eq_true rfl) ⟨Nat.le_of_ble_eq_true rfl, Nat.le_of_ble_eq_true rfl⟩ dX8_kind_2 (fun r1 H locs h w => ?_)
    refine lv_if_eq (tgt := 30) C.1.1 C.1.2.1 dX8_kind_5 (by decide) (fun hc2 => ?_) (fun hc2 => ?_)
    · replace h := h.1 hc2
      refine lv_iconst (v := (-1)) C.1.1 C.1.2.1 dX8_kind_30 (by decide) ?_
      exact q_iret C hr hk w rfl h dX8_kind_31
    · replace h := h.2 hc2
      refine lv_iload_n C.1.1 C.1.2.1 dX8_kind_8 rfl (lv_at hl 2 rfl) ?_
      refine lv_i2l C.1.1 C.1.2.1 dX8_kind_9 rfl ?_
      refine lv_lconst (v := 0) C.1.1 C.1.2.1 dX8_kind_10 (by decide) ?_
      refine q_ldc2 C k_122 dX8_kind_11 ?_
      refine q_pSi C w [.long (x2.toInt64), .long 0, .long 60] (c_X8_in  h) ks_X8_in k_95  rfl hl.1 (Nat.le_of_ble_eq_true rfl) ⟨Nat.le_of_ble_eq_true rfl, Nat.le_of_ble_eq_true rfl⟩ dX8_kind_14 (fun r3 H locs h w => ?_)
      refine lv_if_eq (tgt := 30) C.1.1 C.1.2.1 dX8_kind_17 (by decide) (fun hc4 => ?_) (fun hc4 => ?_)
      · replace h := h.1 hc4
        refine lv_iconst (v := (-1)) C.1.1 C.1.2.1 dX8_kind_30 (by decide) ?_
        exact q_iret C hr hk w rfl h dX8_kind_31
      · replace h := h.2 hc4
        refine lv_iload_n C.1.1 C.1.2.1 dX8_kind_20 rfl (lv_at hl 3 rfl) ?_
        refine lv_i2l C.1.1 C.1.2.1 dX8_kind_21 rfl ?_
        refine lv_lconst (v := 0) C.1.1 C.1.2.1 dX8_kind_22 (by decide) ?_
        refine lv_lconst (v := 1) C.1.1 C.1.2.1 dX8_kind_23 (by decide) ?_
        refine q_pSi C w [.long (x3.toInt64), .long 0, .long 1] (c_X8_in  h) ks_X8_in k_95  rfl hl.1 (Nat.le_of_ble_eq_true rfl) ⟨Nat.le_of_ble_eq_true rfl, Nat.le_of_ble_eq_true rfl⟩ dX8_kind_24 (fun r5 H locs h w => ?_)
        refine lv_if_ne (tgt := 32) C.1.1 C.1.2.1 dX8_kind_27 (by decide) (fun hc6 => ?_) (fun hc6 => ?_)
        · replace h := h.2 hc6
          refine lv_iconst (v := (-1)) C.1.1 C.1.2.1 dX8_kind_32 (by decide) ?_
          refine lv_istore (lv' := [(4, .int (-1)), (0, .ref (ga g 0)), (1, .int x1), (2, .int x2), (3, .int x3)]) C.1.1 C.1.2.1 dX8_kind_33 hl (by decide) rfl (fun ls hl => ?_)
          refine lv_iconst (v := 0) C.1.1 C.1.2.1 dX8_kind_35 (by decide) ?_
          refine lv_istore (lv' := [(5, .int 0), (4, .int (-1)), (0, .ref (ga g 0)), (1, .int x1), (2, .int x2), (3, .int x3)]) C.1.1 C.1.2.1 dX8_kind_36 hl (by decide) rfl (fun ls hl => ?_)
          refine lv_iconst (v := 0) C.1.1 C.1.2.1 dX8_kind_38 (by decide) ?_
          refine lv_istore (lv' := [(6, .int 0), (5, .int 0), (4, .int (-1)), (0, .ref (ga g 0)), (1, .int x1), (2, .int x2), (3, .int x3)]) C.1.1 C.1.2.1 dX8_kind_39 hl (by decide) rfl (fun ls hl => ?_)
          obtain ⟨n, h⟩ := h
          exact l_X8_kind_41 C hr hk   n _ _ _ _ _ _ _ h w (lv_sub hl [3, 4, 5, 6, 2, 1, 0] rfl)
        · replace h := h.1 hc6
          refine lv_iconst (v := (-1)) C.1.1 C.1.2.1 dX8_kind_30 (by decide) ?_
          exact q_iret C hr hk w rfl h dX8_kind_31)
-- sharp
set_option maxHeartbeats 4000000 in
set_option maxRecDepth 100000 in
theorem v_X8_sharp_34 {x1 : Int32} {x2 : Int32} {x3 : Int32} {x4 : Int32} {M : Mem} {K34 : Int32 → Mem → Prop} {Q : Int32 → Mem → Prop} {H : Heap} {locs : List Loc} {ls : Array Slot} (C : Cx p s m args c cX8_sharp 5 RX8 g) (hr : meth.sig.returnType = (some .int)) (hk : meth.locks = false) (hK34 : ∀ (x4 : Int32) (M : Mem) (H : Heap) (locs : List Loc) (ls : Array Slot), K34 x4 M → Wd g layM 12 s.heap M H locs → lv_has ls 5 [(0, .ref (ga g 0)), (1, .int x1), (2, .int x2), (3, .int x3), (4, .int x4)] → W p l e (rmOf 5 120) s m args below meth c H locs 0 0 (MQ below (va_Qi Q (PostW g layM 12) (gF g)) args s 0 0 (gF g)) (F0 m 34 ls [])) (h : w_X8_sharp_34 x1 x2 x3 Q K34 x4 M) (w : Wd g layM 12 s.heap M H locs) (hl : lv_has ls 5 [(0, .ref (ga g 0)), (1, .int x1), (2, .int x2), (3, .int x3), (4, .int x4)]) : W p l e (rmOf 5 120) s m args below meth c H locs 0 0 (MQ below (va_Qi Q (PostW g layM 12) (gF g)) args s 0 0 (gF g)) (F0 m 34 ls []) := by
  unfold w_X8_sharp_34 at h
  refine lv_iload C.1.1 C.1.2.1 dX8_sharp_34 (lv_at hl 4 rfl) ?_
  refine lv_iconst (v := 1) C.1.1 C.1.2.1 dX8_sharp_36 (by decide) ?_
  refine lv_icmp_lt (tgt := 90) C.1.1 C.1.2.1 dX8_sharp_37 (by decide) (fun hc7 => ?_) (fun hc7 => ?_)
  · replace h := h.1 hc7
    refine lv_bipush (v := (-4)) C.1.1 C.1.2.1 dX8_sharp_90 (by decide) ?_
    exact q_iret C hr hk w rfl h dX8_sharp_92
  · replace h := h.2 hc7
    refine lv_aload_n C.1.1 C.1.2.1 dX8_sharp_40 rfl (lv_at hl 0 rfl) ?_
    refine lv_iconst (v := 0) C.1.1 C.1.2.1 dX8_sharp_41 (by decide) ?_
    refine lv_sipush (v := 220) C.1.1 C.1.2.1 dX8_sharp_42 (by decide) ?_
    refine q_cVv C w [.int 0, .int 220] (c_X8_copies  h) kv_X8_copies k_127 (rcv C w kc_X8 hm_0 lm_0) rfl hl.1 (Nat.le_of_ble_eq_true rfl) ⟨Nat.le_of_ble_eq_true rfl, Nat.le_of_ble_eq_true rfl⟩ dX8_sharp_45 (fun M9 H locs h w => ?_)
    refine lv_aload_n C.1.1 C.1.2.1 dX8_sharp_48 rfl (lv_at hl 0 rfl) ?_
    refine gr_RX8_7 C w hm_0 lm_0 rfl dX8_sharp_49 ?_
    refine lv_sipush (v := 258) C.1.1 C.1.2.1 dX8_sharp_52 (by decide) ?_
    refine lv_iload_n C.1.1 C.1.2.1 dX8_sharp_55 rfl (lv_at hl 1 rfl) ?_
    refine lv_iadd C.1.1 C.1.2.1 dX8_sharp_56 ?_
    refine lv_iload C.1.1 C.1.2.1 dX8_sharp_57 (lv_at hl 4 rfl) ?_
    refine q_ias C w hm_1 lm_1 h.1 dX8_sharp_59 (fun M10 H locs eM10 w => ?_)
    replace h := h.2 M10 eM10
    refine lv_aload_n C.1.1 C.1.2.1 dX8_sharp_60 rfl (lv_at hl 0 rfl) ?_
    refine lv_sipush (v := 220) C.1.1 C.1.2.1 dX8_sharp_61 (by decide) ?_
    refine lv_iload_n C.1.1 C.1.2.1 dX8_sharp_64 rfl (lv_at hl 3 rfl) ?_
    refine q_cVi C w [.int 220, .int x3] (c_X8_nightsGo  h) kv_X8_nightsGo k_129 (rcv C w kc_X8 hm_0 lm_0) rfl hl.1 (Nat.le_of_ble_eq_true rfl) ⟨Nat.le_of_ble_eq_true rfl, Nat.le_of_ble_eq_true rfl⟩ dX8_sharp_65 (fun r11 M12 H locs h w => ?_)
    refine lv_pop C.1.1 C.1.2.1 dX8_sharp_68 rfl ?_
    refine lv_aload_n C.1.1 C.1.2.1 dX8_sharp_69 rfl (lv_at hl 0 rfl) ?_
    refine gi_RX8_131 C w hm_0 lm_0 rfl dX8_sharp_70 ?_
    refine lv_iload_n C.1.1 C.1.2.1 dX8_sharp_73 rfl (lv_at hl 2 rfl) ?_
    refine q_ishr C dX8_sharp_74 ?_
    refine lv_iconst (v := 1) C.1.1 C.1.2.1 dX8_sharp_75 (by decide) ?_
    refine lv_iand C.1.1 C.1.2.1 dX8_sharp_76 ?_
    refine lv_iconst (v := 1) C.1.1 C.1.2.1 dX8_sharp_77 (by decide) ?_
    refine lv_icmp_ne (tgt := 84) C.1.1 C.1.2.1 dX8_sharp_78 (by decide) (fun hc13 => ?_) (fun hc13 => ?_)
    · replace h := h.2 hc13
      refine lv_iinc (v := x4 + (-1)) (lv' := [(4, .int (x4 + (-1))), (0, .ref (ga g 0)), (1, .int x1), (2, .int x2), (3, .int x3)]) C.1.1 C.1.2.1 dX8_sharp_84 hl (k := 4) rfl rfl (by decide) rfl (fun ls hl => ?_)
      refine lv_goto (tgt := 34) C.1.1 C.1.2.1 dX8_sharp_87 (by decide) ?_
      exact hK34 _ _ _ _ _ h w (lv_sub hl [1, 2, 3, 4, 0] rfl)
    · replace h := h.1 hc13
      refine lv_iload C.1.1 C.1.2.1 dX8_sharp_81 (lv_at hl 4 rfl) ?_
      exact q_iret C hr hk w rfl h dX8_sharp_83
set_option maxHeartbeats 4000000 in
set_option maxRecDepth 100000 in
theorem l_X8_sharp_34 {x1 : Int32} {x2 : Int32} {x3 : Int32} {Q : Int32 → Mem → Prop} (C : Cx p s m args c cX8_sharp 5 RX8 g) (hr : meth.sig.returnType = (some .int)) (hk : meth.locks = false)  : ∀ (n : Nat) (x4 : Int32) (M : Mem) (H : Heap) (locs : List Loc) (ls : Array Slot), fu2 (w_X8_sharp_34 x1 x2 x3 Q) n x4 M → Wd g layM 12 s.heap M H locs → lv_has ls 5 [(0, .ref (ga g 0)), (1, .int x1), (2, .int x2), (3, .int x3), (4, .int x4)] → W p l e (rmOf 5 120) s m args below meth c H locs 0 0 (MQ below (va_Qi Q (PostW g layM 12) (gF g)) args s 0 0 (gF g)) (F0 m 34 ls []) := by
  intro n
  induction n with
  | zero => intro x4 M H locs ls h; exact h.elim
  | succ n ih => intro x4 M H locs ls h w hl; exact v_X8_sharp_34 C hr hk   ih h w hl
set_option maxHeartbeats 4000000 in
set_option maxRecDepth 100000 in
theorem c_X8_sharp {l : Launch} {g : Gt} {x1 : Int32} {x2 : Int32} {x3 : Int32} {M : Mem} {Q : Int32 → Mem → Prop} (h : w_X8_sharp x1 x2 x3 M Q) : MI l yX8_sharp cX8_sharp 5 (some .int) 5 120 g layM 12 [.ref (ga g 0), .int x1, .int x2, .int x3] M Q :=
  m_of (by decide +kernel) (Nat.le_of_ble_eq_true rfl) (fun p e s m args below meth c ls C hr hk w hl => by
    have C : Cx p s m args c cX8_sharp 5 RX8 g := C
    have hl : lv_has ls 5 [(0, .ref (ga g 0)), (1, .int x1), (2, .int x2), (3, .int x3)] := hl
    unfold w_X8_sharp at h
    obtain ⟨H, eH⟩ : ∃ H : Heap, H = s.heap := ⟨_, rfl⟩
    obtain ⟨locs, el⟩ : ∃ locs : List Loc, locs = [] := ⟨_, rfl⟩
    have w : Wd g layM 12 s.heap M H locs := by rw [eH, el]; exact w
    suffices hw : W p l e (rmOf 5 120) s m args below meth c H locs 0 0 (MQ below (va_Qi Q (PostW g layM 12) (gF g)) args s 0 0 (gF g)) (F0 m 0 ls []) by rw [eH, el] at hw; exact hw
    clear eH el
    refine lv_aload_n C.1.1 C.1.2.1 dX8_sharp_0 rfl (lv_at hl 0 rfl) ?_
    refine lv_iload_n C.1.1 C.1.2.1 dX8_sharp_1 rfl (lv_at hl 1 rfl) ?_
    refine q_pVi C w [.int x1] (c_X8_isKeeper  h) kv_X8_isKeeper k_117 (rcv C w kc_X8 hm_0 lm_0) rfl hl.1 (Nat.le_of_ble_eq_true rfl) ⟨Nat.le_of_ble_eq_true rfl, Nat.le_of_ble_eq_true rfl⟩ dX8_sharp_2 (fun r1 H locs h w => ?_)
    refine lv_if_eq (tgt := 28) C.1.1 C.1.2.1 dX8_sharp_5 (by decide) (fun hc2 => ?_) (fun hc2 => ?_)
    · replace h := h.1 hc2
      refine lv_iconst (v := (-1)) C.1.1 C.1.2.1 dX8_sharp_28 (by decide) ?_
      exact q_iret C hr hk w rfl h dX8_sharp_29
    · replace h := h.2 hc2
      refine lv_aload_n C.1.1 C.1.2.1 dX8_sharp_8 rfl (lv_at hl 0 rfl) ?_
      refine lv_iload_n C.1.1 C.1.2.1 dX8_sharp_9 rfl (lv_at hl 2 rfl) ?_
      refine q_pVi C w [.int x2] (c_X8_isTaker  h) kv_X8_isTaker k_116 (rcv C w kc_X8 hm_0 lm_0) rfl hl.1 (Nat.le_of_ble_eq_true rfl) ⟨Nat.le_of_ble_eq_true rfl, Nat.le_of_ble_eq_true rfl⟩ dX8_sharp_10 (fun r3 H locs h w => ?_)
      refine lv_if_eq (tgt := 28) C.1.1 C.1.2.1 dX8_sharp_13 (by decide) (fun hc4 => ?_) (fun hc4 => ?_)
      · replace h := h.1 hc4
        refine lv_iconst (v := (-1)) C.1.1 C.1.2.1 dX8_sharp_28 (by decide) ?_
        exact q_iret C hr hk w rfl h dX8_sharp_29
      · replace h := h.2 hc4
        refine lv_iload_n C.1.1 C.1.2.1 dX8_sharp_16 rfl (lv_at hl 3 rfl) ?_
        refine lv_i2l C.1.1 C.1.2.1 dX8_sharp_17 rfl ?_
        refine lv_lconst (v := 0) C.1.1 C.1.2.1 dX8_sharp_18 (by decide) ?_
        refine q_ldc2 C k_122 dX8_sharp_19 ?_
        refine q_pSi C w [.long (x3.toInt64), .long 0, .long 60] (c_X8_in  h) ks_X8_in k_95  rfl hl.1 (Nat.le_of_ble_eq_true rfl) ⟨Nat.le_of_ble_eq_true rfl, Nat.le_of_ble_eq_true rfl⟩ dX8_sharp_22 (fun r5 H locs h w => ?_)
        refine lv_if_ne (tgt := 30) C.1.1 C.1.2.1 dX8_sharp_25 (by decide) (fun hc6 => ?_) (fun hc6 => ?_)
        · replace h := h.2 hc6
          refine lv_bipush (v := 9) C.1.1 C.1.2.1 dX8_sharp_30 (by decide) ?_
          refine lv_istore (lv' := [(4, .int 9), (0, .ref (ga g 0)), (1, .int x1), (2, .int x2), (3, .int x3)]) C.1.1 C.1.2.1 dX8_sharp_32 hl (by decide) rfl (fun ls hl => ?_)
          obtain ⟨n, h⟩ := h
          exact l_X8_sharp_34 C hr hk   n _ _ _ _ _ h w (lv_sub hl [1, 2, 3, 4, 0] rfl)
        · replace h := h.1 hc6
          refine lv_iconst (v := (-1)) C.1.1 C.1.2.1 dX8_sharp_28 (by decide) ?_
          exact q_iret C hr hk w rfl h dX8_sharp_29)
-- lowest
set_option maxHeartbeats 4000000 in
set_option maxRecDepth 100000 in
theorem v_X8_lowest_31 {y0 : Int64} {y2 : Int64} {x4 : Int32} {y5 : Int64} {M : Mem} {Q : Int64 → Prop} {H : Heap} {locs : List Loc} {ls : Array Slot} (C : Cx p s m args c cX8_lowest 11 RX8 g) (hr : meth.sig.returnType = (some .long)) (hk : meth.locks = false)  (h : w_X8_lowest_31 y0 y2 x4 y5 M Q) (w : Wd g layM 12 s.heap M H locs) (hl : lv_has ls 11 [(0, .long y0), (2, .long y2), (4, .int x4), (5, .long y5)]) : W p l e (rmOf 0 0) s m args below meth c H locs 0 0 (MQ below (va_Ql (fun r M9 => M9 = M ∧ Q r) (PostW g layM 12) (gF g)) args s 0 0 (gF g)) (F0 m 31 ls []) := by
  unfold w_X8_lowest_31 at h
  refine lv_iload C.1.1 C.1.2.1 dX8_lowest_31 (lv_at hl 2 rfl) ?_
  have J : ∀ ls : Array Slot, lv_has ls 11 [(5, .long y5)] → W p l e (rmOf 0 0) s m args below meth c H locs 0 0 (MQ below (va_Ql (fun r M9 => M9 = M ∧ Q r) (PostW g layM 12) (gF g)) args s 0 0 (gF g)) (F0 m 41 ls [.long (if x4 = 0 then y0 else y2)]) := by
    intro ls hl
    refine lv_lload C.1.1 C.1.2.1 dX8_lowest_41 (lv_at hl 0 rfl) ?_
    refine lv_ldiv C.1.1 C.1.2.1 dX8_lowest_43 h.1 ?_
    replace h := h.2
    exact q_lret C hr hk w ⟨rfl, h⟩ dX8_lowest_44
  refine lv_if_ne (tgt := 40) C.1.1 C.1.2.1 dX8_lowest_33 (by decide) (fun hc2 => ?_) (fun hc2 => ?_)
  · refine lv_lload_n C.1.1 C.1.2.1 dX8_lowest_40 rfl (lv_at hl 1 rfl) ?_
    simp only [if_neg hc2] at J hl
    exact J ls (lv_sub hl [3] rfl)
  · refine lv_lload_n C.1.1 C.1.2.1 dX8_lowest_36 rfl (lv_at hl 0 rfl) ?_
    refine lv_goto (tgt := 41) C.1.1 C.1.2.1 dX8_lowest_37 (by decide) ?_
    simp only [if_pos hc2] at J hl
    exact J ls (lv_sub hl [3] rfl)
set_option maxHeartbeats 4000000 in
set_option maxRecDepth 100000 in
theorem v_X8_lowest_6 {y0 : Int64} {y2 : Int64} {x4 : Int32} {y5 : Int64} {y7 : Int64} {M : Mem} {K6 : Int64 → Int64 → Prop} {Q : Int64 → Prop} {H : Heap} {locs : List Loc} {ls : Array Slot} (C : Cx p s m args c cX8_lowest 11 RX8 g) (hr : meth.sig.returnType = (some .long)) (hk : meth.locks = false) (hK6 : ∀ (y5 : Int64) (y7 : Int64) (H : Heap) (locs : List Loc) (ls : Array Slot), K6 y5 y7 → Wd g layM 12 s.heap M H locs → lv_has ls 11 [(0, .long y0), (2, .long y2), (4, .int x4), (5, .long y5), (7, .long y7)] → W p l e (rmOf 0 0) s m args below meth c H locs 0 0 (MQ below (va_Ql (fun r M9 => M9 = M ∧ Q r) (PostW g layM 12) (gF g)) args s 0 0 (gF g)) (F0 m 6 ls [])) (h : w_X8_lowest_6 y0 y2 x4 M Q K6 y5 y7) (w : Wd g layM 12 s.heap M H locs) (hl : lv_has ls 11 [(0, .long y0), (2, .long y2), (4, .int x4), (5, .long y5), (7, .long y7)]) : W p l e (rmOf 0 0) s m args below meth c H locs 0 0 (MQ below (va_Ql (fun r M9 => M9 = M ∧ Q r) (PostW g layM 12) (gF g)) args s 0 0 (gF g)) (F0 m 6 ls []) := by
  unfold w_X8_lowest_6 at h
  refine lv_lload C.1.1 C.1.2.1 dX8_lowest_6 (lv_at hl 4 rfl) ?_
  refine lv_lconst (v := 0) C.1.1 C.1.2.1 dX8_lowest_8 (by decide) ?_
  refine W.lcmp C.1.1 C.1.2.1 dX8_lowest_9 ?_
  refine lv_if_eq (tgt := 31) C.1.1 C.1.2.1 dX8_lowest_10 (by decide) (fun hc1 => ?_) (fun hc1 => ?_)
  · replace h := h.1 hc1
    exact v_X8_lowest_31 C hr hk   h w (lv_sub hl [0, 1, 2, 3] rfl)
  · replace h := h.2 hc1
    refine lv_lload C.1.1 C.1.2.1 dX8_lowest_13 (lv_at hl 3 rfl) ?_
    refine lv_lload C.1.1 C.1.2.1 dX8_lowest_15 (lv_at hl 4 rfl) ?_
    refine q_lrem C dX8_lowest_17 h.1 ?_
    replace h := h.2
    refine lv_lstore (lv' := [(9, .long (lrm y5 y7)), (0, .long y0), (2, .long y2), (4, .int x4), (5, .long y5), (7, .long y7)]) C.1.1 C.1.2.1 dX8_lowest_18 hl (by decide) rfl (fun ls hl => ?_)
    refine lv_lload C.1.1 C.1.2.1 dX8_lowest_20 (lv_at hl 5 rfl) ?_
    refine lv_lstore (lv' := [(5, .long y7), (9, .long (lrm y5 y7)), (0, .long y0), (2, .long y2), (4, .int x4), (7, .long y7)]) C.1.1 C.1.2.1 dX8_lowest_22 hl (by decide) rfl (fun ls hl => ?_)
    refine lv_lload C.1.1 C.1.2.1 dX8_lowest_24 (lv_at hl 1 rfl) ?_
    refine lv_lstore (lv' := [(7, .long (lrm y5 y7)), (5, .long y7), (9, .long (lrm y5 y7)), (0, .long y0), (2, .long y2), (4, .int x4)]) C.1.1 C.1.2.1 dX8_lowest_26 hl (by decide) rfl (fun ls hl => ?_)
    refine lv_goto (tgt := 6) C.1.1 C.1.2.1 dX8_lowest_28 (by decide) ?_
    exact hK6 _ _ _ _ _ h w (lv_sub hl [3, 4, 5, 1, 0] rfl)
set_option maxHeartbeats 4000000 in
set_option maxRecDepth 100000 in
theorem l_X8_lowest_6 {y0 : Int64} {y2 : Int64} {x4 : Int32} {M : Mem} {Q : Int64 → Prop} (C : Cx p s m args c cX8_lowest 11 RX8 g) (hr : meth.sig.returnType = (some .long)) (hk : meth.locks = false)  : ∀ (n : Nat) (y5 : Int64) (y7 : Int64) (H : Heap) (locs : List Loc) (ls : Array Slot), fu2 (w_X8_lowest_6 y0 y2 x4 M Q) n y5 y7 → Wd g layM 12 s.heap M H locs → lv_has ls 11 [(0, .long y0), (2, .long y2), (4, .int x4), (5, .long y5), (7, .long y7)] → W p l e (rmOf 0 0) s m args below meth c H locs 0 0 (MQ below (va_Ql (fun r M9 => M9 = M ∧ Q r) (PostW g layM 12) (gF g)) args s 0 0 (gF g)) (F0 m 6 ls []) := by
  intro n
  induction n with
  | zero => intro y5 y7 H locs ls h; exact h.elim
  | succ n ih => intro y5 y7 H locs ls h w hl; exact v_X8_lowest_6 C hr hk   ih h w hl
set_option maxHeartbeats 4000000 in
set_option maxRecDepth 100000 in
theorem c_X8_lowest {l : Launch} {g : Gt} {y0 : Int64} {y2 : Int64} {x4 : Int32} {M : Mem} {Q : Int64 → Prop} (h : w_X8_lowest y0 y2 x4 M Q) : ML l yX8_lowest cX8_lowest 11 (some .long) 0 0 g layM 12 [.long y0, .long y2, .int x4] M (fun r M9 => M9 = M ∧ Q r) :=
  m_of (by decide +kernel) (Nat.le_of_ble_eq_true rfl) (fun p e s m args below meth c ls C hr hk w hl => by
    have C : Cx p s m args c cX8_lowest 11 RX8 g := C
    have hl : lv_has ls 11 [(0, .long y0), (2, .long y2), (4, .int x4)] := hl
    unfold w_X8_lowest at h
    obtain ⟨H, eH⟩ : ∃ H : Heap, H = s.heap := ⟨_, rfl⟩
    obtain ⟨locs, el⟩ : ∃ locs : List Loc, locs = [] := ⟨_, rfl⟩
    have w : Wd g layM 12 s.heap M H locs := by rw [eH, el]; exact w
    suffices hw : W p l e (rmOf 0 0) s m args below meth c H locs 0 0 (MQ below (va_Ql (fun r M9 => M9 = M ∧ Q r) (PostW g layM 12) (gF g)) args s 0 0 (gF g)) (F0 m 0 ls []) by rw [eH, el] at hw; exact hw
    clear eH el
    refine lv_lload_n C.1.1 C.1.2.1 dX8_lowest_0 rfl (lv_at hl 0 rfl) ?_
    refine lv_lstore (lv' := [(5, .long y0), (0, .long y0), (2, .long y2), (4, .int x4)]) C.1.1 C.1.2.1 dX8_lowest_1 hl (by decide) rfl (fun ls hl => ?_)
    refine lv_lload_n C.1.1 C.1.2.1 dX8_lowest_3 rfl (lv_at hl 2 rfl) ?_
    refine lv_lstore (lv' := [(7, .long y2), (5, .long y0), (0, .long y0), (2, .long y2), (4, .int x4)]) C.1.1 C.1.2.1 dX8_lowest_4 hl (by decide) rfl (fun ls hl => ?_)
    obtain ⟨n, h⟩ := h
    exact l_X8_lowest_6 C hr hk   n _ _ _ _ _ h w (lv_sub hl [2, 3, 4, 1, 0] rfl))
-- byHaze
set_option maxHeartbeats 4000000 in
set_option maxRecDepth 100000 in
theorem v_X8_byHaze_155 {x4 : Int32} {y5 : Int64} {y7 : Int64} {M : Mem} {Q : Int64 → Mem → Prop} {H : Heap} {locs : List Loc} {ls : Array Slot} (C : Cx p s m args c cX8_byHaze 14 RX8 g) (hr : meth.sig.returnType = (some .long)) (hk : meth.locks = false)  (h : w_X8_byHaze_155 x4 y5 y7 M Q) (w : Wd g layM 12 s.heap M H locs) (hl : lv_has ls 14 [(4, .int x4), (5, .long y5), (7, .long y7)]) : W p l e (rmOf 4 97) s m args below meth c H locs 0 0 (MQ below (va_Ql Q (PostW g layM 12) (gF g)) args s 0 0 (gF g)) (F0 m 155 ls []) := by
  unfold w_X8_byHaze_155 at h
  refine lv_lload C.1.1 C.1.2.1 dX8_byHaze_155 (lv_at hl 1 rfl) ?_
  refine lv_lload C.1.1 C.1.2.1 dX8_byHaze_157 (lv_at hl 2 rfl) ?_
  refine lv_iload C.1.1 C.1.2.1 dX8_byHaze_159 (lv_at hl 0 rfl) ?_
  refine q_pSl C w [.long y5, .long y7, .int x4] (c_X8_lowest  h) ks_X8_lowest k_131  rfl hl.1 (Nat.le_of_ble_eq_true rfl) ⟨Nat.le_of_ble_eq_true rfl, Nat.le_of_ble_eq_true rfl⟩ dX8_byHaze_161 (fun r3 H locs h w => ?_)
  exact q_lret C hr hk w h dX8_byHaze_164
set_option maxHeartbeats 4000000 in
set_option maxRecDepth 100000 in
theorem v_X8_byHaze_117 {x1 : Int32} {x2 : Int32} {x3 : Int32} {x4 : Int32} {y5 : Int64} {y7 : Int64} {x9 : Int32} {y10 : Int64} {M : Mem} {K32 : Int64 → Int32 → Mem → Prop} {Q : Int64 → Mem → Prop} {H : Heap} {locs : List Loc} {ls : Array Slot} (C : Cx p s m args c cX8_byHaze 14 RX8 g) (hr : meth.sig.returnType = (some .long)) (hk : meth.locks = false) (hK32 : ∀ (y5 : Int64) (x9 : Int32) (M : Mem) (H : Heap) (locs : List Loc) (ls : Array Slot), K32 y5 x9 M → Wd g layM 12 s.heap M H locs → lv_has ls 14 [(0, .ref (ga g 0)), (1, .int x1), (2, .int x2), (3, .int x3), (4, .int x4), (5, .long y5), (7, .long y7), (9, .int x9)] → W p l e (rmOf 4 97) s m args below meth c H locs 0 0 (MQ below (va_Ql Q (PostW g layM 12) (gF g)) args s 0 0 (gF g)) (F0 m 32 ls [])) (h : w_X8_byHaze_117 x1 x2 x3 x4 y5 y7 x9 y10 M K32 Q) (w : Wd g layM 12 s.heap M H locs) (hl : lv_has ls 14 [(0, .ref (ga g 0)), (1, .int x1), (2, .int x2), (3, .int x3), (4, .int x4), (5, .long y5), (7, .long y7), (9, .int x9), (10, .long y10)]) : W p l e (rmOf 4 97) s m args below meth c H locs 0 0 (MQ below (va_Ql Q (PostW g layM 12) (gF g)) args s 0 0 (gF g)) (F0 m 117 ls []) := by
  unfold w_X8_byHaze_117 at h
  refine lv_lload C.1.1 C.1.2.1 dX8_byHaze_117 (lv_at hl 5 rfl) ?_
  refine lv_lload C.1.1 C.1.2.1 dX8_byHaze_119 (lv_at hl 8 rfl) ?_
  refine lv_iload_n C.1.1 C.1.2.1 dX8_byHaze_121 rfl (lv_at hl 2 rfl) ?_
  refine lv_bipush (v := (-4)) C.1.1 C.1.2.1 dX8_byHaze_122 (by decide) ?_
  have J : ∀ ls : Array Slot, lv_has ls 14 [(0, .ref (ga g 0)), (1, .int x1), (2, .int x2), (3, .int x3), (4, .int x4), (7, .long y7), (9, .int x9)] → W p l e (rmOf 4 97) s m args below meth c H locs 0 0 (MQ below (va_Ql Q (PostW g layM 12) (gF g)) args s 0 0 (gF g)) (F0 m 144 ls [.int (if x2 = (-4) then (M 0 16) else (1 - ((sr (M 0 17) x2) &&& 1))), .long y10, .long y5]) := by
    intro ls hl
    refine lv_i2l C.1.1 C.1.2.1 dX8_byHaze_144 rfl ?_
    refine lv_lmul C.1.1 C.1.2.1 dX8_byHaze_145 ?_
    refine lv_ladd C.1.1 C.1.2.1 dX8_byHaze_146 ?_
    refine lv_topl (fun v10 ev10 => ?_)
    replace h := h v10 ev10
    refine lv_lstore (lv' := [(5, .long v10), (0, .ref (ga g 0)), (1, .int x1), (2, .int x2), (3, .int x3), (4, .int x4), (7, .long y7), (9, .int x9)]) C.1.1 C.1.2.1 dX8_byHaze_147 hl (by decide) rfl (fun ls hl => ?_)
    refine lv_iinc (v := x9 + 1) (lv' := [(9, .int (x9 + 1)), (5, .long v10), (0, .ref (ga g 0)), (1, .int x1), (2, .int x2), (3, .int x3), (4, .int x4), (7, .long y7)]) C.1.1 C.1.2.1 dX8_byHaze_149 hl (k := 7) rfl rfl (by decide) rfl (fun ls hl => ?_)
    refine lv_goto (tgt := 32) C.1.1 C.1.2.1 dX8_byHaze_152 (by decide) ?_
    exact hK32 _ _ _ _ _ _ h w (lv_sub hl [2, 3, 4, 5, 6, 1, 7, 0] rfl)
  refine lv_icmp_ne (tgt := 134) C.1.1 C.1.2.1 dX8_byHaze_124 (by decide) (fun hc9 => ?_) (fun hc9 => ?_)
  · refine lv_iconst (v := 1) C.1.1 C.1.2.1 dX8_byHaze_134 (by decide) ?_
    refine lv_aload_n C.1.1 C.1.2.1 dX8_byHaze_135 rfl (lv_at hl 0 rfl) ?_
    refine gi_RX8_131 C w hm_0 lm_0 rfl dX8_byHaze_136 ?_
    refine lv_iload_n C.1.1 C.1.2.1 dX8_byHaze_139 rfl (lv_at hl 2 rfl) ?_
    refine q_ishr C dX8_byHaze_140 ?_
    refine lv_iconst (v := 1) C.1.1 C.1.2.1 dX8_byHaze_141 (by decide) ?_
    refine lv_iand C.1.1 C.1.2.1 dX8_byHaze_142 ?_
    refine lv_isub C.1.1 C.1.2.1 dX8_byHaze_143 ?_
    simp only [if_neg hc9] at J hl
    exact J ls (lv_sub hl [0, 1, 2, 3, 4, 6, 7] rfl)
  · refine lv_aload_n C.1.1 C.1.2.1 dX8_byHaze_127 rfl (lv_at hl 0 rfl) ?_
    refine gi_RX8_128 C w hm_0 lm_0 rfl dX8_byHaze_128 ?_
    refine lv_goto (tgt := 144) C.1.1 C.1.2.1 dX8_byHaze_131 (by decide) ?_
    simp only [if_pos hc9] at J hl
    exact J ls (lv_sub hl [0, 1, 2, 3, 4, 6, 7] rfl)
set_option maxHeartbeats 4000000 in
set_option maxRecDepth 100000 in
theorem v_X8_byHaze_58 {x1 : Int32} {x2 : Int32} {x3 : Int32} {x4 : Int32} {y5 : Int64} {y7 : Int64} {x9 : Int32} {y10 : Int64} {x12 : Int32} {M : Mem} {K32 : Int64 → Int32 → Mem → Prop} {K58 : Int64 → Int32 → Mem → Prop} {Q : Int64 → Mem → Prop} {H : Heap} {locs : List Loc} {ls : Array Slot} (C : Cx p s m args c cX8_byHaze 14 RX8 g) (hr : meth.sig.returnType = (some .long)) (hk : meth.locks = false) (hK32 : ∀ (y5 : Int64) (x9 : Int32) (M : Mem) (H : Heap) (locs : List Loc) (ls : Array Slot), K32 y5 x9 M → Wd g layM 12 s.heap M H locs → lv_has ls 14 [(0, .ref (ga g 0)), (1, .int x1), (2, .int x2), (3, .int x3), (4, .int x4), (5, .long y5), (7, .long y7), (9, .int x9)] → W p l e (rmOf 4 97) s m args below meth c H locs 0 0 (MQ below (va_Ql Q (PostW g layM 12) (gF g)) args s 0 0 (gF g)) (F0 m 32 ls [])) (hK58 : ∀ (y10 : Int64) (x12 : Int32) (M : Mem) (H : Heap) (locs : List Loc) (ls : Array Slot), K58 y10 x12 M → Wd g layM 12 s.heap M H locs → lv_has ls 14 [(0, .ref (ga g 0)), (1, .int x1), (2, .int x2), (3, .int x3), (4, .int x4), (5, .long y5), (7, .long y7), (9, .int x9), (10, .long y10), (12, .int x12)] → W p l e (rmOf 4 97) s m args below meth c H locs 0 0 (MQ below (va_Ql Q (PostW g layM 12) (gF g)) args s 0 0 (gF g)) (F0 m 58 ls [])) (h : w_X8_byHaze_58 x1 x2 x3 x4 y5 y7 x9 K32 Q K58 y10 x12 M) (w : Wd g layM 12 s.heap M H locs) (hl : lv_has ls 14 [(0, .ref (ga g 0)), (1, .int x1), (2, .int x2), (3, .int x3), (4, .int x4), (5, .long y5), (7, .long y7), (9, .int x9), (10, .long y10), (12, .int x12)]) : W p l e (rmOf 4 97) s m args below meth c H locs 0 0 (MQ below (va_Ql Q (PostW g layM 12) (gF g)) args s 0 0 (gF g)) (F0 m 58 ls []) := by
  unfold w_X8_byHaze_58 at h
  refine lv_iload C.1.1 C.1.2.1 dX8_byHaze_58 (lv_at hl 9 rfl) ?_
  refine lv_iload_n C.1.1 C.1.2.1 dX8_byHaze_60 rfl (lv_at hl 3 rfl) ?_
  refine lv_icmp_ge (tgt := 117) C.1.1 C.1.2.1 dX8_byHaze_61 (by decide) (fun hc8 => ?_) (fun hc8 => ?_)
  · replace h := h.1 hc8
    exact v_X8_byHaze_117 C hr hk  hK32 h w (lv_sub hl [0, 1, 2, 3, 4, 5, 6, 7, 8] rfl)
  · replace h := h.2 hc8
    refine lv_iload C.1.1 C.1.2.1 dX8_byHaze_64 (lv_at hl 7 rfl) ?_
    refine lv_iload C.1.1 C.1.2.1 dX8_byHaze_66 (lv_at hl 9 rfl) ?_
    refine q_ishr C dX8_byHaze_68 ?_
    refine lv_iconst (v := 1) C.1.1 C.1.2.1 dX8_byHaze_69 (by decide) ?_
    refine lv_iand C.1.1 C.1.2.1 dX8_byHaze_70 ?_
    refine lv_iconst (v := 1) C.1.1 C.1.2.1 dX8_byHaze_71 (by decide) ?_
    have J : ∀ ls : Array Slot, lv_has ls 14 [(0, .ref (ga g 0)), (1, .int x1), (2, .int x2), (3, .int x3), (4, .int x4), (5, .long y5), (7, .long y7), (9, .int x9), (10, .long y10), (12, .int x12)] → W p l e (rmOf 4 97) s m args below meth c H locs 0 0 (MQ below (va_Ql Q (PostW g layM 12) (gF g)) args s 0 0 (gF g)) (F0 m 80 ls [.int (if ((sr x9 x12) &&& 1) = 1 then (1 : Int32) else 0)]) := by
      intro ls hl
      refine lv_istore (lv' := [(13, .int (if ((sr x9 x12) &&& 1) = 1 then (1 : Int32) else 0)), (0, .ref (ga g 0)), (1, .int x1), (2, .int x2), (3, .int x3), (4, .int x4), (5, .long y5), (7, .long y7), (9, .int x9), (10, .long y10), (12, .int x12)]) C.1.1 C.1.2.1 dX8_byHaze_80 hl (by decide) rfl (fun ls hl => ?_)
      refine lv_lload C.1.1 C.1.2.1 dX8_byHaze_82 (lv_at hl 9 rfl) ?_
      refine lv_iload C.1.1 C.1.2.1 dX8_byHaze_84 (lv_at hl 0 rfl) ?_
      have J : ∀ ls : Array Slot, lv_has ls 14 [(0, .ref (ga g 0)), (1, .int x1), (2, .int x2), (3, .int x3), (4, .int x4), (5, .long y5), (7, .long y7), (9, .int x9), (12, .int x12), (13, .int (if ((sr x9 x12) &&& 1) = 1 then (1 : Int32) else 0))] → W p l e (rmOf 4 97) s m args below meth c H locs 0 0 (MQ below (va_Ql Q (PostW g layM 12) (gF g)) args s 0 0 (gF g)) (F0 m 99 ls [.long (if (if ((sr x9 x12) &&& 1) = 1 then (1 : Int32) else 0) = 0 then ((10 - x1).toInt64) else (x1.toInt64)), .long y10]) := by
        intro ls hl
        refine lv_lmul C.1.1 C.1.2.1 dX8_byHaze_99 ?_
        refine lv_topl (fun v13 ev13 => ?_)
        replace h := h v13 ev13
        refine lv_lstore (lv' := [(10, .long v13), (0, .ref (ga g 0)), (1, .int x1), (2, .int x2), (3, .int x3), (4, .int x4), (5, .long y5), (7, .long y7), (9, .int x9), (12, .int x12), (13, .int (if ((sr x9 x12) &&& 1) = 1 then (1 : Int32) else 0))]) C.1.1 C.1.2.1 dX8_byHaze_100 hl (by decide) rfl (fun ls hl => ?_)
        refine lv_aload_n C.1.1 C.1.2.1 dX8_byHaze_102 rfl (lv_at hl 1 rfl) ?_
        refine lv_sipush (v := 176) C.1.1 C.1.2.1 dX8_byHaze_103 (by decide) ?_
        refine lv_iload C.1.1 C.1.2.1 dX8_byHaze_106 (lv_at hl 10 rfl) ?_
        refine q_cVv C w [.int 176, .int (if ((sr x9 x12) &&& 1) = 1 then (1 : Int32) else 0)] (c_X8_nightOn  h) kv_X8_nightOn k_126 (rcv C w kc_X8 hm_0 lm_0) rfl hl.1 (Nat.le_of_ble_eq_true rfl) ⟨Nat.le_of_ble_eq_true rfl, Nat.le_of_ble_eq_true rfl⟩ dX8_byHaze_108 (fun M15 H locs h w => ?_)
        refine lv_iinc (v := x12 + 1) (lv' := [(12, .int (x12 + 1)), (10, .long v13), (0, .ref (ga g 0)), (1, .int x1), (2, .int x2), (3, .int x3), (4, .int x4), (5, .long y5), (7, .long y7), (9, .int x9), (13, .int (if ((sr x9 x12) &&& 1) = 1 then (1 : Int32) else 0))]) C.1.1 C.1.2.1 dX8_byHaze_111 hl (k := 9) rfl rfl (by decide) rfl (fun ls hl => ?_)
        refine lv_goto (tgt := 58) C.1.1 C.1.2.1 dX8_byHaze_114 (by decide) ?_
        exact hK58 _ _ _ _ _ _ h w (lv_sub hl [2, 3, 4, 5, 6, 7, 8, 9, 1, 0] rfl)
      refine lv_if_eq (tgt := 94) C.1.1 C.1.2.1 dX8_byHaze_86 (by decide) (fun hc12 => ?_) (fun hc12 => ?_)
      · refine lv_bipush (v := 10) C.1.1 C.1.2.1 dX8_byHaze_94 (by decide) ?_
        refine lv_iload_n C.1.1 C.1.2.1 dX8_byHaze_96 rfl (lv_at hl 2 rfl) ?_
        refine lv_isub C.1.1 C.1.2.1 dX8_byHaze_97 ?_
        refine lv_i2l C.1.1 C.1.2.1 dX8_byHaze_98 rfl ?_
        simp only [if_pos hc12] at J hl
        exact J ls (lv_sub hl [1, 2, 3, 4, 5, 6, 7, 8, 10, 0] rfl)
      · refine lv_iload_n C.1.1 C.1.2.1 dX8_byHaze_89 rfl (lv_at hl 2 rfl) ?_
        refine lv_i2l C.1.1 C.1.2.1 dX8_byHaze_90 rfl ?_
        refine lv_goto (tgt := 99) C.1.1 C.1.2.1 dX8_byHaze_91 (by decide) ?_
        simp only [if_neg hc12] at J hl
        exact J ls (lv_sub hl [1, 2, 3, 4, 5, 6, 7, 8, 10, 0] rfl)
    refine lv_icmp_ne (tgt := 79) C.1.1 C.1.2.1 dX8_byHaze_72 (by decide) (fun hc11 => ?_) (fun hc11 => ?_)
    · refine lv_iconst (v := 0) C.1.1 C.1.2.1 dX8_byHaze_79 (by decide) ?_
      simp only [if_neg hc11] at J hl
      exact J ls (lv_sub hl [0, 1, 2, 3, 4, 5, 6, 7, 8, 9] rfl)
    · refine lv_iconst (v := 1) C.1.1 C.1.2.1 dX8_byHaze_75 (by decide) ?_
      refine lv_goto (tgt := 80) C.1.1 C.1.2.1 dX8_byHaze_76 (by decide) ?_
      simp only [if_pos hc11] at J hl
      exact J ls (lv_sub hl [0, 1, 2, 3, 4, 5, 6, 7, 8, 9] rfl)
set_option maxHeartbeats 4000000 in
set_option maxRecDepth 100000 in
theorem l_X8_byHaze_58 {x1 : Int32} {x2 : Int32} {x3 : Int32} {x4 : Int32} {y5 : Int64} {y7 : Int64} {x9 : Int32} {K32 : Int64 → Int32 → Mem → Prop} {Q : Int64 → Mem → Prop} (C : Cx p s m args c cX8_byHaze 14 RX8 g) (hr : meth.sig.returnType = (some .long)) (hk : meth.locks = false) (hK32 : ∀ (y5 : Int64) (x9 : Int32) (M : Mem) (H : Heap) (locs : List Loc) (ls : Array Slot), K32 y5 x9 M → Wd g layM 12 s.heap M H locs → lv_has ls 14 [(0, .ref (ga g 0)), (1, .int x1), (2, .int x2), (3, .int x3), (4, .int x4), (5, .long y5), (7, .long y7), (9, .int x9)] → W p l e (rmOf 4 97) s m args below meth c H locs 0 0 (MQ below (va_Ql Q (PostW g layM 12) (gF g)) args s 0 0 (gF g)) (F0 m 32 ls [])) : ∀ (n : Nat) (y10 : Int64) (x12 : Int32) (M : Mem) (H : Heap) (locs : List Loc) (ls : Array Slot), fu3 (w_X8_byHaze_58 x1 x2 x3 x4 y5 y7 x9 K32 Q) n y10 x12 M → Wd g layM 12 s.heap M H locs → lv_has ls 14 [(0, .ref (ga g 0)), (1, .int x1), (2, .int x2), (3, .int x3), (4, .int x4), (5, .long y5), (7, .long y7), (9, .int x9), (10, .long y10), (12, .int x12)] → W p l e (rmOf 4 97) s m args below meth c H locs 0 0 (MQ below (va_Ql Q (PostW g layM 12) (gF g)) args s 0 0 (gF g)) (F0 m 58 ls []) := by
  intro n
  induction n with
  | zero => intro y10 x12 M H locs ls h; exact h.elim
  | succ n ih => intro y10 x12 M H locs ls h w hl; exact v_X8_byHaze_58 C hr hk  hK32 ih h w hl
set_option maxHeartbeats 4000000 in
set_option maxRecDepth 100000 in
theorem v_X8_byHaze_32 {x1 : Int32} {x2 : Int32} {x3 : Int32} {x4 : Int32} {y7 : Int64} {y5 : Int64} {x9 : Int32} {M : Mem} {K32 : Int64 → Int32 → Mem → Prop} {Q : Int64 → Mem → Prop} {H : Heap} {locs : List Loc} {ls : Array Slot} (C : Cx p s m args c cX8_byHaze 14 RX8 g) (hr : meth.sig.returnType = (some .long)) (hk : meth.locks = false) (hK32 : ∀ (y5 : Int64) (x9 : Int32) (M : Mem) (H : Heap) (locs : List Loc) (ls : Array Slot), K32 y5 x9 M → Wd g layM 12 s.heap M H locs → lv_has ls 14 [(0, .ref (ga g 0)), (1, .int x1), (2, .int x2), (3, .int x3), (4, .int x4), (5, .long y5), (7, .long y7), (9, .int x9)] → W p l e (rmOf 4 97) s m args below meth c H locs 0 0 (MQ below (va_Ql Q (PostW g layM 12) (gF g)) args s 0 0 (gF g)) (F0 m 32 ls [])) (h : w_X8_byHaze_32 x1 x2 x3 x4 y7 Q K32 y5 x9 M) (w : Wd g layM 12 s.heap M H locs) (hl : lv_has ls 14 [(0, .ref (ga g 0)), (1, .int x1), (2, .int x2), (3, .int x3), (4, .int x4), (5, .long y5), (7, .long y7), (9, .int x9)]) : W p l e (rmOf 4 97) s m args below meth c H locs 0 0 (MQ below (va_Ql Q (PostW g layM 12) (gF g)) args s 0 0 (gF g)) (F0 m 32 ls []) := by
  unfold w_X8_byHaze_32 at h
  refine lv_iload C.1.1 C.1.2.1 dX8_byHaze_32 (lv_at hl 7 rfl) ?_
  refine lv_iconst (v := 1) C.1.1 C.1.2.1 dX8_byHaze_34 (by decide) ?_
  refine lv_iload_n C.1.1 C.1.2.1 dX8_byHaze_35 rfl (lv_at hl 3 rfl) ?_
  refine q_ishl C dX8_byHaze_36 ?_
  refine lv_icmp_ge (tgt := 155) C.1.1 C.1.2.1 dX8_byHaze_37 (by decide) (fun hc2 => ?_) (fun hc2 => ?_)
  · replace h := h.1 hc2
    exact v_X8_byHaze_155 C hr hk   h w (lv_sub hl [4, 5, 6] rfl)
  · replace h := h.2 hc2
    refine lv_lconst (v := 1) C.1.1 C.1.2.1 dX8_byHaze_40 (by decide) ?_
    refine lv_lstore (lv' := [(10, .long 1), (0, .ref (ga g 0)), (1, .int x1), (2, .int x2), (3, .int x3), (4, .int x4), (5, .long y5), (7, .long y7), (9, .int x9)]) C.1.1 C.1.2.1 dX8_byHaze_41 hl (by decide) rfl (fun ls hl => ?_)
    refine lv_aload_n C.1.1 C.1.2.1 dX8_byHaze_43 rfl (lv_at hl 1 rfl) ?_
    refine lv_iconst (v := 0) C.1.1 C.1.2.1 dX8_byHaze_44 (by decide) ?_
    refine lv_sipush (v := 176) C.1.1 C.1.2.1 dX8_byHaze_45 (by decide) ?_
    refine q_cVv C w [.int 0, .int 176] (c_X8_copies  h) kv_X8_copies k_127 (rcv C w kc_X8 hm_0 lm_0) rfl hl.1 (Nat.le_of_ble_eq_true rfl) ⟨Nat.le_of_ble_eq_true rfl, Nat.le_of_ble_eq_true rfl⟩ dX8_byHaze_48 (fun M5 H locs h w => ?_)
    refine lv_aload_n C.1.1 C.1.2.1 dX8_byHaze_51 rfl (lv_at hl 1 rfl) ?_
    refine q_cVv C w [] (c_X8_startCounts  h) kv_X8_startCounts k_125 (rcv C w kc_X8 hm_0 lm_0) rfl hl.1 (Nat.le_of_ble_eq_true rfl) ⟨Nat.le_of_ble_eq_true rfl, Nat.le_of_ble_eq_true rfl⟩ dX8_byHaze_52 (fun M7 H locs h w => ?_)
    refine lv_iconst (v := 0) C.1.1 C.1.2.1 dX8_byHaze_55 (by decide) ?_
    refine lv_istore (lv' := [(12, .int 0), (10, .long 1), (0, .ref (ga g 0)), (1, .int x1), (2, .int x2), (3, .int x3), (4, .int x4), (5, .long y5), (7, .long y7), (9, .int x9)]) C.1.1 C.1.2.1 dX8_byHaze_56 hl (by decide) rfl (fun ls hl => ?_)
    obtain ⟨n, h⟩ := h
    exact l_X8_byHaze_58 C hr hk  hK32 n _ _ _ _ _ _ h w (lv_sub hl [2, 3, 4, 5, 6, 7, 8, 9, 1, 0] rfl)
set_option maxHeartbeats 4000000 in
set_option maxRecDepth 100000 in
theorem l_X8_byHaze_32 {x1 : Int32} {x2 : Int32} {x3 : Int32} {x4 : Int32} {y7 : Int64} {Q : Int64 → Mem → Prop} (C : Cx p s m args c cX8_byHaze 14 RX8 g) (hr : meth.sig.returnType = (some .long)) (hk : meth.locks = false)  : ∀ (n : Nat) (y5 : Int64) (x9 : Int32) (M : Mem) (H : Heap) (locs : List Loc) (ls : Array Slot), fu3 (w_X8_byHaze_32 x1 x2 x3 x4 y7 Q) n y5 x9 M → Wd g layM 12 s.heap M H locs → lv_has ls 14 [(0, .ref (ga g 0)), (1, .int x1), (2, .int x2), (3, .int x3), (4, .int x4), (5, .long y5), (7, .long y7), (9, .int x9)] → W p l e (rmOf 4 97) s m args below meth c H locs 0 0 (MQ below (va_Ql Q (PostW g layM 12) (gF g)) args s 0 0 (gF g)) (F0 m 32 ls []) := by
  intro n
  induction n with
  | zero => intro y5 x9 M H locs ls h; exact h.elim
  | succ n ih => intro y5 x9 M H locs ls h w hl; exact v_X8_byHaze_32 C hr hk   ih h w hl
set_option maxHeartbeats 4000000 in
set_option maxRecDepth 100000 in
theorem v_X8_byHaze_29 {x1 : Int32} {x2 : Int32} {x3 : Int32} {x4 : Int32} {y5 : Int64} {y7 : Int64} {M : Mem} {Q : Int64 → Mem → Prop} {H : Heap} {locs : List Loc} {ls : Array Slot} (C : Cx p s m args c cX8_byHaze 14 RX8 g) (hr : meth.sig.returnType = (some .long)) (hk : meth.locks = false)  (h : w_X8_byHaze_29 x1 x2 x3 x4 y5 y7 M Q) (w : Wd g layM 12 s.heap M H locs) (hl : lv_has ls 14 [(0, .ref (ga g 0)), (1, .int x1), (2, .int x2), (3, .int x3), (4, .int x4), (5, .long y5), (7, .long y7)]) : W p l e (rmOf 4 97) s m args below meth c H locs 0 0 (MQ below (va_Ql Q (PostW g layM 12) (gF g)) args s 0 0 (gF g)) (F0 m 29 ls []) := by
  unfold w_X8_byHaze_29 at h
  refine lv_iconst (v := 0) C.1.1 C.1.2.1 dX8_byHaze_29 (by decide) ?_
  refine lv_istore (lv' := [(9, .int 0), (0, .ref (ga g 0)), (1, .int x1), (2, .int x2), (3, .int x3), (4, .int x4), (5, .long y5), (7, .long y7)]) C.1.1 C.1.2.1 dX8_byHaze_30 hl (by decide) rfl (fun ls hl => ?_)
  obtain ⟨n, h⟩ := h
  exact l_X8_byHaze_32 C hr hk   n _ _ _ _ _ _ h w (lv_sub hl [1, 2, 3, 4, 5, 6, 7, 0] rfl)
set_option maxHeartbeats 4000000 in
set_option maxRecDepth 100000 in
theorem v_X8_byHaze_9 {x1 : Int32} {x2 : Int32} {x3 : Int32} {x4 : Int32} {y5 : Int64} {y7 : Int64} {x9 : Int32} {M : Mem} {K9 : Int64 → Int32 → Prop} {Q : Int64 → Mem → Prop} {H : Heap} {locs : List Loc} {ls : Array Slot} (C : Cx p s m args c cX8_byHaze 14 RX8 g) (hr : meth.sig.returnType = (some .long)) (hk : meth.locks = false) (hK9 : ∀ (y7 : Int64) (x9 : Int32) (H : Heap) (locs : List Loc) (ls : Array Slot), K9 y7 x9 → Wd g layM 12 s.heap M H locs → lv_has ls 14 [(0, .ref (ga g 0)), (1, .int x1), (2, .int x2), (3, .int x3), (4, .int x4), (5, .long y5), (7, .long y7), (9, .int x9)] → W p l e (rmOf 4 97) s m args below meth c H locs 0 0 (MQ below (va_Ql Q (PostW g layM 12) (gF g)) args s 0 0 (gF g)) (F0 m 9 ls [])) (h : w_X8_byHaze_9 x1 x2 x3 x4 y5 M Q K9 y7 x9) (w : Wd g layM 12 s.heap M H locs) (hl : lv_has ls 14 [(0, .ref (ga g 0)), (1, .int x1), (2, .int x2), (3, .int x3), (4, .int x4), (5, .long y5), (7, .long y7), (9, .int x9)]) : W p l e (rmOf 4 97) s m args below meth c H locs 0 0 (MQ below (va_Ql Q (PostW g layM 12) (gF g)) args s 0 0 (gF g)) (F0 m 9 ls []) := by
  unfold w_X8_byHaze_9 at h
  refine lv_iload C.1.1 C.1.2.1 dX8_byHaze_9 (lv_at hl 7 rfl) ?_
  refine lv_iload_n C.1.1 C.1.2.1 dX8_byHaze_11 rfl (lv_at hl 3 rfl) ?_
  refine lv_icmp_ge (tgt := 29) C.1.1 C.1.2.1 dX8_byHaze_12 (by decide) (fun hc1 => ?_) (fun hc1 => ?_)
  · replace h := h.1 hc1
    exact v_X8_byHaze_29 C hr hk   h w (lv_sub hl [0, 1, 2, 3, 4, 5, 6] rfl)
  · replace h := h.2 hc1
    refine lv_lload C.1.1 C.1.2.1 dX8_byHaze_15 (lv_at hl 6 rfl) ?_
    refine q_ldc2 C k_132 dX8_byHaze_17 ?_
    refine lv_lmul C.1.1 C.1.2.1 dX8_byHaze_20 ?_
    refine lv_lstore (lv' := [(7, .long (y7 * 10)), (0, .ref (ga g 0)), (1, .int x1), (2, .int x2), (3, .int x3), (4, .int x4), (5, .long y5), (9, .int x9)]) C.1.1 C.1.2.1 dX8_byHaze_21 hl (by decide) rfl (fun ls hl => ?_)
    refine lv_iinc (v := x9 + 1) (lv' := [(9, .int (x9 + 1)), (7, .long (y7 * 10)), (0, .ref (ga g 0)), (1, .int x1), (2, .int x2), (3, .int x3), (4, .int x4), (5, .long y5)]) C.1.1 C.1.2.1 dX8_byHaze_23 hl (k := 7) rfl rfl (by decide) rfl (fun ls hl => ?_)
    refine lv_goto (tgt := 9) C.1.1 C.1.2.1 dX8_byHaze_26 (by decide) ?_
    exact hK9 _ _ _ _ _ h w (lv_sub hl [2, 3, 4, 5, 6, 7, 1, 0] rfl)
set_option maxHeartbeats 4000000 in
set_option maxRecDepth 100000 in
theorem l_X8_byHaze_9 {x1 : Int32} {x2 : Int32} {x3 : Int32} {x4 : Int32} {y5 : Int64} {M : Mem} {Q : Int64 → Mem → Prop} (C : Cx p s m args c cX8_byHaze 14 RX8 g) (hr : meth.sig.returnType = (some .long)) (hk : meth.locks = false)  : ∀ (n : Nat) (y7 : Int64) (x9 : Int32) (H : Heap) (locs : List Loc) (ls : Array Slot), fu2 (w_X8_byHaze_9 x1 x2 x3 x4 y5 M Q) n y7 x9 → Wd g layM 12 s.heap M H locs → lv_has ls 14 [(0, .ref (ga g 0)), (1, .int x1), (2, .int x2), (3, .int x3), (4, .int x4), (5, .long y5), (7, .long y7), (9, .int x9)] → W p l e (rmOf 4 97) s m args below meth c H locs 0 0 (MQ below (va_Ql Q (PostW g layM 12) (gF g)) args s 0 0 (gF g)) (F0 m 9 ls []) := by
  intro n
  induction n with
  | zero => intro y7 x9 H locs ls h; exact h.elim
  | succ n ih => intro y7 x9 H locs ls h w hl; exact v_X8_byHaze_9 C hr hk   ih h w hl
set_option maxHeartbeats 4000000 in
set_option maxRecDepth 100000 in
theorem c_X8_byHaze {l : Launch} {g : Gt} {x1 : Int32} {x2 : Int32} {x3 : Int32} {x4 : Int32} {M : Mem} {Q : Int64 → Mem → Prop} (h : w_X8_byHaze x1 x2 x3 x4 M Q) : ML l yX8_byHaze cX8_byHaze 14 (some .long) 4 97 g layM 12 [.ref (ga g 0), .int x1, .int x2, .int x3, .int x4] M Q :=
  m_of (by decide +kernel) (Nat.le_of_ble_eq_true rfl) (fun p e s m args below meth c ls C hr hk w hl => by
    have C : Cx p s m args c cX8_byHaze 14 RX8 g := C
    have hl : lv_has ls 14 [(0, .ref (ga g 0)), (1, .int x1), (2, .int x2), (3, .int x3), (4, .int x4)] := hl
    unfold w_X8_byHaze at h
    obtain ⟨H, eH⟩ : ∃ H : Heap, H = s.heap := ⟨_, rfl⟩
    obtain ⟨locs, el⟩ : ∃ locs : List Loc, locs = [] := ⟨_, rfl⟩
    have w : Wd g layM 12 s.heap M H locs := by rw [eH, el]; exact w
    suffices hw : W p l e (rmOf 4 97) s m args below meth c H locs 0 0 (MQ below (va_Ql Q (PostW g layM 12) (gF g)) args s 0 0 (gF g)) (F0 m 0 ls []) by rw [eH, el] at hw; exact hw
    clear eH el
    refine lv_lconst (v := 0) C.1.1 C.1.2.1 dX8_byHaze_0 (by decide) ?_
    refine lv_lstore (lv' := [(5, .long 0), (0, .ref (ga g 0)), (1, .int x1), (2, .int x2), (3, .int x3), (4, .int x4)]) C.1.1 C.1.2.1 dX8_byHaze_1 hl (by decide) rfl (fun ls hl => ?_)
    refine lv_lconst (v := 1) C.1.1 C.1.2.1 dX8_byHaze_3 (by decide) ?_
    refine lv_lstore (lv' := [(7, .long 1), (5, .long 0), (0, .ref (ga g 0)), (1, .int x1), (2, .int x2), (3, .int x3), (4, .int x4)]) C.1.1 C.1.2.1 dX8_byHaze_4 hl (by decide) rfl (fun ls hl => ?_)
    refine lv_iconst (v := 0) C.1.1 C.1.2.1 dX8_byHaze_6 (by decide) ?_
    refine lv_istore (lv' := [(9, .int 0), (7, .long 1), (5, .long 0), (0, .ref (ga g 0)), (1, .int x1), (2, .int x2), (3, .int x3), (4, .int x4)]) C.1.1 C.1.2.1 dX8_byHaze_7 hl (by decide) rfl (fun ls hl => ?_)
    obtain ⟨n, h⟩ := h
    exact l_X8_byHaze_9 C hr hk   n _ _ _ _ _ h w (lv_sub hl [3, 4, 5, 6, 7, 2, 1, 0] rfl))
-- luck
set_option maxHeartbeats 4000000 in
set_option maxRecDepth 100000 in
theorem c_X8_luck {l : Launch} {g : Gt} {x1 : Int32} {x2 : Int32} {x3 : Int32} {x4 : Int32} {M : Mem} {Q : Int64 → Mem → Prop} (h : w_X8_luck x1 x2 x3 x4 M Q) : ML l yX8_luck cX8_luck 5 (some .long) 5 130 g layM 12 [.ref (ga g 0), .int x1, .int x2, .int x3, .int x4] M Q :=
  m_of (by decide +kernel) (Nat.le_of_ble_eq_true rfl) (fun p e s m args below meth c ls C hr hk w hl => by
    have C : Cx p s m args c cX8_luck 5 RX8 g := C
    have hl : lv_has ls 5 [(0, .ref (ga g 0)), (1, .int x1), (2, .int x2), (3, .int x3), (4, .int x4)] := hl
    unfold w_X8_luck at h
    obtain ⟨H, eH⟩ : ∃ H : Heap, H = s.heap := ⟨_, rfl⟩
    obtain ⟨locs, el⟩ : ∃ locs : List Loc, locs = [] := ⟨_, rfl⟩
    have w : Wd g layM 12 s.heap M H locs := by rw [eH, el]; exact w
    suffices hw : W p l e (rmOf 5 130) s m args below meth c H locs 0 0 (MQ below (va_Ql Q (PostW g layM 12) (gF g)) args s 0 0 (gF g)) (F0 m 0 ls []) by rw [eH, el] at hw; exact hw
    clear eH el
    refine lv_iload_n C.1.1 C.1.2.1 dX8_luck_0 rfl (lv_at hl 1 rfl) ?_
    refine lv_i2l C.1.1 C.1.2.1 dX8_luck_1 rfl ?_
    refine lv_lconst (v := 0) C.1.1 C.1.2.1 dX8_luck_2 (by decide) ?_
    refine q_ldc2 C k_132 dX8_luck_3 ?_
    refine q_pSi C w [.long (x1.toInt64), .long 0, .long 10] (c_X8_in  h) ks_X8_in k_95  rfl hl.1 (Nat.le_of_ble_eq_true rfl) ⟨Nat.le_of_ble_eq_true rfl, Nat.le_of_ble_eq_true rfl⟩ dX8_luck_6 (fun r1 H locs h w => ?_)
    refine lv_if_eq (tgt := 55) C.1.1 C.1.2.1 dX8_luck_9 (by decide) (fun hc2 => ?_) (fun hc2 => ?_)
    · replace h := h.1 hc2
      refine q_ldc2 C k_133 dX8_luck_55 ?_
      exact q_lret C hr hk w h dX8_luck_58
    · replace h := h.2 hc2
      refine lv_aload_n C.1.1 C.1.2.1 dX8_luck_12 rfl (lv_at hl 0 rfl) ?_
      refine lv_iload_n C.1.1 C.1.2.1 dX8_luck_13 rfl (lv_at hl 2 rfl) ?_
      refine q_pVi C w [.int x2] (c_X8_isTaker  h) kv_X8_isTaker k_116 (rcv C w kc_X8 hm_0 lm_0) rfl hl.1 (Nat.le_of_ble_eq_true rfl) ⟨Nat.le_of_ble_eq_true rfl, Nat.le_of_ble_eq_true rfl⟩ dX8_luck_14 (fun r3 H locs h w => ?_)
      refine lv_if_eq (tgt := 55) C.1.1 C.1.2.1 dX8_luck_17 (by decide) (fun hc4 => ?_) (fun hc4 => ?_)
      · replace h := h.1 hc4
        refine q_ldc2 C k_133 dX8_luck_55 ?_
        exact q_lret C hr hk w h dX8_luck_58
      · replace h := h.2 hc4
        refine lv_iload_n C.1.1 C.1.2.1 dX8_luck_20 rfl (lv_at hl 3 rfl) ?_
        refine lv_i2l C.1.1 C.1.2.1 dX8_luck_21 rfl ?_
        refine lv_lconst (v := 0) C.1.1 C.1.2.1 dX8_luck_22 (by decide) ?_
        refine q_ldc2 C k_134 dX8_luck_23 ?_
        refine q_pSi C w [.long (x3.toInt64), .long 0, .long 8] (c_X8_in  h) ks_X8_in k_95  rfl hl.1 (Nat.le_of_ble_eq_true rfl) ⟨Nat.le_of_ble_eq_true rfl, Nat.le_of_ble_eq_true rfl⟩ dX8_luck_26 (fun r5 H locs h w => ?_)
        refine lv_if_eq (tgt := 55) C.1.1 C.1.2.1 dX8_luck_29 (by decide) (fun hc6 => ?_) (fun hc6 => ?_)
        · replace h := h.1 hc6
          refine q_ldc2 C k_133 dX8_luck_55 ?_
          exact q_lret C hr hk w h dX8_luck_58
        · replace h := h.2 hc6
          refine lv_iload C.1.1 C.1.2.1 dX8_luck_32 (lv_at hl 4 rfl) ?_
          refine lv_i2l C.1.1 C.1.2.1 dX8_luck_34 rfl ?_
          refine lv_lconst (v := 0) C.1.1 C.1.2.1 dX8_luck_35 (by decide) ?_
          refine lv_lconst (v := 1) C.1.1 C.1.2.1 dX8_luck_36 (by decide) ?_
          refine q_pSi C w [.long (x4.toInt64), .long 0, .long 1] (c_X8_in  h) ks_X8_in k_95  rfl hl.1 (Nat.le_of_ble_eq_true rfl) ⟨Nat.le_of_ble_eq_true rfl, Nat.le_of_ble_eq_true rfl⟩ dX8_luck_37 (fun r7 H locs h w => ?_)
          refine lv_if_eq (tgt := 55) C.1.1 C.1.2.1 dX8_luck_40 (by decide) (fun hc8 => ?_) (fun hc8 => ?_)
          · replace h := h.1 hc8
            refine q_ldc2 C k_133 dX8_luck_55 ?_
            exact q_lret C hr hk w h dX8_luck_58
          · replace h := h.2 hc8
            refine lv_aload_n C.1.1 C.1.2.1 dX8_luck_43 rfl (lv_at hl 0 rfl) ?_
            refine lv_iload_n C.1.1 C.1.2.1 dX8_luck_44 rfl (lv_at hl 1 rfl) ?_
            refine lv_iload_n C.1.1 C.1.2.1 dX8_luck_45 rfl (lv_at hl 2 rfl) ?_
            refine lv_iload_n C.1.1 C.1.2.1 dX8_luck_46 rfl (lv_at hl 3 rfl) ?_
            refine lv_iload C.1.1 C.1.2.1 dX8_luck_47 (lv_at hl 4 rfl) ?_
            refine q_cVl C w [.int x1, .int x2, .int x3, .int x4] (c_X8_byHaze  h) kv_X8_byHaze k_135 (rcv C w kc_X8 hm_0 lm_0) rfl hl.1 (Nat.le_of_ble_eq_true rfl) ⟨Nat.le_of_ble_eq_true rfl, Nat.le_of_ble_eq_true rfl⟩ dX8_luck_49 (fun r9 M10 H locs h w => ?_)
            refine lv_goto (tgt := 58) C.1.1 C.1.2.1 dX8_luck_52 (by decide) ?_
            exact q_lret C hr hk w h dX8_luck_58)
-- mean
set_option maxHeartbeats 4000000 in
set_option maxRecDepth 100000 in
theorem c_X8_mean {l : Launch} {g : Gt} {x1 : Int32} {x2 : Int32} {x3 : Int32} {M : Mem} {Q : Int64 → Mem → Prop} (h : w_X8_mean x1 x2 x3 M Q) : ML l yX8_mean cX8_mean 4 (some .long) 5 130 g layM 12 [.ref (ga g 0), .int x1, .int x2, .int x3] M Q :=
  m_of (by decide +kernel) (Nat.le_of_ble_eq_true rfl) (fun p e s m args below meth c ls C hr hk w hl => by
    have C : Cx p s m args c cX8_mean 4 RX8 g := C
    have hl : lv_has ls 4 [(0, .ref (ga g 0)), (1, .int x1), (2, .int x2), (3, .int x3)] := hl
    unfold w_X8_mean at h
    obtain ⟨H, eH⟩ : ∃ H : Heap, H = s.heap := ⟨_, rfl⟩
    obtain ⟨locs, el⟩ : ∃ locs : List Loc, locs = [] := ⟨_, rfl⟩
    have w : Wd g layM 12 s.heap M H locs := by rw [eH, el]; exact w
    suffices hw : W p l e (rmOf 5 130) s m args below meth c H locs 0 0 (MQ below (va_Ql Q (PostW g layM 12) (gF g)) args s 0 0 (gF g)) (F0 m 0 ls []) by rw [eH, el] at hw; exact hw
    clear eH el
    refine lv_iload_n C.1.1 C.1.2.1 dX8_mean_0 rfl (lv_at hl 1 rfl) ?_
    refine lv_i2l C.1.1 C.1.2.1 dX8_mean_1 rfl ?_
    refine lv_lconst (v := 0) C.1.1 C.1.2.1 dX8_mean_2 (by decide) ?_
    refine q_ldc2 C k_132 dX8_mean_3 ?_
    refine q_pSi C w [.long (x1.toInt64), .long 0, .long 10] (c_X8_in  h) ks_X8_in k_95  rfl hl.1 (Nat.le_of_ble_eq_true rfl) ⟨Nat.le_of_ble_eq_true rfl, Nat.le_of_ble_eq_true rfl⟩ dX8_mean_6 (fun r1 H locs h w => ?_)
    refine lv_if_eq (tgt := 46) C.1.1 C.1.2.1 dX8_mean_9 (by decide) (fun hc2 => ?_) (fun hc2 => ?_)
    · replace h := h.1 hc2
      refine q_ldc2 C k_133 dX8_mean_46 ?_
      exact q_lret C hr hk w h dX8_mean_49
    · replace h := h.2 hc2
      refine lv_iload_n C.1.1 C.1.2.1 dX8_mean_12 rfl (lv_at hl 2 rfl) ?_
      refine lv_i2l C.1.1 C.1.2.1 dX8_mean_13 rfl ?_
      refine lv_lconst (v := 0) C.1.1 C.1.2.1 dX8_mean_14 (by decide) ?_
      refine q_ldc2 C k_134 dX8_mean_15 ?_
      refine q_pSi C w [.long (x2.toInt64), .long 0, .long 8] (c_X8_in  h) ks_X8_in k_95  rfl hl.1 (Nat.le_of_ble_eq_true rfl) ⟨Nat.le_of_ble_eq_true rfl, Nat.le_of_ble_eq_true rfl⟩ dX8_mean_18 (fun r3 H locs h w => ?_)
      refine lv_if_eq (tgt := 46) C.1.1 C.1.2.1 dX8_mean_21 (by decide) (fun hc4 => ?_) (fun hc4 => ?_)
      · replace h := h.1 hc4
        refine q_ldc2 C k_133 dX8_mean_46 ?_
        exact q_lret C hr hk w h dX8_mean_49
      · replace h := h.2 hc4
        refine lv_iload_n C.1.1 C.1.2.1 dX8_mean_24 rfl (lv_at hl 3 rfl) ?_
        refine lv_i2l C.1.1 C.1.2.1 dX8_mean_25 rfl ?_
        refine lv_lconst (v := 0) C.1.1 C.1.2.1 dX8_mean_26 (by decide) ?_
        refine lv_lconst (v := 1) C.1.1 C.1.2.1 dX8_mean_27 (by decide) ?_
        refine q_pSi C w [.long (x3.toInt64), .long 0, .long 1] (c_X8_in  h) ks_X8_in k_95  rfl hl.1 (Nat.le_of_ble_eq_true rfl) ⟨Nat.le_of_ble_eq_true rfl, Nat.le_of_ble_eq_true rfl⟩ dX8_mean_28 (fun r5 H locs h w => ?_)
        refine lv_if_eq (tgt := 46) C.1.1 C.1.2.1 dX8_mean_31 (by decide) (fun hc6 => ?_) (fun hc6 => ?_)
        · replace h := h.1 hc6
          refine q_ldc2 C k_133 dX8_mean_46 ?_
          exact q_lret C hr hk w h dX8_mean_49
        · replace h := h.2 hc6
          refine lv_aload_n C.1.1 C.1.2.1 dX8_mean_34 rfl (lv_at hl 0 rfl) ?_
          refine lv_iload_n C.1.1 C.1.2.1 dX8_mean_35 rfl (lv_at hl 1 rfl) ?_
          refine lv_bipush (v := (-4)) C.1.1 C.1.2.1 dX8_mean_36 (by decide) ?_
          refine lv_iload_n C.1.1 C.1.2.1 dX8_mean_38 rfl (lv_at hl 2 rfl) ?_
          refine lv_iload_n C.1.1 C.1.2.1 dX8_mean_39 rfl (lv_at hl 3 rfl) ?_
          refine q_cVl C w [.int x1, .int (-4), .int x2, .int x3] (c_X8_byHaze  h) kv_X8_byHaze k_135 (rcv C w kc_X8 hm_0 lm_0) rfl hl.1 (Nat.le_of_ble_eq_true rfl) ⟨Nat.le_of_ble_eq_true rfl, Nat.le_of_ble_eq_true rfl⟩ dX8_mean_40 (fun r7 M8 H locs h w => ?_)
          refine lv_goto (tgt := 49) C.1.1 C.1.2.1 dX8_mean_43 (by decide) ?_
          exact q_lret C hr hk w h dX8_mean_49)
-- see
set_option maxHeartbeats 4000000 in
set_option maxRecDepth 100000 in
theorem c_X8_see {l : Launch} {g : Gt} {x1 : Int32} {x2 : Int32} {x3 : Int32} {M : Mem} {Q : Int32 → Mem → Prop} (h : w_X8_see x1 x2 x3 M Q) : MI l yX8_see cX8_see 4 (some .int) 2 45 g layM 12 [.ref (ga g 0), .int x1, .int x2, .int x3] M Q :=
  m_of (by decide +kernel) (Nat.le_of_ble_eq_true rfl) (fun p e s m args below meth c ls C hr hk w hl => by
    have C : Cx p s m args c cX8_see 4 RX8 g := C
    have hl : lv_has ls 4 [(0, .ref (ga g 0)), (1, .int x1), (2, .int x2), (3, .int x3)] := hl
    unfold w_X8_see at h
    obtain ⟨H, eH⟩ : ∃ H : Heap, H = s.heap := ⟨_, rfl⟩
    obtain ⟨locs, el⟩ : ∃ locs : List Loc, locs = [] := ⟨_, rfl⟩
    have w : Wd g layM 12 s.heap M H locs := by rw [eH, el]; exact w
    suffices hw : W p l e (rmOf 2 45) s m args below meth c H locs 0 0 (MQ below (va_Qi Q (PostW g layM 12) (gF g)) args s 0 0 (gF g)) (F0 m 0 ls []) by rw [eH, el] at hw; exact hw
    clear eH el
    refine lv_iload_n C.1.1 C.1.2.1 dX8_see_0 rfl (lv_at hl 1 rfl) ?_
    refine lv_i2l C.1.1 C.1.2.1 dX8_see_1 rfl ?_
    refine lv_lconst (v := 0) C.1.1 C.1.2.1 dX8_see_2 (by decide) ?_
    refine q_ldc2 C k_136 dX8_see_3 ?_
    refine q_pSi C w [.long (x1.toInt64), .long 0, .long 20] (c_X8_in  h) ks_X8_in k_95  rfl hl.1 (Nat.le_of_ble_eq_true rfl) ⟨Nat.le_of_ble_eq_true rfl, Nat.le_of_ble_eq_true rfl⟩ dX8_see_6 (fun r1 H locs h w => ?_)
    refine lv_if_eq (tgt := 31) C.1.1 C.1.2.1 dX8_see_9 (by decide) (fun hc2 => ?_) (fun hc2 => ?_)
    · replace h := h.1 hc2
      refine lv_iconst (v := (-1)) C.1.1 C.1.2.1 dX8_see_31 (by decide) ?_
      exact q_iret C hr hk w rfl h dX8_see_32
    · replace h := h.2 hc2
      refine lv_iload_n C.1.1 C.1.2.1 dX8_see_12 rfl (lv_at hl 2 rfl) ?_
      refine q_pSi C w [.int x2] (c_X8_isGate  h) ks_X8_isGate k_114  rfl hl.1 (Nat.le_of_ble_eq_true rfl) ⟨Nat.le_of_ble_eq_true rfl, Nat.le_of_ble_eq_true rfl⟩ dX8_see_13 (fun r3 H locs h w => ?_)
      refine lv_if_eq (tgt := 31) C.1.1 C.1.2.1 dX8_see_16 (by decide) (fun hc4 => ?_) (fun hc4 => ?_)
      · replace h := h.1 hc4
        refine lv_iconst (v := (-1)) C.1.1 C.1.2.1 dX8_see_31 (by decide) ?_
        exact q_iret C hr hk w rfl h dX8_see_32
      · replace h := h.2 hc4
        refine lv_iload_n C.1.1 C.1.2.1 dX8_see_19 rfl (lv_at hl 3 rfl) ?_
        refine lv_i2l C.1.1 C.1.2.1 dX8_see_20 rfl ?_
        refine lv_lconst (v := 0) C.1.1 C.1.2.1 dX8_see_21 (by decide) ?_
        refine q_ldc2 C k_122 dX8_see_22 ?_
        refine q_pSi C w [.long (x3.toInt64), .long 0, .long 60] (c_X8_in  h) ks_X8_in k_95  rfl hl.1 (Nat.le_of_ble_eq_true rfl) ⟨Nat.le_of_ble_eq_true rfl, Nat.le_of_ble_eq_true rfl⟩ dX8_see_25 (fun r5 H locs h w => ?_)
        refine lv_if_ne (tgt := 33) C.1.1 C.1.2.1 dX8_see_28 (by decide) (fun hc6 => ?_) (fun hc6 => ?_)
        · replace h := h.2 hc6
          refine lv_aload_n C.1.1 C.1.2.1 dX8_see_33 rfl (lv_at hl 0 rfl) ?_
          refine gi_RX8_119 C w hm_0 lm_0 rfl dX8_see_34 ?_
          refine lv_bipush (v := 6) C.1.1 C.1.2.1 dX8_see_37 (by decide) ?_
          refine lv_icmp_ne (tgt := 45) C.1.1 C.1.2.1 dX8_see_39 (by decide) (fun hc7 => ?_) (fun hc7 => ?_)
          · replace h := h.2 hc7
            refine lv_aload_n C.1.1 C.1.2.1 dX8_see_45 rfl (lv_at hl 0 rfl) ?_
            refine gr_RX8_25 C w hm_0 lm_0 rfl dX8_see_46 ?_
            refine lv_iconst (v := 3) C.1.1 C.1.2.1 dX8_see_49 (by decide) ?_
            refine lv_aload_n C.1.1 C.1.2.1 dX8_see_50 rfl (lv_at hl 0 rfl) ?_
            refine gi_RX8_119 C w hm_0 lm_0 rfl dX8_see_51 ?_
            refine lv_imul C.1.1 C.1.2.1 dX8_see_54 ?_
            refine lv_iload_n C.1.1 C.1.2.1 dX8_see_55 rfl (lv_at hl 1 rfl) ?_
            refine q_ias C w hm_6 lm_6 h.1 dX8_see_56 (fun M8 H locs eM8 w => ?_)
            replace h := h.2 M8 eM8
            refine lv_aload_n C.1.1 C.1.2.1 dX8_see_57 rfl (lv_at hl 0 rfl) ?_
            refine gr_RX8_25 C w hm_0 lm_0 rfl dX8_see_58 ?_
            refine lv_iconst (v := 3) C.1.1 C.1.2.1 dX8_see_61 (by decide) ?_
            refine lv_aload_n C.1.1 C.1.2.1 dX8_see_62 rfl (lv_at hl 0 rfl) ?_
            refine gi_RX8_119 C w hm_0 lm_0 rfl dX8_see_63 ?_
            refine lv_imul C.1.1 C.1.2.1 dX8_see_66 ?_
            refine lv_iconst (v := 1) C.1.1 C.1.2.1 dX8_see_67 (by decide) ?_
            refine lv_iadd C.1.1 C.1.2.1 dX8_see_68 ?_
            refine lv_iload_n C.1.1 C.1.2.1 dX8_see_69 rfl (lv_at hl 2 rfl) ?_
            refine q_ias C w hm_6 lm_6 h.1 dX8_see_70 (fun M9 H locs eM9 w => ?_)
            replace h := h.2 M9 eM9
            refine lv_aload_n C.1.1 C.1.2.1 dX8_see_71 rfl (lv_at hl 0 rfl) ?_
            refine gr_RX8_25 C w hm_0 lm_0 rfl dX8_see_72 ?_
            refine lv_iconst (v := 3) C.1.1 C.1.2.1 dX8_see_75 (by decide) ?_
            refine lv_aload_n C.1.1 C.1.2.1 dX8_see_76 rfl (lv_at hl 0 rfl) ?_
            refine gi_RX8_119 C w hm_0 lm_0 rfl dX8_see_77 ?_
            refine lv_imul C.1.1 C.1.2.1 dX8_see_80 ?_
            refine lv_iconst (v := 2) C.1.1 C.1.2.1 dX8_see_81 (by decide) ?_
            refine lv_iadd C.1.1 C.1.2.1 dX8_see_82 ?_
            refine lv_iload_n C.1.1 C.1.2.1 dX8_see_83 rfl (lv_at hl 3 rfl) ?_
            refine q_ias C w hm_6 lm_6 h.1 dX8_see_84 (fun M10 H locs eM10 w => ?_)
            replace h := h.2 M10 eM10
            refine lv_aload_n C.1.1 C.1.2.1 dX8_see_85 rfl (lv_at hl 0 rfl) ?_
            refine lv_dup C.1.1 C.1.2.1 dX8_see_86 rfl ?_
            refine gi_RX8_119 C w hm_0 lm_0 rfl dX8_see_87 ?_
            refine lv_iconst (v := 1) C.1.1 C.1.2.1 dX8_see_90 (by decide) ?_
            refine lv_iadd C.1.1 C.1.2.1 dX8_see_91 ?_
            refine pi_RX8_119 C w hm_0 lm_0 rfl dX8_see_92 (fun M11 H locs eM11 w => ?_)
            replace h := h M11 eM11
            refine lv_aload_n C.1.1 C.1.2.1 dX8_see_95 rfl (lv_at hl 0 rfl) ?_
            refine gi_RX8_119 C w hm_0 lm_0 rfl dX8_see_96 ?_
            exact q_iret C hr hk w rfl h dX8_see_99
          · replace h := h.1 hc7
            refine lv_bipush (v := (-3)) C.1.1 C.1.2.1 dX8_see_42 (by decide) ?_
            exact q_iret C hr hk w rfl h dX8_see_44
        · replace h := h.1 hc6
          refine lv_iconst (v := (-1)) C.1.1 C.1.2.1 dX8_see_31 (by decide) ?_
          exact q_iret C hr hk w rfl h dX8_see_32)
end
