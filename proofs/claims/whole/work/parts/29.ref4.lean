-- forget
def w_X8_forget (x1 : Int32) (M : Mem) (Q : Int32 → Mem → Prop) : Prop :=
  w_X8_in (x1.toInt64) 0 ((M 0 21).toInt64) M (fun r1 => (r1 = 0 → Q (-1) M) ∧ (¬ r1 = 0 → ∀ M3, M3 = mu M 0 21 x1 → Q (M 0 21) M3))
-- isAsSeen
def w_X8_isAsSeen_140 (x1 : Int32) (x2 : Int32) (x3 : Int32) (M : Mem) (K12 : Int32 → Int32 → Mem → Prop) (Q : Int32 → Mem → Prop) : Prop :=
  w_X8_nightOn 176 0 M (fun M7 => K12 x2 (x3 + 1) M7)
def w_X8_isAsSeen_133 (x1 : Int32) (x3 : Int32) (x4 : Int32) (t0 : Int32) (M : Mem) (K65 : Int32 → Int32 → Prop) (Q : Int32 → Mem → Prop) : Prop :=
  K65 t0 (x4 + 1)
def w_X8_isAsSeen_132 (x1 : Int32) (x3 : Int32) (x4 : Int32) (M : Mem) (K65 : Int32 → Int32 → Prop) (Q : Int32 → Mem → Prop) : Prop :=
  w_X8_isAsSeen_133 x1 x3 x4 0 M K65 Q
def w_X8_isAsSeen_128 (x1 : Int32) (x3 : Int32) (x4 : Int32) (M : Mem) (K65 : Int32 → Int32 → Prop) (Q : Int32 → Mem → Prop) : Prop :=
  w_X8_isAsSeen_133 x1 x3 x4 1 M K65 Q
def w_X8_isAsSeen_65 (x1 : Int32) (x3 : Int32) (M : Mem) (K12 : Int32 → Int32 → Mem → Prop) (Q : Int32 → Mem → Prop) (K65 : Int32 → Int32 → Prop) (x2 : Int32) (x4 : Int32) : Prop :=
  ((M 0 21) ≤ x4 → w_X8_isAsSeen_140 x1 x2 x3 M K12 Q) ∧ (¬ (M 0 21) ≤ x4 → (x2 = 0 → w_X8_isAsSeen_132 x1 x3 x4 M K65 Q) ∧ (¬ x2 = 0 → vp_in (3 * x4) 18 ∧ ((M 6 (3 * x4).toNatClampNeg) = x3 → vp_in ((3 * x4) + 1) 18 ∧ vp_in (176 + (M 6 ((3 * x4) + 1).toNatClampNeg)) 264 ∧ vp_in ((3 * x4) + 2) 18 ∧ (((M 1 (176 + (M 6 ((3 * x4) + 1).toNatClampNeg)).toNatClampNeg) + 30) = (M 6 ((3 * x4) + 2).toNatClampNeg) → w_X8_isAsSeen_128 x1 x3 x4 M K65 Q) ∧ (¬ ((M 1 (176 + (M 6 ((3 * x4) + 1).toNatClampNeg)).toNatClampNeg) + 30) = (M 6 ((3 * x4) + 2).toNatClampNeg) → w_X8_isAsSeen_132 x1 x3 x4 M K65 Q)) ∧ (¬ (M 6 (3 * x4).toNatClampNeg) = x3 → w_X8_isAsSeen_128 x1 x3 x4 M K65 Q)))
def w_X8_isAsSeen_62 (x1 : Int32) (x2 : Int32) (x3 : Int32) (M : Mem) (K12 : Int32 → Int32 → Mem → Prop) (Q : Int32 → Mem → Prop) : Prop :=
  ∃ n, fu2 (w_X8_isAsSeen_65 x1 x3 M K12 Q) n x2 0
def w_X8_isAsSeen_21 (x1 : Int32) (x2 : Int32) (x3 : Int32) (K12 : Int32 → Int32 → Mem → Prop) (Q : Int32 → Mem → Prop) (K21 : Int32 → Mem → Prop) (x4 : Int32) (M : Mem) : Prop :=
  (6 ≤ x4 → w_X8_isAsSeen_62 x1 x2 x3 M K12 Q) ∧ (¬ 6 ≤ x4 → vp_in (176 + x4) 264 ∧ vp_in (((126 * x1) + (6 * x3)) + x4) 756 ∧ ∀ M11, M11 = mu M 7 (((126 * x1) + (6 * x3)) + x4).toNatClampNeg (M 1 (176 + x4).toNatClampNeg) → K21 (x4 + 1) M11)
def w_X8_isAsSeen_12 (x1 : Int32) (Q : Int32 → Mem → Prop) (K12 : Int32 → Int32 → Mem → Prop) (x2 : Int32) (x3 : Int32) (M : Mem) : Prop :=
  (20 < x3 → narrow .boolean (.int x2) = .int x2 ∧ Q x2 M) ∧ (¬ 20 < x3 → ∃ n, fu2 (w_X8_isAsSeen_21 x1 x2 x3 K12 Q) n 0 M)
def w_X8_isAsSeen (x1 : Int32) (M : Mem) (Q : Int32 → Mem → Prop) : Prop :=
  w_X8_copies 0 176 M (fun M2 => ∃ n, fu3 (w_X8_isAsSeen_12 x1 Q) n 1 0 M2)
-- kinds
def w_X8_kinds_67 (x1 : Int32) (x2 : Int32) (x3 : Int32) (M : Mem) (Q : Int32 → Mem → Prop) : Prop :=
  vp_in (12 + x1) 264 ∧ ∀ M4, M4 = mu M 1 (12 + x1).toNatClampNeg x2 → Q x3 M4
def w_X8_kinds_25 (x1 : Int32) (x2 : Int32) (Q : Int32 → Mem → Prop) (K25 : Int32 → Int32 → Mem → Prop) (x3 : Int32) (x4 : Int32) (M : Mem) : Prop :=
  (4 ≤ x4 → w_X8_kinds_67 x1 x2 x3 M Q) ∧ (¬ 4 ≤ x4 → vp_in (12 + x1) 264 ∧ ∀ M5, M5 = mu M 1 (12 + x1).toNatClampNeg x4 → w_X8_isAsSeen 0 M5 (fun r6 M7 => K25 (x3 ||| (if r6 = 0 then (0 : Int32) else (sl 1 x4))) (x4 + 1) M7))
def w_X8_kinds (x1 : Int32) (M : Mem) (Q : Int32 → Mem → Prop) : Prop :=
  w_X8_isTaker x1 M (fun r1 => (r1 = 0 → Q (-1) M) ∧ (¬ r1 = 0 → vp_in (12 + x1) 264 ∧ ∃ n, fu3 (w_X8_kinds_25 x1 (M 1 (12 + x1).toNatClampNeg) Q) n 0 0 M))
-- gatesOf
def w_X8_gatesOf_59 (x1 : Int32) (x2 : Int32) (x3 : Int32) (M : Mem) (Q : Int32 → Mem → Prop) : Prop :=
  vp_in (17 + x1) 264 ∧ ∀ M2, M2 = mu M 1 (17 + x1).toNatClampNeg x2 → Q x3 M2
def w_X8_gatesOf_15 (x1 : Int32) (x2 : Int32) (Q : Int32 → Mem → Prop) (K15 : Int32 → Int32 → Mem → Prop) (x3 : Int32) (x4 : Int32) (M : Mem) : Prop :=
  (6 ≤ x4 → w_X8_gatesOf_59 x1 x2 x3 M Q) ∧ (¬ 6 ≤ x4 → vp_in (17 + x1) 264 ∧ ∀ M3, M3 = mu M 1 (17 + x1).toNatClampNeg x4 → w_X8_isAsSeen x4 M3 (fun r4 M5 => K15 (x3 ||| (if r4 = 0 then (0 : Int32) else (sl 1 x4))) (x4 + 1) M5))
def w_X8_gatesOf (x1 : Int32) (M : Mem) (Q : Int32 → Mem → Prop) : Prop :=
  vp_in (17 + x1) 264 ∧ ∃ n, fu3 (w_X8_gatesOf_15 x1 (M 1 (17 + x1).toNatClampNeg) Q) n 0 0 M
-- gates
def w_X8_gates (x1 : Int32) (M : Mem) (Q : Int32 → Mem → Prop) : Prop :=
  w_X8_isTaker x1 M (fun r1 => (r1 = 0 → Q (-1) M) ∧ (¬ r1 = 0 → w_X8_gatesOf x1 M (fun r3 M4 => Q r3 M4)))
-- worstAt
def w_X8_worstAt_88 (x1 : Int32) (x2 : Int32) (x3 : Int32) (x4 : Int32) (x5 : Int32) (M : Mem) (K5 : Int32 → Int32 → Prop) (Q : Int32 → Prop) : Prop :=
  K5 (if x5 ≤ x3 then x3 else x5) (x4 + 1)
def w_X8_worstAt_79 (x1 : Int32) (x2 : Int32) (x3 : Int32) (x4 : Int32) (x6 : Int32) (t0 : Int32) (t1 : Int32) (M : Mem) (K18 : Int32 → Int32 → Prop) (Q : Int32 → Prop) : Prop :=
  K18 (t1 + t0) (x6 + 1)
def w_X8_worstAt_78 (x1 : Int32) (x2 : Int32) (x3 : Int32) (x4 : Int32) (x6 : Int32) (t0 : Int32) (M : Mem) (K18 : Int32 → Int32 → Prop) (Q : Int32 → Prop) : Prop :=
  w_X8_worstAt_79 x1 x2 x3 x4 x6 0 t0 M K18 Q
def w_X8_worstAt_18 (x1 : Int32) (x2 : Int32) (x3 : Int32) (x4 : Int32) (M : Mem) (K5 : Int32 → Int32 → Prop) (Q : Int32 → Prop) (K18 : Int32 → Int32 → Prop) (x5 : Int32) (x6 : Int32) : Prop :=
  (6 ≤ x6 → w_X8_worstAt_88 x1 x2 x3 x4 x5 M K5 Q) ∧ (¬ 6 ≤ x6 → (((sr x1 x4) &&& 1) = 1 → (((sr x1 x6) &&& 1) = 1 → vp_in ((126 * x4) + x2) 756 ∧ vp_in ((126 * x6) + x2) 756 ∧ ((M 7 ((126 * x4) + x2).toNatClampNeg) = (M 7 ((126 * x6) + x2).toNatClampNeg) → w_X8_worstAt_79 x1 x2 x3 x4 x6 1 x5 M K18 Q) ∧ (¬ (M 7 ((126 * x4) + x2).toNatClampNeg) = (M 7 ((126 * x6) + x2).toNatClampNeg) → w_X8_worstAt_78 x1 x2 x3 x4 x6 x5 M K18 Q)) ∧ (¬ ((sr x1 x6) &&& 1) = 1 → w_X8_worstAt_78 x1 x2 x3 x4 x6 x5 M K18 Q)) ∧ (¬ ((sr x1 x4) &&& 1) = 1 → w_X8_worstAt_88 x1 x2 x3 x4 x5 M K5 Q))
def w_X8_worstAt_5 (x1 : Int32) (x2 : Int32) (M : Mem) (Q : Int32 → Prop) (K5 : Int32 → Int32 → Prop) (x3 : Int32) (x4 : Int32) : Prop :=
  (6 ≤ x4 → Q x3) ∧ (¬ 6 ≤ x4 → ∃ n, fu2 (w_X8_worstAt_18 x1 x2 x3 x4 M K5 Q) n 0 0)
def w_X8_worstAt (x1 : Int32) (x2 : Int32) (M : Mem) (Q : Int32 → Prop) : Prop :=
  ∃ n, fu2 (w_X8_worstAt_5 x1 x2 M Q) n 0 0
-- ask
def w_X8_ask_129 (x2 : Int32) (x4 : Int32) (x5 : Int32) (M : Mem) (Q : Int32 → Mem → Prop) : Prop :=
  Q (if x5 = (-4) then x5 else (if x2 = 0 then x5 else x4)) M
def w_X8_ask_105 (x2 : Int32) (x3 : Int32) (x4 : Int32) (x6 : Int32) (x7 : Int32) (t0 : Int32) (M : Mem) (K63 : Int32 → Int32 → Int32 → Prop) (Q : Int32 → Mem → Prop) : Prop :=
  K63 (if x4 ≤ x7 then x4 else x7) t0 (x6 + 1)
def w_X8_ask_63 (x2 : Int32) (x3 : Int32) (M : Mem) (Q : Int32 → Mem → Prop) (K63 : Int32 → Int32 → Int32 → Prop) (x4 : Int32) (x5 : Int32) (x6 : Int32) : Prop :=
  (126 ≤ x6 → w_X8_ask_129 x2 x4 x5 M Q) ∧ (¬ 126 ≤ x6 → w_X8_worstAt x3 x6 M (fun r11 => (x4 ≤ r11 → w_X8_ask_105 x2 x3 x4 x6 r11 x5 M K63 Q) ∧ (¬ x4 ≤ r11 → w_X8_ask_105 x2 x3 x4 x6 r11 ((10 * (x6 / 6)) + (irm x6 6)) M K63 Q)))
def w_X8_ask_56 (x2 : Int32) (x3 : Int32) (x4 : Int32) (M : Mem) (Q : Int32 → Mem → Prop) : Prop :=
  ∃ n, fu3 (w_X8_ask_63 x2 x3 M Q) n x4 (-4) 0
def w_X8_ask_32 (x2 : Int32) (x3 : Int32) (M : Mem) (Q : Int32 → Mem → Prop) (K32 : Int32 → Int32 → Prop) (x4 : Int32) (x5 : Int32) : Prop :=
  (6 ≤ x5 → w_X8_ask_56 x2 x3 x4 M Q) ∧ (¬ 6 ≤ x5 → K32 (x4 + ((sr x3 x5) &&& 1)) (x5 + 1))
def w_X8_ask (x1 : Int32) (x2 : Int32) (M : Mem) (Q : Int32 → Mem → Prop) : Prop :=
  w_X8_isTaker x1 M (fun r1 => (r1 = 0 → Q (-1) M) ∧ (¬ r1 = 0 → w_X8_in (x2.toInt64) 0 1 M (fun r3 => (r3 = 0 → Q (-1) M) ∧ (¬ r3 = 0 → w_X8_gatesOf x1 M (fun r5 M6 => ∃ n, fu2 (w_X8_ask_32 x2 r5 M6 Q) n 0 0)))))
-- drift
def w_X8_drift_118 (x3 : Int32) (M : Mem) (Q : Int32 → Mem → Prop) : Prop :=
  Q (if x3 = 0 then (M 0 16) else (M 0 18)) M
def w_X8_drift_52 (x2 : Int32) (x3 : Int32) (Q : Int32 → Mem → Prop) (K52 : Int32 → Int32 → Mem → Prop) (x4 : Int32) (x5 : Int32) (M : Mem) : Prop :=
  (x2 ≤ x5 → w_X8_drift_118 x3 M Q) ∧ (¬ x2 ≤ x5 → ¬ (M 0 1) = 0 ∧ vp_in (193 + (irm ((sr ((x4 * 1103515245) + 12345) 16) &&& 32767) (M 0 1))) 264 ∧ ∀ M12, M12 = mu M 1 (193 + (irm ((sr ((x4 * 1103515245) + 12345) 16) &&& 32767) (M 0 1))).toNatClampNeg (irm (((sr ((x4 * 1103515245) + 12345) 16) &&& 32767) / 8) 6) → w_X8_nightOn 176 0 M12 (fun M14 => K52 ((x4 * 1103515245) + 12345) (x5 + 1) M14))
def w_X8_drift (x1 : Int32) (x2 : Int32) (x3 : Int32) (M : Mem) (Q : Int32 → Mem → Prop) : Prop :=
  w_X8_in (x2.toInt64) 1 60 M (fun r1 => (r1 = 0 → Q (-1) M) ∧ (¬ r1 = 0 → w_X8_in (x3.toInt64) 0 1 M (fun r3 => (r3 = 0 → Q (-1) M) ∧ (¬ r3 = 0 → ((M 0 1) = 0 → Q (-2) M) ∧ (¬ (M 0 1) = 0 → w_X8_copies 0 176 M (fun M7 => w_X8_startCounts M7 (fun M9 => ∃ n, fu3 (w_X8_drift_52 x2 x3 Q) n x1 0 M9)))))))
-- keep
def w_X8_keep (x1 : Int32) (M : Mem) (Q : Int32 → Mem → Prop) : Prop :=
  w_X8_in (x1.toInt64) 0 1 M (fun r1 => (r1 = 0 → Q (-1) M) ∧ (¬ r1 = 0 → w_X8_copies 0 (44 * (x1 + 1)) M (fun M4 => vp_in x1 2 ∧ vp_in x1 2 ∧ ∀ M6, M6 = mu M4 8 x1.toNatClampNeg (vp_nar .boolean 1) → Q (if (M4 8 x1.toNatClampNeg) = 0 then (0 : Int32) else 1) M6)))
-- back
def w_X8_back (x1 : Int32) (M : Mem) (Q : Int32 → Mem → Prop) : Prop :=
  w_X8_in (x1.toInt64) 0 1 M (fun r1 => (r1 = 0 → Q (-1) M) ∧ (¬ r1 = 0 → vp_in x1 2 ∧ ((M 8 x1.toNatClampNeg) = 0 → Q (-2) M) ∧ (¬ (M 8 x1.toNatClampNeg) = 0 → w_X8_copies (44 * (x1 + 1)) 0 M (fun M5 => vp_in 42 264 ∧ Q (M5 1 (42 : Int32).toNatClampNeg) M5))))
-- sheet
def w_X8_sheet_56 (x1 : Int32) (Q : Int32 → Mem → Prop) (K56 : Int32 → Mem → Prop) (x4 : Int32) (M : Mem) : Prop :=
  (40 ≤ x4 → Q 1 M) ∧ (¬ 40 ≤ x4 → vp_in ((40 * x1) + x4) 160 ∧ ∀ M10, M10 = mu M 11 ((40 * x1) + x4).toNatClampNeg 0 → K56 (x4 + 1) M10)
def w_X8_sheet (x1 : Int32) (x2 : Int32) (x3 : Int32) (M : Mem) (Q : Int32 → Mem → Prop) : Prop :=
  w_X8_in (x1.toInt64) 0 3 M (fun r1 => (r1 = 0 → Q (-1) M) ∧ (¬ r1 = 0 → w_X8_in (x2.toInt64) 0 2 M (fun r3 => (r3 = 0 → Q (-1) M) ∧ (¬ r3 = 0 → (x3 ≤ 40 → (0 ≤ x3 → vp_in x1 4 ∧ ∀ M7, M7 = mu M 9 x1.toNatClampNeg x2 → vp_in x1 4 ∧ ∀ M8, M8 = mu M7 10 x1.toNatClampNeg x3 → ∃ n, fu2 (w_X8_sheet_56 x1 Q) n 0 M8) ∧ (¬ 0 ≤ x3 → Q (-14) M)) ∧ (¬ x3 ≤ 40 → Q (-1) M)))))
-- lay
def w_X8_lay_99 (t0 : Int32) (t1 : Int32) (M : Mem) (Q : Int32 → Mem → Prop) : Prop :=
  vp_in t1 160 ∧ ∀ M8, M8 = mu M 11 t1.toNatClampNeg t0 → Q 1 M8
def w_X8_lay (x1 : Int32) (x2 : Int32) (x3 : Int32) (M : Mem) (Q : Int32 → Mem → Prop) : Prop :=
  w_X8_in (x1.toInt64) 0 3 M (fun r1 => (r1 = 0 → Q (-1) M) ∧ (¬ r1 = 0 → vp_in x1 4 ∧ ((M 9 x1.toNatClampNeg) = (-4) → Q (-11) M) ∧ (¬ (M 9 x1.toNatClampNeg) = (-4) → vp_in x1 4 ∧ w_X8_in (x2.toInt64) 0 (((M 10 x1.toNatClampNeg) - 1).toInt64) M (fun r4 => (r4 = 0 → Q (-12) M) ∧ (¬ r4 = 0 → vp_in x1 4 ∧ ((M 9 x1.toNatClampNeg) = 0 → w_X8_lay_99 (sr (sl x3 24) 24) ((40 * x1) + x2) M Q) ∧ (¬ (M 9 x1.toNatClampNeg) = 0 → vp_in x1 4 ∧ w_X8_lay_99 (if (M 9 x1.toNatClampNeg) = 1 then (sr (sl x3 16) 16) else x3) ((40 * x1) + x2) M Q))))))
-- read
def w_X8_read_218 (x5 : Int32) (x6 : Int32) (M : Mem) (Q : Int32 → Mem → Prop) : Prop :=
  ∀ M10, M10 = mu M 0 27 x5 → Q x6 M10
def w_X8_read_212 (x1 : Int32) (x2 : Int32) (x3 : Int32) (x4 : Int32) (x5 : Int32) (x6 : Int32) (x7 : Int32) (M : Mem) (K56 : Int32 → Int32 → Int32 → Mem → Prop) (Q : Int32 → Mem → Prop) : Prop :=
  K56 x5 x6 (x7 + 1) M
def w_X8_read_189 (x6 : Int32) (M : Mem) (Q : Int32 → Mem → Prop) : Prop :=
  w_X8_copies 132 0 M (fun M20 => Q ((-20) - x6) M20)
def w_X8_read_126 (x1 : Int32) (x2 : Int32) (x3 : Int32) (x4 : Int32) (x6 : Int32) (x7 : Int32) (t0 : Int32) (M : Mem) (K56 : Int32 → Int32 → Int32 → Mem → Prop) (Q : Int32 → Mem → Prop) : Prop :=
  (t0 = 0 → ((irm x7 2) = 1 → vp_in 42 264 ∧ ((M 1 (42 : Int32).toNatClampNeg) = 999 → w_X8_read_189 x6 M Q) ∧ (¬ (M 1 (42 : Int32).toNatClampNeg) = 999 → vp_in ((((40 * x1) + x3) + x7) - 1) 160 ∧ vp_in (((40 * x1) + x3) + x7) 160 ∧ w_X8_alters (M 11 ((((40 * x1) + x3) + x7) - 1).toNatClampNeg) 1 (M 11 (((40 * x1) + x3) + x7).toNatClampNeg) M (fun r21 M22 => (0 ≤ r21 → w_X8_nightOn 0 0 M22 (fun M25 => w_X8_read_212 x1 x2 x3 x4 t0 (x6 + 1) x7 M25 K56 Q)) ∧ (¬ 0 ≤ r21 → w_X8_read_189 x6 M22 Q)))) ∧ (¬ (irm x7 2) = 1 → w_X8_read_212 x1 x2 x3 x4 t0 x6 x7 M K56 Q)) ∧ (¬ t0 = 0 → w_X8_read_212 x1 x2 x3 x4 t0 x6 x7 M K56 Q)
def w_X8_read_56 (x1 : Int32) (x2 : Int32) (x3 : Int32) (x4 : Int32) (Q : Int32 → Mem → Prop) (K56 : Int32 → Int32 → Int32 → Mem → Prop) (x5 : Int32) (x6 : Int32) (x7 : Int32) (M : Mem) : Prop :=
  ((2 * x4) ≤ x7 → w_X8_read_218 x5 x6 M Q) ∧ (¬ (2 * x4) ≤ x7 → (x5 = 0 → vp_in x1 4 ∧ ((M 9 x1.toNatClampNeg) = (-4) → w_X8_read_126 x1 x2 x3 x4 x6 x7 1 M K56 Q) ∧ (¬ (M 9 x1.toNatClampNeg) = (-4) → vp_in x1 4 ∧ ((M 9 x1.toNatClampNeg) = x2 → vp_in x1 4 ∧ w_X8_in ((x3.toInt64) + (x7.toInt64)) 0 (((M 10 x1.toNatClampNeg) - 1).toInt64) M (fun r14 => w_X8_read_126 x1 x2 x3 x4 x6 x7 (if r14 = 0 then (2 : Int32) else 0) M K56 Q)) ∧ (¬ (M 9 x1.toNatClampNeg) = x2 → w_X8_read_126 x1 x2 x3 x4 x6 x7 3 M K56 Q))) ∧ (¬ x5 = 0 → w_X8_read_218 x5 x6 M Q))
def w_X8_read (x1 : Int32) (x2 : Int32) (x3 : Int32) (x4 : Int32) (M : Mem) (Q : Int32 → Mem → Prop) : Prop :=
  w_X8_in (x1.toInt64) 0 3 M (fun r1 => (r1 = 0 → Q (-1) M) ∧ (¬ r1 = 0 → w_X8_in (x2.toInt64) 0 2 M (fun r3 => (r3 = 0 → Q (-1) M) ∧ (¬ r3 = 0 → w_X8_in (x4.toInt64) 0 20 M (fun r5 => (r5 = 0 → Q (-1) M) ∧ (¬ r5 = 0 → w_X8_copies 0 132 M (fun M8 => ∃ n, fu4 (w_X8_read_56 x1 x2 x3 x4 Q) n 0 0 0 M8)))))))
-- torn
def w_X8_torn (M : Mem) (Q : Int32 → Prop) : Prop :=
  Q (M 0 27)
-- count
def w_X8_count_69 (x1 : Int32) (x2 : Int32) (x3 : Int32) (M : Mem) (Q : Int32 → Prop) : Prop :=
  (x1 = 0 → Q (M 0 21)) ∧ (¬ x1 = 0 → (x1 = 1 → vp_in 0 2 ∧ vp_in 1 2 ∧ Q ((if (M 8 (0 : Int32).toNatClampNeg) = 0 then (0 : Int32) else 1) + (if (M 8 (1 : Int32).toNatClampNeg) = 0 then (0 : Int32) else 1))) ∧ (¬ x1 = 1 → (x1 = 2 → Q (M 0 6)) ∧ (¬ x1 = 2 → (x1 = 3 → vp_in 0 4 ∧ ((M 9 (0 : Int32).toNatClampNeg) = (-4) → Q (-4)) ∧ (¬ (M 9 (0 : Int32).toNatClampNeg) = (-4) → vp_in 0 4 ∧ Q (M 10 (0 : Int32).toNatClampNeg))) ∧ (¬ x1 = 3 → (x1 = 4 → Q x2) ∧ (¬ x1 = 4 → (x1 = 5 → Q x3) ∧ (¬ x1 = 5 → Q (-1)))))))
def w_X8_count_38 (x1 : Int32) (x2 : Int32) (M : Mem) (Q : Int32 → Prop) (K38 : Int32 → Int32 → Prop) (x3 : Int32) (x4 : Int32) : Prop :=
  vp_in 41 264 ∧ ((M 1 (41 : Int32).toNatClampNeg) ≤ x4 → w_X8_count_69 x1 x2 x3 M Q) ∧ (¬ (M 1 (41 : Int32).toNatClampNeg) ≤ x4 → vp_in (38 + x4) 264 ∧ K38 (x3 + (M 1 (38 + x4).toNatClampNeg)) (x4 + 1))
def w_X8_count_35 (x1 : Int32) (x2 : Int32) (x3 : Int32) (M : Mem) (Q : Int32 → Prop) : Prop :=
  ∃ n, fu2 (w_X8_count_38 x1 x2 M Q) n x3 0
def w_X8_count_7 (x1 : Int32) (x3 : Int32) (M : Mem) (Q : Int32 → Prop) (K7 : Int32 → Int32 → Prop) (x2 : Int32) (x4 : Int32) : Prop :=
  (6 ≤ x4 → w_X8_count_35 x1 x2 x3 M Q) ∧ (¬ 6 ≤ x4 → vp_in (6 + x4) 264 ∧ K7 (x2 + ((M 1 (6 + x4).toNatClampNeg) + 2)) (x4 + 1))
def w_X8_count (x1 : Int32) (M : Mem) (Q : Int32 → Prop) : Prop :=
  ∃ n, fu2 (w_X8_count_7 x1 0 M Q) n 0 0
section
variable {p : Program} {l : Launch} {e : Env} {s : State} {m : MethodId} {args : Array Value} {below : List Frame} {meth : Method} {c : Code} {g : Gt}
-- forget
set_option maxHeartbeats 4000000 in
set_option maxRecDepth 100000 in
theorem c_X8_forget {l : Launch} {g : Gt} {x1 : Int32} {M : Mem} {Q : Int32 → Mem → Prop} (h : w_X8_forget x1 M Q) : MI l yX8_forget cX8_forget 3 (some .int) 1 25 g layM 12 [.ref (ga g 0), .int x1] M Q :=
  m_of (by decide +kernel) (Nat.le_of_ble_eq_true rfl) (fun p e s m args below meth c ls C hr hk w hl => by
    have C : Cx p s m args c cX8_forget 3 RX8 g := C
    have hl : lv_has ls 3 [(0, .ref (ga g 0)), (1, .int x1)] := hl
    unfold w_X8_forget at h
    obtain ⟨H, eH⟩ : ∃ H : Heap, H = s.heap := ⟨_, rfl⟩
    obtain ⟨locs, el⟩ : ∃ locs : List Loc, locs = [] := ⟨_, rfl⟩
    have w : Wd g layM 12 s.heap M H locs := by rw [eH, el]; exact w
    suffices hw : W p l e (rmOf 1 25) s m args below meth c H locs 0 0 (MQ below (va_Qi Q (PostW g layM 12) (gF g)) args s 0 0 (gF g)) (F0 m 0 ls []) by rw [eH, el] at hw; exact hw
    clear eH el
    refine lv_iload_n C.1.1 C.1.2.1 dX8_forget_0 rfl (lv_at hl 1 rfl) ?_
    refine lv_i2l C.1.1 C.1.2.1 dX8_forget_1 rfl ?_
    refine lv_lconst (v := 0) C.1.1 C.1.2.1 dX8_forget_2 (by decide) ?_
    refine lv_aload_n C.1.1 C.1.2.1 dX8_forget_3 rfl (lv_at hl 0 rfl) ?_
    refine gi_RX8_119 C w hm_0 lm_0 rfl dX8_forget_4 ?_
    refine lv_i2l C.1.1 C.1.2.1 dX8_forget_7 rfl ?_
    refine q_pSi C w [.long (x1.toInt64), .long 0, .long ((M 0 21).toInt64)] (c_X8_in  h) ks_X8_in k_95  rfl hl.1 (Nat.le_of_ble_eq_true rfl) ⟨Nat.le_of_ble_eq_true rfl, Nat.le_of_ble_eq_true rfl⟩ dX8_forget_8 (fun r1 H locs h w => ?_)
    refine lv_if_ne (tgt := 16) C.1.1 C.1.2.1 dX8_forget_11 (by decide) (fun hc2 => ?_) (fun hc2 => ?_)
    · replace h := h.2 hc2
      refine lv_aload_n C.1.1 C.1.2.1 dX8_forget_16 rfl (lv_at hl 0 rfl) ?_
      refine gi_RX8_119 C w hm_0 lm_0 rfl dX8_forget_17 ?_
      refine lv_istore_n (lv' := [(2, .int (M 0 21)), (0, .ref (ga g 0)), (1, .int x1)]) C.1.1 C.1.2.1 dX8_forget_20 rfl hl (by decide) rfl (fun ls hl => ?_)
      refine lv_aload_n C.1.1 C.1.2.1 dX8_forget_21 rfl (lv_at hl 1 rfl) ?_
      refine lv_iload_n C.1.1 C.1.2.1 dX8_forget_22 rfl (lv_at hl 2 rfl) ?_
      refine pi_RX8_119 C w hm_0 lm_0 rfl dX8_forget_23 (fun M3 H locs eM3 w => ?_)
      replace h := h M3 eM3
      refine lv_iload_n C.1.1 C.1.2.1 dX8_forget_26 rfl (lv_at hl 0 rfl) ?_
      exact q_iret C hr hk w rfl h dX8_forget_27
    · replace h := h.1 hc2
      refine lv_iconst (v := (-1)) C.1.1 C.1.2.1 dX8_forget_14 (by decide) ?_
      exact q_iret C hr hk w rfl h dX8_forget_15)
-- isAsSeen
set_option maxHeartbeats 4000000 in
set_option maxRecDepth 100000 in
theorem v_X8_isAsSeen_140 {x1 : Int32} {x2 : Int32} {x3 : Int32} {M : Mem} {K12 : Int32 → Int32 → Mem → Prop} {Q : Int32 → Mem → Prop} {H : Heap} {locs : List Loc} {ls : Array Slot} (C : Cx p s m args c cX8_isAsSeen 5 RX8 g) (hr : meth.sig.returnType = (some .boolean)) (hk : meth.locks = false) (hK12 : ∀ (x2 : Int32) (x3 : Int32) (M : Mem) (H : Heap) (locs : List Loc) (ls : Array Slot), K12 x2 x3 M → Wd g layM 12 s.heap M H locs → lv_has ls 5 [(0, .ref (ga g 0)), (1, .int x1), (2, .int x2), (3, .int x3)] → W p l e (rmOf 4 97) s m args below meth c H locs 0 0 (MQ below (va_Qi Q (PostW g layM 12) (gF g)) args s 0 0 (gF g)) (F0 m 12 ls [])) (h : w_X8_isAsSeen_140 x1 x2 x3 M K12 Q) (w : Wd g layM 12 s.heap M H locs) (hl : lv_has ls 5 [(0, .ref (ga g 0)), (1, .int x1), (2, .int x2), (3, .int x3)]) : W p l e (rmOf 4 97) s m args below meth c H locs 0 0 (MQ below (va_Qi Q (PostW g layM 12) (gF g)) args s 0 0 (gF g)) (F0 m 140 ls []) := by
  unfold w_X8_isAsSeen_140 at h
  refine lv_aload_n C.1.1 C.1.2.1 dX8_isAsSeen_140 rfl (lv_at hl 0 rfl) ?_
  refine lv_sipush (v := 176) C.1.1 C.1.2.1 dX8_isAsSeen_141 (by decide) ?_
  refine lv_iconst (v := 0) C.1.1 C.1.2.1 dX8_isAsSeen_144 (by decide) ?_
  refine q_cVv C w [.int 176, .int 0] (c_X8_nightOn  h) kv_X8_nightOn k_126 (rcv C w kc_X8 hm_0 lm_0) rfl hl.1 (Nat.le_of_ble_eq_true rfl) ⟨Nat.le_of_ble_eq_true rfl, Nat.le_of_ble_eq_true rfl⟩ dX8_isAsSeen_145 (fun M7 H locs h w => ?_)
  refine lv_iinc (v := x3 + 1) (lv' := [(3, .int (x3 + 1)), (0, .ref (ga g 0)), (1, .int x1), (2, .int x2)]) C.1.1 C.1.2.1 dX8_isAsSeen_148 hl (k := 3) rfl rfl (by decide) rfl (fun ls hl => ?_)
  refine lv_goto (tgt := 12) C.1.1 C.1.2.1 dX8_isAsSeen_151 (by decide) ?_
  exact hK12 _ _ _ _ _ _ h w (lv_sub hl [1, 2, 3, 0] rfl)
set_option maxHeartbeats 4000000 in
set_option maxRecDepth 100000 in
theorem v_X8_isAsSeen_133 {x1 : Int32} {x3 : Int32} {x4 : Int32} {t0 : Int32} {M : Mem} {K65 : Int32 → Int32 → Prop} {Q : Int32 → Mem → Prop} {H : Heap} {locs : List Loc} {ls : Array Slot} (C : Cx p s m args c cX8_isAsSeen 5 RX8 g) (hr : meth.sig.returnType = (some .boolean)) (hk : meth.locks = false) (hK65 : ∀ (x2 : Int32) (x4 : Int32) (H : Heap) (locs : List Loc) (ls : Array Slot), K65 x2 x4 → Wd g layM 12 s.heap M H locs → lv_has ls 5 [(0, .ref (ga g 0)), (1, .int x1), (2, .int x2), (3, .int x3), (4, .int x4)] → W p l e (rmOf 4 97) s m args below meth c H locs 0 0 (MQ below (va_Qi Q (PostW g layM 12) (gF g)) args s 0 0 (gF g)) (F0 m 65 ls [])) (h : w_X8_isAsSeen_133 x1 x3 x4 t0 M K65 Q) (w : Wd g layM 12 s.heap M H locs) (hl : lv_has ls 5 [(0, .ref (ga g 0)), (1, .int x1), (3, .int x3), (4, .int x4)]) : W p l e (rmOf 4 97) s m args below meth c H locs 0 0 (MQ below (va_Qi Q (PostW g layM 12) (gF g)) args s 0 0 (gF g)) (F0 m 133 ls [.int t0]) := by
  unfold w_X8_isAsSeen_133 at h
  refine lv_istore_n (lv' := [(2, .int t0), (0, .ref (ga g 0)), (1, .int x1), (3, .int x3), (4, .int x4)]) C.1.1 C.1.2.1 dX8_isAsSeen_133 rfl hl (by decide) rfl (fun ls hl => ?_)
  refine lv_iinc (v := x4 + 1) (lv' := [(4, .int (x4 + 1)), (2, .int t0), (0, .ref (ga g 0)), (1, .int x1), (3, .int x3)]) C.1.1 C.1.2.1 dX8_isAsSeen_134 hl (k := 4) rfl rfl (by decide) rfl (fun ls hl => ?_)
  refine lv_goto (tgt := 65) C.1.1 C.1.2.1 dX8_isAsSeen_137 (by decide) ?_
  exact hK65 _ _ _ _ _ h w (lv_sub hl [2, 3, 1, 4, 0] rfl)
set_option maxHeartbeats 4000000 in
set_option maxRecDepth 100000 in
theorem v_X8_isAsSeen_132 {x1 : Int32} {x3 : Int32} {x4 : Int32} {M : Mem} {K65 : Int32 → Int32 → Prop} {Q : Int32 → Mem → Prop} {H : Heap} {locs : List Loc} {ls : Array Slot} (C : Cx p s m args c cX8_isAsSeen 5 RX8 g) (hr : meth.sig.returnType = (some .boolean)) (hk : meth.locks = false) (hK65 : ∀ (x2 : Int32) (x4 : Int32) (H : Heap) (locs : List Loc) (ls : Array Slot), K65 x2 x4 → Wd g layM 12 s.heap M H locs → lv_has ls 5 [(0, .ref (ga g 0)), (1, .int x1), (2, .int x2), (3, .int x3), (4, .int x4)] → W p l e (rmOf 4 97) s m args below meth c H locs 0 0 (MQ below (va_Qi Q (PostW g layM 12) (gF g)) args s 0 0 (gF g)) (F0 m 65 ls [])) (h : w_X8_isAsSeen_132 x1 x3 x4 M K65 Q) (w : Wd g layM 12 s.heap M H locs) (hl : lv_has ls 5 [(0, .ref (ga g 0)), (1, .int x1), (3, .int x3), (4, .int x4)]) : W p l e (rmOf 4 97) s m args below meth c H locs 0 0 (MQ below (va_Qi Q (PostW g layM 12) (gF g)) args s 0 0 (gF g)) (F0 m 132 ls []) := by
  unfold w_X8_isAsSeen_132 at h
  refine lv_iconst (v := 0) C.1.1 C.1.2.1 dX8_isAsSeen_132 (by decide) ?_
  exact v_X8_isAsSeen_133 C hr hk  hK65 h w (lv_sub hl [0, 1, 2, 3] rfl)
set_option maxHeartbeats 4000000 in
set_option maxRecDepth 100000 in
theorem v_X8_isAsSeen_128 {x1 : Int32} {x3 : Int32} {x4 : Int32} {M : Mem} {K65 : Int32 → Int32 → Prop} {Q : Int32 → Mem → Prop} {H : Heap} {locs : List Loc} {ls : Array Slot} (C : Cx p s m args c cX8_isAsSeen 5 RX8 g) (hr : meth.sig.returnType = (some .boolean)) (hk : meth.locks = false) (hK65 : ∀ (x2 : Int32) (x4 : Int32) (H : Heap) (locs : List Loc) (ls : Array Slot), K65 x2 x4 → Wd g layM 12 s.heap M H locs → lv_has ls 5 [(0, .ref (ga g 0)), (1, .int x1), (2, .int x2), (3, .int x3), (4, .int x4)] → W p l e (rmOf 4 97) s m args below meth c H locs 0 0 (MQ below (va_Qi Q (PostW g layM 12) (gF g)) args s 0 0 (gF g)) (F0 m 65 ls [])) (h : w_X8_isAsSeen_128 x1 x3 x4 M K65 Q) (w : Wd g layM 12 s.heap M H locs) (hl : lv_has ls 5 [(0, .ref (ga g 0)), (1, .int x1), (3, .int x3), (4, .int x4)]) : W p l e (rmOf 4 97) s m args below meth c H locs 0 0 (MQ below (va_Qi Q (PostW g layM 12) (gF g)) args s 0 0 (gF g)) (F0 m 128 ls []) := by
  unfold w_X8_isAsSeen_128 at h
  refine lv_iconst (v := 1) C.1.1 C.1.2.1 dX8_isAsSeen_128 (by decide) ?_
  refine lv_goto (tgt := 133) C.1.1 C.1.2.1 dX8_isAsSeen_129 (by decide) ?_
  exact v_X8_isAsSeen_133 C hr hk  hK65 h w (lv_sub hl [0, 1, 2, 3] rfl)
set_option maxHeartbeats 4000000 in
set_option maxRecDepth 100000 in
theorem v_X8_isAsSeen_65 {x1 : Int32} {x3 : Int32} {x2 : Int32} {x4 : Int32} {M : Mem} {K12 : Int32 → Int32 → Mem → Prop} {K65 : Int32 → Int32 → Prop} {Q : Int32 → Mem → Prop} {H : Heap} {locs : List Loc} {ls : Array Slot} (C : Cx p s m args c cX8_isAsSeen 5 RX8 g) (hr : meth.sig.returnType = (some .boolean)) (hk : meth.locks = false) (hK12 : ∀ (x2 : Int32) (x3 : Int32) (M : Mem) (H : Heap) (locs : List Loc) (ls : Array Slot), K12 x2 x3 M → Wd g layM 12 s.heap M H locs → lv_has ls 5 [(0, .ref (ga g 0)), (1, .int x1), (2, .int x2), (3, .int x3)] → W p l e (rmOf 4 97) s m args below meth c H locs 0 0 (MQ below (va_Qi Q (PostW g layM 12) (gF g)) args s 0 0 (gF g)) (F0 m 12 ls [])) (hK65 : ∀ (x2 : Int32) (x4 : Int32) (H : Heap) (locs : List Loc) (ls : Array Slot), K65 x2 x4 → Wd g layM 12 s.heap M H locs → lv_has ls 5 [(0, .ref (ga g 0)), (1, .int x1), (2, .int x2), (3, .int x3), (4, .int x4)] → W p l e (rmOf 4 97) s m args below meth c H locs 0 0 (MQ below (va_Qi Q (PostW g layM 12) (gF g)) args s 0 0 (gF g)) (F0 m 65 ls [])) (h : w_X8_isAsSeen_65 x1 x3 M K12 Q K65 x2 x4) (w : Wd g layM 12 s.heap M H locs) (hl : lv_has ls 5 [(0, .ref (ga g 0)), (1, .int x1), (2, .int x2), (3, .int x3), (4, .int x4)]) : W p l e (rmOf 4 97) s m args below meth c H locs 0 0 (MQ below (va_Qi Q (PostW g layM 12) (gF g)) args s 0 0 (gF g)) (F0 m 65 ls []) := by
  unfold w_X8_isAsSeen_65 at h
  refine lv_iload C.1.1 C.1.2.1 dX8_isAsSeen_65 (lv_at hl 4 rfl) ?_
  refine lv_aload_n C.1.1 C.1.2.1 dX8_isAsSeen_67 rfl (lv_at hl 0 rfl) ?_
  refine gi_RX8_119 C w hm_0 lm_0 rfl dX8_isAsSeen_68 ?_
  refine lv_icmp_ge (tgt := 140) C.1.1 C.1.2.1 dX8_isAsSeen_71 (by decide) (fun hc5 => ?_) (fun hc5 => ?_)
  · replace h := h.1 hc5
    exact v_X8_isAsSeen_140 C hr hk  hK12 h w (lv_sub hl [0, 1, 2, 3] rfl)
  · replace h := h.2 hc5
    refine lv_iload_n C.1.1 C.1.2.1 dX8_isAsSeen_74 rfl (lv_at hl 2 rfl) ?_
    refine lv_if_eq (tgt := 132) C.1.1 C.1.2.1 dX8_isAsSeen_75 (by decide) (fun hc8 => ?_) (fun hc8 => ?_)
    · replace h := h.1 hc8
      exact v_X8_isAsSeen_132 C hr hk  hK65 h w (lv_sub hl [0, 1, 3, 4] rfl)
    · replace h := h.2 hc8
      refine lv_aload_n C.1.1 C.1.2.1 dX8_isAsSeen_78 rfl (lv_at hl 0 rfl) ?_
      refine gr_RX8_25 C w hm_0 lm_0 rfl dX8_isAsSeen_79 ?_
      refine lv_iconst (v := 3) C.1.1 C.1.2.1 dX8_isAsSeen_82 (by decide) ?_
      refine lv_iload C.1.1 C.1.2.1 dX8_isAsSeen_83 (lv_at hl 4 rfl) ?_
      refine lv_imul C.1.1 C.1.2.1 dX8_isAsSeen_85 ?_
      refine q_ial C w hm_6 lm_6 h.1 dX8_isAsSeen_86 ?_
      replace h := h.2
      refine lv_iload_n C.1.1 C.1.2.1 dX8_isAsSeen_87 rfl (lv_at hl 3 rfl) ?_
      refine lv_icmp_ne (tgt := 128) C.1.1 C.1.2.1 dX8_isAsSeen_88 (by decide) (fun hc9 => ?_) (fun hc9 => ?_)
      · replace h := h.2 hc9
        exact v_X8_isAsSeen_128 C hr hk  hK65 h w (lv_sub hl [0, 1, 3, 4] rfl)
      · replace h := h.1 hc9
        refine lv_aload_n C.1.1 C.1.2.1 dX8_isAsSeen_91 rfl (lv_at hl 0 rfl) ?_
        refine gr_RX8_7 C w hm_0 lm_0 rfl dX8_isAsSeen_92 ?_
        refine lv_sipush (v := 176) C.1.1 C.1.2.1 dX8_isAsSeen_95 (by decide) ?_
        refine lv_aload_n C.1.1 C.1.2.1 dX8_isAsSeen_98 rfl (lv_at hl 0 rfl) ?_
        refine gr_RX8_25 C w hm_0 lm_0 rfl dX8_isAsSeen_99 ?_
        refine lv_iconst (v := 3) C.1.1 C.1.2.1 dX8_isAsSeen_102 (by decide) ?_
        refine lv_iload C.1.1 C.1.2.1 dX8_isAsSeen_103 (lv_at hl 4 rfl) ?_
        refine lv_imul C.1.1 C.1.2.1 dX8_isAsSeen_105 ?_
        refine lv_iconst (v := 1) C.1.1 C.1.2.1 dX8_isAsSeen_106 (by decide) ?_
        refine lv_iadd C.1.1 C.1.2.1 dX8_isAsSeen_107 ?_
        refine q_ial C w hm_6 lm_6 h.1 dX8_isAsSeen_108 ?_
        replace h := h.2
        refine lv_iadd C.1.1 C.1.2.1 dX8_isAsSeen_109 ?_
        refine q_ial C w hm_1 lm_1 h.1 dX8_isAsSeen_110 ?_
        replace h := h.2
        refine lv_bipush (v := 30) C.1.1 C.1.2.1 dX8_isAsSeen_111 (by decide) ?_
        refine lv_iadd C.1.1 C.1.2.1 dX8_isAsSeen_113 ?_
        refine lv_aload_n C.1.1 C.1.2.1 dX8_isAsSeen_114 rfl (lv_at hl 0 rfl) ?_
        refine gr_RX8_25 C w hm_0 lm_0 rfl dX8_isAsSeen_115 ?_
        refine lv_iconst (v := 3) C.1.1 C.1.2.1 dX8_isAsSeen_118 (by decide) ?_
        refine lv_iload C.1.1 C.1.2.1 dX8_isAsSeen_119 (lv_at hl 4 rfl) ?_
        refine lv_imul C.1.1 C.1.2.1 dX8_isAsSeen_121 ?_
        refine lv_iconst (v := 2) C.1.1 C.1.2.1 dX8_isAsSeen_122 (by decide) ?_
        refine lv_iadd C.1.1 C.1.2.1 dX8_isAsSeen_123 ?_
        refine q_ial C w hm_6 lm_6 h.1 dX8_isAsSeen_124 ?_
        replace h := h.2
        refine lv_icmp_ne (tgt := 132) C.1.1 C.1.2.1 dX8_isAsSeen_125 (by decide) (fun hc10 => ?_) (fun hc10 => ?_)
        · replace h := h.2 hc10
          exact v_X8_isAsSeen_132 C hr hk  hK65 h w (lv_sub hl [0, 1, 3, 4] rfl)
        · replace h := h.1 hc10
          exact v_X8_isAsSeen_128 C hr hk  hK65 h w (lv_sub hl [0, 1, 3, 4] rfl)
set_option maxHeartbeats 4000000 in
set_option maxRecDepth 100000 in
theorem l_X8_isAsSeen_65 {x1 : Int32} {x3 : Int32} {M : Mem} {K12 : Int32 → Int32 → Mem → Prop} {Q : Int32 → Mem → Prop} (C : Cx p s m args c cX8_isAsSeen 5 RX8 g) (hr : meth.sig.returnType = (some .boolean)) (hk : meth.locks = false) (hK12 : ∀ (x2 : Int32) (x3 : Int32) (M : Mem) (H : Heap) (locs : List Loc) (ls : Array Slot), K12 x2 x3 M → Wd g layM 12 s.heap M H locs → lv_has ls 5 [(0, .ref (ga g 0)), (1, .int x1), (2, .int x2), (3, .int x3)] → W p l e (rmOf 4 97) s m args below meth c H locs 0 0 (MQ below (va_Qi Q (PostW g layM 12) (gF g)) args s 0 0 (gF g)) (F0 m 12 ls [])) : ∀ (n : Nat) (x2 : Int32) (x4 : Int32) (H : Heap) (locs : List Loc) (ls : Array Slot), fu2 (w_X8_isAsSeen_65 x1 x3 M K12 Q) n x2 x4 → Wd g layM 12 s.heap M H locs → lv_has ls 5 [(0, .ref (ga g 0)), (1, .int x1), (2, .int x2), (3, .int x3), (4, .int x4)] → W p l e (rmOf 4 97) s m args below meth c H locs 0 0 (MQ below (va_Qi Q (PostW g layM 12) (gF g)) args s 0 0 (gF g)) (F0 m 65 ls []) := by
  intro n
  induction n with
  | zero => intro x2 x4 H locs ls h; exact h.elim
  | succ n ih => intro x2 x4 H locs ls h w hl; exact v_X8_isAsSeen_65 C hr hk  hK12 ih h w hl
set_option maxHeartbeats 4000000 in
set_option maxRecDepth 100000 in
theorem v_X8_isAsSeen_62 {x1 : Int32} {x2 : Int32} {x3 : Int32} {M : Mem} {K12 : Int32 → Int32 → Mem → Prop} {Q : Int32 → Mem → Prop} {H : Heap} {locs : List Loc} {ls : Array Slot} (C : Cx p s m args c cX8_isAsSeen 5 RX8 g) (hr : meth.sig.returnType = (some .boolean)) (hk : meth.locks = false) (hK12 : ∀ (x2 : Int32) (x3 : Int32) (M : Mem) (H : Heap) (locs : List Loc) (ls : Array Slot), K12 x2 x3 M → Wd g layM 12 s.heap M H locs → lv_has ls 5 [(0, .ref (ga g 0)), (1, .int x1), (2, .int x2), (3, .int x3)] → W p l e (rmOf 4 97) s m args below meth c H locs 0 0 (MQ below (va_Qi Q (PostW g layM 12) (gF g)) args s 0 0 (gF g)) (F0 m 12 ls [])) (h : w_X8_isAsSeen_62 x1 x2 x3 M K12 Q) (w : Wd g layM 12 s.heap M H locs) (hl : lv_has ls 5 [(0, .ref (ga g 0)), (1, .int x1), (2, .int x2), (3, .int x3)]) : W p l e (rmOf 4 97) s m args below meth c H locs 0 0 (MQ below (va_Qi Q (PostW g layM 12) (gF g)) args s 0 0 (gF g)) (F0 m 62 ls []) := by
  unfold w_X8_isAsSeen_62 at h
  refine lv_iconst (v := 0) C.1.1 C.1.2.1 dX8_isAsSeen_62 (by decide) ?_
  refine lv_istore (lv' := [(4, .int 0), (0, .ref (ga g 0)), (1, .int x1), (2, .int x2), (3, .int x3)]) C.1.1 C.1.2.1 dX8_isAsSeen_63 hl (by decide) rfl (fun ls hl => ?_)
  obtain ⟨n, h⟩ := h
  exact l_X8_isAsSeen_65 C hr hk  hK12 n _ _ _ _ _ h w (lv_sub hl [1, 2, 3, 4, 0] rfl)
set_option maxHeartbeats 4000000 in
set_option maxRecDepth 100000 in
theorem v_X8_isAsSeen_21 {x1 : Int32} {x2 : Int32} {x3 : Int32} {x4 : Int32} {M : Mem} {K12 : Int32 → Int32 → Mem → Prop} {K21 : Int32 → Mem → Prop} {Q : Int32 → Mem → Prop} {H : Heap} {locs : List Loc} {ls : Array Slot} (C : Cx p s m args c cX8_isAsSeen 5 RX8 g) (hr : meth.sig.returnType = (some .boolean)) (hk : meth.locks = false) (hK12 : ∀ (x2 : Int32) (x3 : Int32) (M : Mem) (H : Heap) (locs : List Loc) (ls : Array Slot), K12 x2 x3 M → Wd g layM 12 s.heap M H locs → lv_has ls 5 [(0, .ref (ga g 0)), (1, .int x1), (2, .int x2), (3, .int x3)] → W p l e (rmOf 4 97) s m args below meth c H locs 0 0 (MQ below (va_Qi Q (PostW g layM 12) (gF g)) args s 0 0 (gF g)) (F0 m 12 ls [])) (hK21 : ∀ (x4 : Int32) (M : Mem) (H : Heap) (locs : List Loc) (ls : Array Slot), K21 x4 M → Wd g layM 12 s.heap M H locs → lv_has ls 5 [(0, .ref (ga g 0)), (1, .int x1), (2, .int x2), (3, .int x3), (4, .int x4)] → W p l e (rmOf 4 97) s m args below meth c H locs 0 0 (MQ below (va_Qi Q (PostW g layM 12) (gF g)) args s 0 0 (gF g)) (F0 m 21 ls [])) (h : w_X8_isAsSeen_21 x1 x2 x3 K12 Q K21 x4 M) (w : Wd g layM 12 s.heap M H locs) (hl : lv_has ls 5 [(0, .ref (ga g 0)), (1, .int x1), (2, .int x2), (3, .int x3), (4, .int x4)]) : W p l e (rmOf 4 97) s m args below meth c H locs 0 0 (MQ below (va_Qi Q (PostW g layM 12) (gF g)) args s 0 0 (gF g)) (F0 m 21 ls []) := by
  unfold w_X8_isAsSeen_21 at h
  refine lv_iload C.1.1 C.1.2.1 dX8_isAsSeen_21 (lv_at hl 4 rfl) ?_
  refine lv_bipush (v := 6) C.1.1 C.1.2.1 dX8_isAsSeen_23 (by decide) ?_
  refine lv_icmp_ge (tgt := 62) C.1.1 C.1.2.1 dX8_isAsSeen_25 (by decide) (fun hc4 => ?_) (fun hc4 => ?_)
  · replace h := h.1 hc4
    exact v_X8_isAsSeen_62 C hr hk  hK12 h w (lv_sub hl [0, 1, 2, 3] rfl)
  · replace h := h.2 hc4
    refine lv_aload_n C.1.1 C.1.2.1 dX8_isAsSeen_28 rfl (lv_at hl 0 rfl) ?_
    refine gr_RX8_28 C w hm_0 lm_0 rfl dX8_isAsSeen_29 ?_
    refine lv_bipush (v := 126) C.1.1 C.1.2.1 dX8_isAsSeen_32 (by decide) ?_
    refine lv_iload_n C.1.1 C.1.2.1 dX8_isAsSeen_34 rfl (lv_at hl 1 rfl) ?_
    refine lv_imul C.1.1 C.1.2.1 dX8_isAsSeen_35 ?_
    refine lv_bipush (v := 6) C.1.1 C.1.2.1 dX8_isAsSeen_36 (by decide) ?_
    refine lv_iload_n C.1.1 C.1.2.1 dX8_isAsSeen_38 rfl (lv_at hl 3 rfl) ?_
    refine lv_imul C.1.1 C.1.2.1 dX8_isAsSeen_39 ?_
    refine lv_iadd C.1.1 C.1.2.1 dX8_isAsSeen_40 ?_
    refine lv_iload C.1.1 C.1.2.1 dX8_isAsSeen_41 (lv_at hl 4 rfl) ?_
    refine lv_iadd C.1.1 C.1.2.1 dX8_isAsSeen_43 ?_
    refine lv_aload_n C.1.1 C.1.2.1 dX8_isAsSeen_44 rfl (lv_at hl 0 rfl) ?_
    refine gr_RX8_7 C w hm_0 lm_0 rfl dX8_isAsSeen_45 ?_
    refine lv_sipush (v := 176) C.1.1 C.1.2.1 dX8_isAsSeen_48 (by decide) ?_
    refine lv_iload C.1.1 C.1.2.1 dX8_isAsSeen_51 (lv_at hl 4 rfl) ?_
    refine lv_iadd C.1.1 C.1.2.1 dX8_isAsSeen_53 ?_
    refine q_ial C w hm_1 lm_1 h.1 dX8_isAsSeen_54 ?_
    replace h := h.2
    refine q_ias C w hm_7 lm_7 h.1 dX8_isAsSeen_55 (fun M11 H locs eM11 w => ?_)
    replace h := h.2 M11 eM11
    refine lv_iinc (v := x4 + 1) (lv' := [(4, .int (x4 + 1)), (0, .ref (ga g 0)), (1, .int x1), (2, .int x2), (3, .int x3)]) C.1.1 C.1.2.1 dX8_isAsSeen_56 hl (k := 4) rfl rfl (by decide) rfl (fun ls hl => ?_)
    refine lv_goto (tgt := 21) C.1.1 C.1.2.1 dX8_isAsSeen_59 (by decide) ?_
    exact hK21 _ _ _ _ _ h w (lv_sub hl [1, 2, 3, 4, 0] rfl)
set_option maxHeartbeats 4000000 in
set_option maxRecDepth 100000 in
theorem l_X8_isAsSeen_21 {x1 : Int32} {x2 : Int32} {x3 : Int32} {K12 : Int32 → Int32 → Mem → Prop} {Q : Int32 → Mem → Prop} (C : Cx p s m args c cX8_isAsSeen 5 RX8 g) (hr : meth.sig.returnType = (some .boolean)) (hk : meth.locks = false) (hK12 : ∀ (x2 : Int32) (x3 : Int32) (M : Mem) (H : Heap) (locs : List Loc) (ls : Array Slot), K12 x2 x3 M → Wd g layM 12 s.heap M H locs → lv_has ls 5 [(0, .ref (ga g 0)), (1, .int x1), (2, .int x2), (3, .int x3)] → W p l e (rmOf 4 97) s m args below meth c H locs 0 0 (MQ below (va_Qi Q (PostW g layM 12) (gF g)) args s 0 0 (gF g)) (F0 m 12 ls [])) : ∀ (n : Nat) (x4 : Int32) (M : Mem) (H : Heap) (locs : List Loc) (ls : Array Slot), fu2 (w_X8_isAsSeen_21 x1 x2 x3 K12 Q) n x4 M → Wd g layM 12 s.heap M H locs → lv_has ls 5 [(0, .ref (ga g 0)), (1, .int x1), (2, .int x2), (3, .int x3), (4, .int x4)] → W p l e (rmOf 4 97) s m args below meth c H locs 0 0 (MQ below (va_Qi Q (PostW g layM 12) (gF g)) args s 0 0 (gF g)) (F0 m 21 ls []) := by
  intro n
  induction n with
  | zero => intro x4 M H locs ls h; exact h.elim
  | succ n ih => intro x4 M H locs ls h w hl; exact v_X8_isAsSeen_21 C hr hk  hK12 ih h w hl
set_option maxHeartbeats 4000000 in
set_option maxRecDepth 100000 in
theorem v_X8_isAsSeen_12 {x1 : Int32} {x2 : Int32} {x3 : Int32} {M : Mem} {K12 : Int32 → Int32 → Mem → Prop} {Q : Int32 → Mem → Prop} {H : Heap} {locs : List Loc} {ls : Array Slot} (C : Cx p s m args c cX8_isAsSeen 5 RX8 g) (hr : meth.sig.returnType = (some .boolean)) (hk : meth.locks = false) (hK12 : ∀ (x2 : Int32) (x3 : Int32) (M : Mem) (H : Heap) (locs : List Loc) (ls : Array Slot), K12 x2 x3 M → Wd g layM 12 s.heap M H locs → lv_has ls 5 [(0, .ref (ga g 0)), (1, .int x1), (2, .int x2), (3, .int x3)] → W p l e (rmOf 4 97) s m args below meth c H locs 0 0 (MQ below (va_Qi Q (PostW g layM 12) (gF g)) args s 0 0 (gF g)) (F0 m 12 ls [])) (h : w_X8_isAsSeen_12 x1 Q K12 x2 x3 M) (w : Wd g layM 12 s.heap M H locs) (hl : lv_has ls 5 [(0, .ref (ga g 0)), (1, .int x1), (2, .int x2), (3, .int x3)]) : W p l e (rmOf 4 97) s m args below meth c H locs 0 0 (MQ below (va_Qi Q (PostW g layM 12) (gF g)) args s 0 0 (gF g)) (F0 m 12 ls []) := by
  unfold w_X8_isAsSeen_12 at h
  refine lv_iload_n C.1.1 C.1.2.1 dX8_isAsSeen_12 rfl (lv_at hl 3 rfl) ?_
  refine lv_bipush (v := 20) C.1.1 C.1.2.1 dX8_isAsSeen_13 (by decide) ?_
  refine lv_icmp_gt (tgt := 154) C.1.1 C.1.2.1 dX8_isAsSeen_15 (by decide) (fun hc3 => ?_) (fun hc3 => ?_)
  · replace h := h.1 hc3
    refine lv_iload_n C.1.1 C.1.2.1 dX8_isAsSeen_154 rfl (lv_at hl 2 rfl) ?_
    exact q_iret C hr hk w h.1 h.2 dX8_isAsSeen_155
  · replace h := h.2 hc3
    refine lv_iconst (v := 0) C.1.1 C.1.2.1 dX8_isAsSeen_18 (by decide) ?_
    refine lv_istore (lv' := [(4, .int 0), (0, .ref (ga g 0)), (1, .int x1), (2, .int x2), (3, .int x3)]) C.1.1 C.1.2.1 dX8_isAsSeen_19 hl (by decide) rfl (fun ls hl => ?_)
    obtain ⟨n, h⟩ := h
    exact l_X8_isAsSeen_21 C hr hk  hK12 n _ _ _ _ _ h w (lv_sub hl [1, 2, 3, 4, 0] rfl)
set_option maxHeartbeats 4000000 in
set_option maxRecDepth 100000 in
theorem l_X8_isAsSeen_12 {x1 : Int32} {Q : Int32 → Mem → Prop} (C : Cx p s m args c cX8_isAsSeen 5 RX8 g) (hr : meth.sig.returnType = (some .boolean)) (hk : meth.locks = false)  : ∀ (n : Nat) (x2 : Int32) (x3 : Int32) (M : Mem) (H : Heap) (locs : List Loc) (ls : Array Slot), fu3 (w_X8_isAsSeen_12 x1 Q) n x2 x3 M → Wd g layM 12 s.heap M H locs → lv_has ls 5 [(0, .ref (ga g 0)), (1, .int x1), (2, .int x2), (3, .int x3)] → W p l e (rmOf 4 97) s m args below meth c H locs 0 0 (MQ below (va_Qi Q (PostW g layM 12) (gF g)) args s 0 0 (gF g)) (F0 m 12 ls []) := by
  intro n
  induction n with
  | zero => intro x2 x3 M H locs ls h; exact h.elim
  | succ n ih => intro x2 x3 M H locs ls h w hl; exact v_X8_isAsSeen_12 C hr hk   ih h w hl
set_option maxHeartbeats 4000000 in
set_option maxRecDepth 100000 in
theorem c_X8_isAsSeen {l : Launch} {g : Gt} {x1 : Int32} {M : Mem} {Q : Int32 → Mem → Prop} (h : w_X8_isAsSeen x1 M Q) : MI l yX8_isAsSeen cX8_isAsSeen 5 (some .boolean) 4 97 g layM 12 [.ref (ga g 0), .int x1] M Q :=
  m_of (by decide +kernel) (Nat.le_of_ble_eq_true rfl) (fun p e s m args below meth c ls C hr hk w hl => by
    have C : Cx p s m args c cX8_isAsSeen 5 RX8 g := C
    have hl : lv_has ls 5 [(0, .ref (ga g 0)), (1, .int x1)] := hl
    unfold w_X8_isAsSeen at h
    obtain ⟨H, eH⟩ : ∃ H : Heap, H = s.heap := ⟨_, rfl⟩
    obtain ⟨locs, el⟩ : ∃ locs : List Loc, locs = [] := ⟨_, rfl⟩
    have w : Wd g layM 12 s.heap M H locs := by rw [eH, el]; exact w
    suffices hw : W p l e (rmOf 4 97) s m args below meth c H locs 0 0 (MQ below (va_Qi Q (PostW g layM 12) (gF g)) args s 0 0 (gF g)) (F0 m 0 ls []) by rw [eH, el] at hw; exact hw
    clear eH el
    refine lv_aload_n C.1.1 C.1.2.1 dX8_isAsSeen_0 rfl (lv_at hl 0 rfl) ?_
    refine lv_iconst (v := 0) C.1.1 C.1.2.1 dX8_isAsSeen_1 (by decide) ?_
    refine lv_sipush (v := 176) C.1.1 C.1.2.1 dX8_isAsSeen_2 (by decide) ?_
    refine q_cVv C w [.int 0, .int 176] (c_X8_copies  h) kv_X8_copies k_127 (rcv C w kc_X8 hm_0 lm_0) rfl hl.1 (Nat.le_of_ble_eq_true rfl) ⟨Nat.le_of_ble_eq_true rfl, Nat.le_of_ble_eq_true rfl⟩ dX8_isAsSeen_5 (fun M2 H locs h w => ?_)
    refine lv_iconst (v := 1) C.1.1 C.1.2.1 dX8_isAsSeen_8 (by decide) ?_
    refine lv_istore_n (lv' := [(2, .int 1), (0, .ref (ga g 0)), (1, .int x1)]) C.1.1 C.1.2.1 dX8_isAsSeen_9 rfl hl (by decide) rfl (fun ls hl => ?_)
    refine lv_iconst (v := 0) C.1.1 C.1.2.1 dX8_isAsSeen_10 (by decide) ?_
    refine lv_istore_n (lv' := [(3, .int 0), (2, .int 1), (0, .ref (ga g 0)), (1, .int x1)]) C.1.1 C.1.2.1 dX8_isAsSeen_11 rfl hl (by decide) rfl (fun ls hl => ?_)
    obtain ⟨n, h⟩ := h
    exact l_X8_isAsSeen_12 C hr hk   n _ _ _ _ _ _ h w (lv_sub hl [2, 3, 1, 0] rfl))
-- kinds
set_option maxHeartbeats 4000000 in
set_option maxRecDepth 100000 in
theorem v_X8_kinds_67 {x1 : Int32} {x2 : Int32} {x3 : Int32} {M : Mem} {Q : Int32 → Mem → Prop} {H : Heap} {locs : List Loc} {ls : Array Slot} (C : Cx p s m args c cX8_kinds 5 RX8 g) (hr : meth.sig.returnType = (some .int)) (hk : meth.locks = false)  (h : w_X8_kinds_67 x1 x2 x3 M Q) (w : Wd g layM 12 s.heap M H locs) (hl : lv_has ls 5 [(0, .ref (ga g 0)), (1, .int x1), (2, .int x2), (3, .int x3)]) : W p l e (rmOf 5 121) s m args below meth c H locs 0 0 (MQ below (va_Qi Q (PostW g layM 12) (gF g)) args s 0 0 (gF g)) (F0 m 67 ls []) := by
  unfold w_X8_kinds_67 at h
  refine lv_aload_n C.1.1 C.1.2.1 dX8_kinds_67 rfl (lv_at hl 0 rfl) ?_
  refine gr_RX8_7 C w hm_0 lm_0 rfl dX8_kinds_68 ?_
  refine lv_bipush (v := 12) C.1.1 C.1.2.1 dX8_kinds_71 (by decide) ?_
  refine lv_iload_n C.1.1 C.1.2.1 dX8_kinds_73 rfl (lv_at hl 1 rfl) ?_
  refine lv_iadd C.1.1 C.1.2.1 dX8_kinds_74 ?_
  refine lv_iload_n C.1.1 C.1.2.1 dX8_kinds_75 rfl (lv_at hl 2 rfl) ?_
  refine q_ias C w hm_1 lm_1 h.1 dX8_kinds_76 (fun M4 H locs eM4 w => ?_)
  replace h := h.2 M4 eM4
  refine lv_iload_n C.1.1 C.1.2.1 dX8_kinds_77 rfl (lv_at hl 3 rfl) ?_
  exact q_iret C hr hk w rfl h dX8_kinds_78
set_option maxHeartbeats 4000000 in
set_option maxRecDepth 100000 in
theorem v_X8_kinds_25 {x1 : Int32} {x2 : Int32} {x3 : Int32} {x4 : Int32} {M : Mem} {K25 : Int32 → Int32 → Mem → Prop} {Q : Int32 → Mem → Prop} {H : Heap} {locs : List Loc} {ls : Array Slot} (C : Cx p s m args c cX8_kinds 5 RX8 g) (hr : meth.sig.returnType = (some .int)) (hk : meth.locks = false) (hK25 : ∀ (x3 : Int32) (x4 : Int32) (M : Mem) (H : Heap) (locs : List Loc) (ls : Array Slot), K25 x3 x4 M → Wd g layM 12 s.heap M H locs → lv_has ls 5 [(0, .ref (ga g 0)), (1, .int x1), (2, .int x2), (3, .int x3), (4, .int x4)] → W p l e (rmOf 5 121) s m args below meth c H locs 0 0 (MQ below (va_Qi Q (PostW g layM 12) (gF g)) args s 0 0 (gF g)) (F0 m 25 ls [])) (h : w_X8_kinds_25 x1 x2 Q K25 x3 x4 M) (w : Wd g layM 12 s.heap M H locs) (hl : lv_has ls 5 [(0, .ref (ga g 0)), (1, .int x1), (2, .int x2), (3, .int x3), (4, .int x4)]) : W p l e (rmOf 5 121) s m args below meth c H locs 0 0 (MQ below (va_Qi Q (PostW g layM 12) (gF g)) args s 0 0 (gF g)) (F0 m 25 ls []) := by
  unfold w_X8_kinds_25 at h
  refine lv_iload C.1.1 C.1.2.1 dX8_kinds_25 (lv_at hl 4 rfl) ?_
  refine lv_iconst (v := 4) C.1.1 C.1.2.1 dX8_kinds_27 (by decide) ?_
  refine lv_icmp_ge (tgt := 67) C.1.1 C.1.2.1 dX8_kinds_28 (by decide) (fun hc3 => ?_) (fun hc3 => ?_)
  · replace h := h.1 hc3
    exact v_X8_kinds_67 C hr hk   h w (lv_sub hl [0, 1, 2, 3] rfl)
  · replace h := h.2 hc3
    refine lv_aload_n C.1.1 C.1.2.1 dX8_kinds_31 rfl (lv_at hl 0 rfl) ?_
    refine gr_RX8_7 C w hm_0 lm_0 rfl dX8_kinds_32 ?_
    refine lv_bipush (v := 12) C.1.1 C.1.2.1 dX8_kinds_35 (by decide) ?_
    refine lv_iload_n C.1.1 C.1.2.1 dX8_kinds_37 rfl (lv_at hl 1 rfl) ?_
    refine lv_iadd C.1.1 C.1.2.1 dX8_kinds_38 ?_
    refine lv_iload C.1.1 C.1.2.1 dX8_kinds_39 (lv_at hl 4 rfl) ?_
    refine q_ias C w hm_1 lm_1 h.1 dX8_kinds_41 (fun M5 H locs eM5 w => ?_)
    replace h := h.2 M5 eM5
    refine lv_iload_n C.1.1 C.1.2.1 dX8_kinds_42 rfl (lv_at hl 3 rfl) ?_
    refine lv_aload_n C.1.1 C.1.2.1 dX8_kinds_43 rfl (lv_at hl 0 rfl) ?_
    refine lv_iconst (v := 0) C.1.1 C.1.2.1 dX8_kinds_44 (by decide) ?_
    refine q_cVi C w [.int 0] (c_X8_isAsSeen  h) kv_X8_isAsSeen k_137 (rcv C w kc_X8 hm_0 lm_0) rfl hl.1 (Nat.le_of_ble_eq_true rfl) ⟨Nat.le_of_ble_eq_true rfl, Nat.le_of_ble_eq_true rfl⟩ dX8_kinds_45 (fun r6 M7 H locs h w => ?_)
    have J : ∀ ls : Array Slot, lv_has ls 5 [(0, .ref (ga g 0)), (1, .int x1), (2, .int x2), (4, .int x4)] → W p l e (rmOf 5 121) s m args below meth c H locs 0 0 (MQ below (va_Qi Q (PostW g layM 12) (gF g)) args s 0 0 (gF g)) (F0 m 59 ls [.int (if r6 = 0 then (0 : Int32) else (sl 1 x4)), .int x3]) := by
      intro ls hl
      refine lv_ior C.1.1 C.1.2.1 dX8_kinds_59 ?_
      refine lv_istore_n (lv' := [(3, .int (x3 ||| (if r6 = 0 then (0 : Int32) else (sl 1 x4)))), (0, .ref (ga g 0)), (1, .int x1), (2, .int x2), (4, .int x4)]) C.1.1 C.1.2.1 dX8_kinds_60 rfl hl (by decide) rfl (fun ls hl => ?_)
      refine lv_iinc (v := x4 + 1) (lv' := [(4, .int (x4 + 1)), (3, .int (x3 ||| (if r6 = 0 then (0 : Int32) else (sl 1 x4)))), (0, .ref (ga g 0)), (1, .int x1), (2, .int x2)]) C.1.1 C.1.2.1 dX8_kinds_61 hl (k := 4) rfl rfl (by decide) rfl (fun ls hl => ?_)
      refine lv_goto (tgt := 25) C.1.1 C.1.2.1 dX8_kinds_64 (by decide) ?_
      exact hK25 _ _ _ _ _ _ h w (lv_sub hl [2, 3, 4, 1, 0] rfl)
    refine lv_if_eq (tgt := 58) C.1.1 C.1.2.1 dX8_kinds_48 (by decide) (fun hc8 => ?_) (fun hc8 => ?_)
    · refine lv_iconst (v := 0) C.1.1 C.1.2.1 dX8_kinds_58 (by decide) ?_
      simp only [if_pos hc8] at J hl
      exact J ls (lv_sub hl [0, 1, 2, 4] rfl)
    · refine lv_iconst (v := 1) C.1.1 C.1.2.1 dX8_kinds_51 (by decide) ?_
      refine lv_iload C.1.1 C.1.2.1 dX8_kinds_52 (lv_at hl 4 rfl) ?_
      refine q_ishl C dX8_kinds_54 ?_
      refine lv_goto (tgt := 59) C.1.1 C.1.2.1 dX8_kinds_55 (by decide) ?_
      simp only [if_neg hc8] at J hl
      exact J ls (lv_sub hl [0, 1, 2, 4] rfl)
set_option maxHeartbeats 4000000 in
set_option maxRecDepth 100000 in
theorem l_X8_kinds_25 {x1 : Int32} {x2 : Int32} {Q : Int32 → Mem → Prop} (C : Cx p s m args c cX8_kinds 5 RX8 g) (hr : meth.sig.returnType = (some .int)) (hk : meth.locks = false)  : ∀ (n : Nat) (x3 : Int32) (x4 : Int32) (M : Mem) (H : Heap) (locs : List Loc) (ls : Array Slot), fu3 (w_X8_kinds_25 x1 x2 Q) n x3 x4 M → Wd g layM 12 s.heap M H locs → lv_has ls 5 [(0, .ref (ga g 0)), (1, .int x1), (2, .int x2), (3, .int x3), (4, .int x4)] → W p l e (rmOf 5 121) s m args below meth c H locs 0 0 (MQ below (va_Qi Q (PostW g layM 12) (gF g)) args s 0 0 (gF g)) (F0 m 25 ls []) := by
  intro n
  induction n with
  | zero => intro x3 x4 M H locs ls h; exact h.elim
  | succ n ih => intro x3 x4 M H locs ls h w hl; exact v_X8_kinds_25 C hr hk   ih h w hl
set_option maxHeartbeats 4000000 in
set_option maxRecDepth 100000 in
theorem c_X8_kinds {l : Launch} {g : Gt} {x1 : Int32} {M : Mem} {Q : Int32 → Mem → Prop} (h : w_X8_kinds x1 M Q) : MI l yX8_kinds cX8_kinds 5 (some .int) 5 121 g layM 12 [.ref (ga g 0), .int x1] M Q :=
  m_of (by decide +kernel) (Nat.le_of_ble_eq_true rfl) (fun p e s m args below meth c ls C hr hk w hl => by
    have C : Cx p s m args c cX8_kinds 5 RX8 g := C
    have hl : lv_has ls 5 [(0, .ref (ga g 0)), (1, .int x1)] := hl
    unfold w_X8_kinds at h
    obtain ⟨H, eH⟩ : ∃ H : Heap, H = s.heap := ⟨_, rfl⟩
    obtain ⟨locs, el⟩ : ∃ locs : List Loc, locs = [] := ⟨_, rfl⟩
    have w : Wd g layM 12 s.heap M H locs := by rw [eH, el]; exact w
    suffices hw : W p l e (rmOf 5 121) s m args below meth c H locs 0 0 (MQ below (va_Qi Q (PostW g layM 12) (gF g)) args s 0 0 (gF g)) (F0 m 0 ls []) by rw [eH, el] at hw; exact hw
    clear eH el
    refine lv_aload_n C.1.1 C.1.2.1 dX8_kinds_0 rfl (lv_at hl 0 rfl) ?_
    refine lv_iload_n C.1.1 C.1.2.1 dX8_kinds_1 rfl (lv_at hl 1 rfl) ?_
    refine q_pVi C w [.int x1] (c_X8_isTaker  h) kv_X8_isTaker k_116 (rcv C w kc_X8 hm_0 lm_0) rfl hl.1 (Nat.le_of_ble_eq_true rfl) ⟨Nat.le_of_ble_eq_true rfl, Nat.le_of_ble_eq_true rfl⟩ dX8_kinds_2 (fun r1 H locs h w => ?_)
    refine lv_if_ne (tgt := 10) C.1.1 C.1.2.1 dX8_kinds_5 (by decide) (fun hc2 => ?_) (fun hc2 => ?_)
    · replace h := h.2 hc2
      refine lv_aload_n C.1.1 C.1.2.1 dX8_kinds_10 rfl (lv_at hl 0 rfl) ?_
      refine gr_RX8_7 C w hm_0 lm_0 rfl dX8_kinds_11 ?_
      refine lv_bipush (v := 12) C.1.1 C.1.2.1 dX8_kinds_14 (by decide) ?_
      refine lv_iload_n C.1.1 C.1.2.1 dX8_kinds_16 rfl (lv_at hl 1 rfl) ?_
      refine lv_iadd C.1.1 C.1.2.1 dX8_kinds_17 ?_
      refine q_ial C w hm_1 lm_1 h.1 dX8_kinds_18 ?_
      replace h := h.2
      refine lv_istore_n (lv' := [(2, .int (M 1 (12 + x1).toNatClampNeg)), (0, .ref (ga g 0)), (1, .int x1)]) C.1.1 C.1.2.1 dX8_kinds_19 rfl hl (by decide) rfl (fun ls hl => ?_)
      refine lv_iconst (v := 0) C.1.1 C.1.2.1 dX8_kinds_20 (by decide) ?_
      refine lv_istore_n (lv' := [(3, .int 0), (2, .int (M 1 (12 + x1).toNatClampNeg)), (0, .ref (ga g 0)), (1, .int x1)]) C.1.1 C.1.2.1 dX8_kinds_21 rfl hl (by decide) rfl (fun ls hl => ?_)
      refine lv_iconst (v := 0) C.1.1 C.1.2.1 dX8_kinds_22 (by decide) ?_
      refine lv_istore (lv' := [(4, .int 0), (3, .int 0), (2, .int (M 1 (12 + x1).toNatClampNeg)), (0, .ref (ga g 0)), (1, .int x1)]) C.1.1 C.1.2.1 dX8_kinds_23 hl (by decide) rfl (fun ls hl => ?_)
      obtain ⟨n, h⟩ := h
      exact l_X8_kinds_25 C hr hk   n _ _ _ _ _ _ h w (lv_sub hl [3, 4, 2, 1, 0] rfl)
    · replace h := h.1 hc2
      refine lv_iconst (v := (-1)) C.1.1 C.1.2.1 dX8_kinds_8 (by decide) ?_
      exact q_iret C hr hk w rfl h dX8_kinds_9)
-- gatesOf
set_option maxHeartbeats 4000000 in
set_option maxRecDepth 100000 in
theorem v_X8_gatesOf_59 {x1 : Int32} {x2 : Int32} {x3 : Int32} {M : Mem} {Q : Int32 → Mem → Prop} {H : Heap} {locs : List Loc} {ls : Array Slot} (C : Cx p s m args c cX8_gatesOf 5 RX8 g) (hr : meth.sig.returnType = (some .int)) (hk : meth.locks = false)  (h : w_X8_gatesOf_59 x1 x2 x3 M Q) (w : Wd g layM 12 s.heap M H locs) (hl : lv_has ls 5 [(0, .ref (ga g 0)), (1, .int x1), (2, .int x2), (3, .int x3)]) : W p l e (rmOf 5 121) s m args below meth c H locs 0 0 (MQ below (va_Qi Q (PostW g layM 12) (gF g)) args s 0 0 (gF g)) (F0 m 59 ls []) := by
  unfold w_X8_gatesOf_59 at h
  refine lv_aload_n C.1.1 C.1.2.1 dX8_gatesOf_59 rfl (lv_at hl 0 rfl) ?_
  refine gr_RX8_7 C w hm_0 lm_0 rfl dX8_gatesOf_60 ?_
  refine lv_bipush (v := 17) C.1.1 C.1.2.1 dX8_gatesOf_63 (by decide) ?_
  refine lv_iload_n C.1.1 C.1.2.1 dX8_gatesOf_65 rfl (lv_at hl 1 rfl) ?_
  refine lv_iadd C.1.1 C.1.2.1 dX8_gatesOf_66 ?_
  refine lv_iload_n C.1.1 C.1.2.1 dX8_gatesOf_67 rfl (lv_at hl 2 rfl) ?_
  refine q_ias C w hm_1 lm_1 h.1 dX8_gatesOf_68 (fun M2 H locs eM2 w => ?_)
  replace h := h.2 M2 eM2
  refine lv_iload_n C.1.1 C.1.2.1 dX8_gatesOf_69 rfl (lv_at hl 3 rfl) ?_
  exact q_iret C hr hk w rfl h dX8_gatesOf_70
set_option maxHeartbeats 4000000 in
set_option maxRecDepth 100000 in
theorem v_X8_gatesOf_15 {x1 : Int32} {x2 : Int32} {x3 : Int32} {x4 : Int32} {M : Mem} {K15 : Int32 → Int32 → Mem → Prop} {Q : Int32 → Mem → Prop} {H : Heap} {locs : List Loc} {ls : Array Slot} (C : Cx p s m args c cX8_gatesOf 5 RX8 g) (hr : meth.sig.returnType = (some .int)) (hk : meth.locks = false) (hK15 : ∀ (x3 : Int32) (x4 : Int32) (M : Mem) (H : Heap) (locs : List Loc) (ls : Array Slot), K15 x3 x4 M → Wd g layM 12 s.heap M H locs → lv_has ls 5 [(0, .ref (ga g 0)), (1, .int x1), (2, .int x2), (3, .int x3), (4, .int x4)] → W p l e (rmOf 5 121) s m args below meth c H locs 0 0 (MQ below (va_Qi Q (PostW g layM 12) (gF g)) args s 0 0 (gF g)) (F0 m 15 ls [])) (h : w_X8_gatesOf_15 x1 x2 Q K15 x3 x4 M) (w : Wd g layM 12 s.heap M H locs) (hl : lv_has ls 5 [(0, .ref (ga g 0)), (1, .int x1), (2, .int x2), (3, .int x3), (4, .int x4)]) : W p l e (rmOf 5 121) s m args below meth c H locs 0 0 (MQ below (va_Qi Q (PostW g layM 12) (gF g)) args s 0 0 (gF g)) (F0 m 15 ls []) := by
  unfold w_X8_gatesOf_15 at h
  refine lv_iload C.1.1 C.1.2.1 dX8_gatesOf_15 (lv_at hl 4 rfl) ?_
  refine lv_bipush (v := 6) C.1.1 C.1.2.1 dX8_gatesOf_17 (by decide) ?_
  refine lv_icmp_ge (tgt := 59) C.1.1 C.1.2.1 dX8_gatesOf_19 (by decide) (fun hc1 => ?_) (fun hc1 => ?_)
  · replace h := h.1 hc1
    exact v_X8_gatesOf_59 C hr hk   h w (lv_sub hl [0, 1, 2, 3] rfl)
  · replace h := h.2 hc1
    refine lv_aload_n C.1.1 C.1.2.1 dX8_gatesOf_22 rfl (lv_at hl 0 rfl) ?_
    refine gr_RX8_7 C w hm_0 lm_0 rfl dX8_gatesOf_23 ?_
    refine lv_bipush (v := 17) C.1.1 C.1.2.1 dX8_gatesOf_26 (by decide) ?_
    refine lv_iload_n C.1.1 C.1.2.1 dX8_gatesOf_28 rfl (lv_at hl 1 rfl) ?_
    refine lv_iadd C.1.1 C.1.2.1 dX8_gatesOf_29 ?_
    refine lv_iload C.1.1 C.1.2.1 dX8_gatesOf_30 (lv_at hl 4 rfl) ?_
    refine q_ias C w hm_1 lm_1 h.1 dX8_gatesOf_32 (fun M3 H locs eM3 w => ?_)
    replace h := h.2 M3 eM3
    refine lv_iload_n C.1.1 C.1.2.1 dX8_gatesOf_33 rfl (lv_at hl 3 rfl) ?_
    refine lv_aload_n C.1.1 C.1.2.1 dX8_gatesOf_34 rfl (lv_at hl 0 rfl) ?_
    refine lv_iload C.1.1 C.1.2.1 dX8_gatesOf_35 (lv_at hl 4 rfl) ?_
    refine q_cVi C w [.int x4] (c_X8_isAsSeen  h) kv_X8_isAsSeen k_137 (rcv C w kc_X8 hm_0 lm_0) rfl hl.1 (Nat.le_of_ble_eq_true rfl) ⟨Nat.le_of_ble_eq_true rfl, Nat.le_of_ble_eq_true rfl⟩ dX8_gatesOf_37 (fun r4 M5 H locs h w => ?_)
    have J : ∀ ls : Array Slot, lv_has ls 5 [(0, .ref (ga g 0)), (1, .int x1), (2, .int x2), (4, .int x4)] → W p l e (rmOf 5 121) s m args below meth c H locs 0 0 (MQ below (va_Qi Q (PostW g layM 12) (gF g)) args s 0 0 (gF g)) (F0 m 51 ls [.int (if r4 = 0 then (0 : Int32) else (sl 1 x4)), .int x3]) := by
      intro ls hl
      refine lv_ior C.1.1 C.1.2.1 dX8_gatesOf_51 ?_
      refine lv_istore_n (lv' := [(3, .int (x3 ||| (if r4 = 0 then (0 : Int32) else (sl 1 x4)))), (0, .ref (ga g 0)), (1, .int x1), (2, .int x2), (4, .int x4)]) C.1.1 C.1.2.1 dX8_gatesOf_52 rfl hl (by decide) rfl (fun ls hl => ?_)
      refine lv_iinc (v := x4 + 1) (lv' := [(4, .int (x4 + 1)), (3, .int (x3 ||| (if r4 = 0 then (0 : Int32) else (sl 1 x4)))), (0, .ref (ga g 0)), (1, .int x1), (2, .int x2)]) C.1.1 C.1.2.1 dX8_gatesOf_53 hl (k := 4) rfl rfl (by decide) rfl (fun ls hl => ?_)
      refine lv_goto (tgt := 15) C.1.1 C.1.2.1 dX8_gatesOf_56 (by decide) ?_
      exact hK15 _ _ _ _ _ _ h w (lv_sub hl [2, 3, 4, 1, 0] rfl)
    refine lv_if_eq (tgt := 50) C.1.1 C.1.2.1 dX8_gatesOf_40 (by decide) (fun hc6 => ?_) (fun hc6 => ?_)
    · refine lv_iconst (v := 0) C.1.1 C.1.2.1 dX8_gatesOf_50 (by decide) ?_
      simp only [if_pos hc6] at J hl
      exact J ls (lv_sub hl [0, 1, 2, 4] rfl)
    · refine lv_iconst (v := 1) C.1.1 C.1.2.1 dX8_gatesOf_43 (by decide) ?_
      refine lv_iload C.1.1 C.1.2.1 dX8_gatesOf_44 (lv_at hl 4 rfl) ?_
      refine q_ishl C dX8_gatesOf_46 ?_
      refine lv_goto (tgt := 51) C.1.1 C.1.2.1 dX8_gatesOf_47 (by decide) ?_
      simp only [if_neg hc6] at J hl
      exact J ls (lv_sub hl [0, 1, 2, 4] rfl)
set_option maxHeartbeats 4000000 in
set_option maxRecDepth 100000 in
theorem l_X8_gatesOf_15 {x1 : Int32} {x2 : Int32} {Q : Int32 → Mem → Prop} (C : Cx p s m args c cX8_gatesOf 5 RX8 g) (hr : meth.sig.returnType = (some .int)) (hk : meth.locks = false)  : ∀ (n : Nat) (x3 : Int32) (x4 : Int32) (M : Mem) (H : Heap) (locs : List Loc) (ls : Array Slot), fu3 (w_X8_gatesOf_15 x1 x2 Q) n x3 x4 M → Wd g layM 12 s.heap M H locs → lv_has ls 5 [(0, .ref (ga g 0)), (1, .int x1), (2, .int x2), (3, .int x3), (4, .int x4)] → W p l e (rmOf 5 121) s m args below meth c H locs 0 0 (MQ below (va_Qi Q (PostW g layM 12) (gF g)) args s 0 0 (gF g)) (F0 m 15 ls []) := by
  intro n
  induction n with
  | zero => intro x3 x4 M H locs ls h; exact h.elim
  | succ n ih => intro x3 x4 M H locs ls h w hl; exact v_X8_gatesOf_15 C hr hk   ih h w hl
set_option maxHeartbeats 4000000 in
set_option maxRecDepth 100000 in
theorem c_X8_gatesOf {l : Launch} {g : Gt} {x1 : Int32} {M : Mem} {Q : Int32 → Mem → Prop} (h : w_X8_gatesOf x1 M Q) : MI l yX8_gatesOf cX8_gatesOf 5 (some .int) 5 121 g layM 12 [.ref (ga g 0), .int x1] M Q :=
  m_of (by decide +kernel) (Nat.le_of_ble_eq_true rfl) (fun p e s m args below meth c ls C hr hk w hl => by
    have C : Cx p s m args c cX8_gatesOf 5 RX8 g := C
    have hl : lv_has ls 5 [(0, .ref (ga g 0)), (1, .int x1)] := hl
    unfold w_X8_gatesOf at h
    obtain ⟨H, eH⟩ : ∃ H : Heap, H = s.heap := ⟨_, rfl⟩
    obtain ⟨locs, el⟩ : ∃ locs : List Loc, locs = [] := ⟨_, rfl⟩
    have w : Wd g layM 12 s.heap M H locs := by rw [eH, el]; exact w
    suffices hw : W p l e (rmOf 5 121) s m args below meth c H locs 0 0 (MQ below (va_Qi Q (PostW g layM 12) (gF g)) args s 0 0 (gF g)) (F0 m 0 ls []) by rw [eH, el] at hw; exact hw
    clear eH el
    refine lv_aload_n C.1.1 C.1.2.1 dX8_gatesOf_0 rfl (lv_at hl 0 rfl) ?_
    refine gr_RX8_7 C w hm_0 lm_0 rfl dX8_gatesOf_1 ?_
    refine lv_bipush (v := 17) C.1.1 C.1.2.1 dX8_gatesOf_4 (by decide) ?_
    refine lv_iload_n C.1.1 C.1.2.1 dX8_gatesOf_6 rfl (lv_at hl 1 rfl) ?_
    refine lv_iadd C.1.1 C.1.2.1 dX8_gatesOf_7 ?_
    refine q_ial C w hm_1 lm_1 h.1 dX8_gatesOf_8 ?_
    replace h := h.2
    refine lv_istore_n (lv' := [(2, .int (M 1 (17 + x1).toNatClampNeg)), (0, .ref (ga g 0)), (1, .int x1)]) C.1.1 C.1.2.1 dX8_gatesOf_9 rfl hl (by decide) rfl (fun ls hl => ?_)
    refine lv_iconst (v := 0) C.1.1 C.1.2.1 dX8_gatesOf_10 (by decide) ?_
    refine lv_istore_n (lv' := [(3, .int 0), (2, .int (M 1 (17 + x1).toNatClampNeg)), (0, .ref (ga g 0)), (1, .int x1)]) C.1.1 C.1.2.1 dX8_gatesOf_11 rfl hl (by decide) rfl (fun ls hl => ?_)
    refine lv_iconst (v := 0) C.1.1 C.1.2.1 dX8_gatesOf_12 (by decide) ?_
    refine lv_istore (lv' := [(4, .int 0), (3, .int 0), (2, .int (M 1 (17 + x1).toNatClampNeg)), (0, .ref (ga g 0)), (1, .int x1)]) C.1.1 C.1.2.1 dX8_gatesOf_13 hl (by decide) rfl (fun ls hl => ?_)
    obtain ⟨n, h⟩ := h
    exact l_X8_gatesOf_15 C hr hk   n _ _ _ _ _ _ h w (lv_sub hl [3, 4, 2, 1, 0] rfl))
-- gates
set_option maxHeartbeats 4000000 in
set_option maxRecDepth 100000 in
theorem c_X8_gates {l : Launch} {g : Gt} {x1 : Int32} {M : Mem} {Q : Int32 → Mem → Prop} (h : w_X8_gates x1 M Q) : MI l yX8_gates cX8_gates 2 (some .int) 6 145 g layM 12 [.ref (ga g 0), .int x1] M Q :=
  m_of (by decide +kernel) (Nat.le_of_ble_eq_true rfl) (fun p e s m args below meth c ls C hr hk w hl => by
    have C : Cx p s m args c cX8_gates 2 RX8 g := C
    have hl : lv_has ls 2 [(0, .ref (ga g 0)), (1, .int x1)] := hl
    unfold w_X8_gates at h
    obtain ⟨H, eH⟩ : ∃ H : Heap, H = s.heap := ⟨_, rfl⟩
    obtain ⟨locs, el⟩ : ∃ locs : List Loc, locs = [] := ⟨_, rfl⟩
    have w : Wd g layM 12 s.heap M H locs := by rw [eH, el]; exact w
    suffices hw : W p l e (rmOf 6 145) s m args below meth c H locs 0 0 (MQ below (va_Qi Q (PostW g layM 12) (gF g)) args s 0 0 (gF g)) (F0 m 0 ls []) by rw [eH, el] at hw; exact hw
    clear eH el
    refine lv_aload_n C.1.1 C.1.2.1 dX8_gates_0 rfl (lv_at hl 0 rfl) ?_
    refine lv_iload_n C.1.1 C.1.2.1 dX8_gates_1 rfl (lv_at hl 1 rfl) ?_
    refine q_pVi C w [.int x1] (c_X8_isTaker  h) kv_X8_isTaker k_116 (rcv C w kc_X8 hm_0 lm_0) rfl hl.1 (Nat.le_of_ble_eq_true rfl) ⟨Nat.le_of_ble_eq_true rfl, Nat.le_of_ble_eq_true rfl⟩ dX8_gates_2 (fun r1 H locs h w => ?_)
    refine lv_if_eq (tgt := 16) C.1.1 C.1.2.1 dX8_gates_5 (by decide) (fun hc2 => ?_) (fun hc2 => ?_)
    · replace h := h.1 hc2
      refine lv_iconst (v := (-1)) C.1.1 C.1.2.1 dX8_gates_16 (by decide) ?_
      exact q_iret C hr hk w rfl h dX8_gates_17
    · replace h := h.2 hc2
      refine lv_aload_n C.1.1 C.1.2.1 dX8_gates_8 rfl (lv_at hl 0 rfl) ?_
      refine lv_iload_n C.1.1 C.1.2.1 dX8_gates_9 rfl (lv_at hl 1 rfl) ?_
      refine q_cVi C w [.int x1] (c_X8_gatesOf  h) kv_X8_gatesOf k_138 (rcv C w kc_X8 hm_0 lm_0) rfl hl.1 (Nat.le_of_ble_eq_true rfl) ⟨Nat.le_of_ble_eq_true rfl, Nat.le_of_ble_eq_true rfl⟩ dX8_gates_10 (fun r3 M4 H locs h w => ?_)
      refine lv_goto (tgt := 17) C.1.1 C.1.2.1 dX8_gates_13 (by decide) ?_
      exact q_iret C hr hk w rfl h dX8_gates_17)
-- worstAt
set_option maxHeartbeats 4000000 in
set_option maxRecDepth 100000 in
theorem v_X8_worstAt_88 {x1 : Int32} {x2 : Int32} {x3 : Int32} {x4 : Int32} {x5 : Int32} {M : Mem} {K5 : Int32 → Int32 → Prop} {Q : Int32 → Prop} {H : Heap} {locs : List Loc} {ls : Array Slot} (C : Cx p s m args c cX8_worstAt 7 RX8 g) (hr : meth.sig.returnType = (some .int)) (hk : meth.locks = false) (hK5 : ∀ (x3 : Int32) (x4 : Int32) (H : Heap) (locs : List Loc) (ls : Array Slot), K5 x3 x4 → Wd g layM 12 s.heap M H locs → lv_has ls 7 [(0, .ref (ga g 0)), (1, .int x1), (2, .int x2), (3, .int x3), (4, .int x4)] → W p l e (rmOf 0 0) s m args below meth c H locs 0 0 (MQ below (va_Qi (fun r M9 => M9 = M ∧ Q r) (PostW g layM 12) (gF g)) args s 0 0 (gF g)) (F0 m 5 ls [])) (h : w_X8_worstAt_88 x1 x2 x3 x4 x5 M K5 Q) (w : Wd g layM 12 s.heap M H locs) (hl : lv_has ls 7 [(0, .ref (ga g 0)), (1, .int x1), (2, .int x2), (3, .int x3), (4, .int x4), (5, .int x5)]) : W p l e (rmOf 0 0) s m args below meth c H locs 0 0 (MQ below (va_Qi (fun r M9 => M9 = M ∧ Q r) (PostW g layM 12) (gF g)) args s 0 0 (gF g)) (F0 m 88 ls []) := by
  unfold w_X8_worstAt_88 at h
  refine lv_iload C.1.1 C.1.2.1 dX8_worstAt_88 (lv_at hl 5 rfl) ?_
  refine lv_iload_n C.1.1 C.1.2.1 dX8_worstAt_90 rfl (lv_at hl 3 rfl) ?_
  have J : ∀ ls : Array Slot, lv_has ls 7 [(0, .ref (ga g 0)), (1, .int x1), (2, .int x2), (4, .int x4)] → W p l e (rmOf 0 0) s m args below meth c H locs 0 0 (MQ below (va_Qi (fun r M9 => M9 = M ∧ Q r) (PostW g layM 12) (gF g)) args s 0 0 (gF g)) (F0 m 100 ls [.int (if x5 ≤ x3 then x3 else x5)]) := by
    intro ls hl
    refine lv_istore_n (lv' := [(3, .int (if x5 ≤ x3 then x3 else x5)), (0, .ref (ga g 0)), (1, .int x1), (2, .int x2), (4, .int x4)]) C.1.1 C.1.2.1 dX8_worstAt_100 rfl hl (by decide) rfl (fun ls hl => ?_)
    refine lv_iinc (v := x4 + 1) (lv' := [(4, .int (x4 + 1)), (3, .int (if x5 ≤ x3 then x3 else x5)), (0, .ref (ga g 0)), (1, .int x1), (2, .int x2)]) C.1.1 C.1.2.1 dX8_worstAt_101 hl (k := 4) rfl rfl (by decide) rfl (fun ls hl => ?_)
    refine lv_goto (tgt := 5) C.1.1 C.1.2.1 dX8_worstAt_104 (by decide) ?_
    exact hK5 _ _ _ _ _ h w (lv_sub hl [2, 3, 4, 1, 0] rfl)
  refine lv_icmp_le (tgt := 99) C.1.1 C.1.2.1 dX8_worstAt_91 (by decide) (fun hc3 => ?_) (fun hc3 => ?_)
  · refine lv_iload_n C.1.1 C.1.2.1 dX8_worstAt_99 rfl (lv_at hl 3 rfl) ?_
    simp only [if_pos hc3] at J hl
    exact J ls (lv_sub hl [0, 1, 2, 4] rfl)
  · refine lv_iload C.1.1 C.1.2.1 dX8_worstAt_94 (lv_at hl 5 rfl) ?_
    refine lv_goto (tgt := 100) C.1.1 C.1.2.1 dX8_worstAt_96 (by decide) ?_
    simp only [if_neg hc3] at J hl
    exact J ls (lv_sub hl [0, 1, 2, 4] rfl)
set_option maxHeartbeats 4000000 in
set_option maxRecDepth 100000 in
theorem v_X8_worstAt_79 {x1 : Int32} {x2 : Int32} {x3 : Int32} {x4 : Int32} {x6 : Int32} {t0 : Int32} {t1 : Int32} {M : Mem} {K18 : Int32 → Int32 → Prop} {Q : Int32 → Prop} {H : Heap} {locs : List Loc} {ls : Array Slot} (C : Cx p s m args c cX8_worstAt 7 RX8 g) (hr : meth.sig.returnType = (some .int)) (hk : meth.locks = false) (hK18 : ∀ (x5 : Int32) (x6 : Int32) (H : Heap) (locs : List Loc) (ls : Array Slot), K18 x5 x6 → Wd g layM 12 s.heap M H locs → lv_has ls 7 [(0, .ref (ga g 0)), (1, .int x1), (2, .int x2), (3, .int x3), (4, .int x4), (5, .int x5), (6, .int x6)] → W p l e (rmOf 0 0) s m args below meth c H locs 0 0 (MQ below (va_Qi (fun r M9 => M9 = M ∧ Q r) (PostW g layM 12) (gF g)) args s 0 0 (gF g)) (F0 m 18 ls [])) (h : w_X8_worstAt_79 x1 x2 x3 x4 x6 t0 t1 M K18 Q) (w : Wd g layM 12 s.heap M H locs) (hl : lv_has ls 7 [(0, .ref (ga g 0)), (1, .int x1), (2, .int x2), (3, .int x3), (4, .int x4), (6, .int x6)]) : W p l e (rmOf 0 0) s m args below meth c H locs 0 0 (MQ below (va_Qi (fun r M9 => M9 = M ∧ Q r) (PostW g layM 12) (gF g)) args s 0 0 (gF g)) (F0 m 79 ls [.int t0, .int t1]) := by
  unfold w_X8_worstAt_79 at h
  refine lv_iadd C.1.1 C.1.2.1 dX8_worstAt_79 ?_
  refine lv_istore (lv' := [(5, .int (t1 + t0)), (0, .ref (ga g 0)), (1, .int x1), (2, .int x2), (3, .int x3), (4, .int x4), (6, .int x6)]) C.1.1 C.1.2.1 dX8_worstAt_80 hl (by decide) rfl (fun ls hl => ?_)
  refine lv_iinc (v := x6 + 1) (lv' := [(6, .int (x6 + 1)), (5, .int (t1 + t0)), (0, .ref (ga g 0)), (1, .int x1), (2, .int x2), (3, .int x3), (4, .int x4)]) C.1.1 C.1.2.1 dX8_worstAt_82 hl (k := 6) rfl rfl (by decide) rfl (fun ls hl => ?_)
  refine lv_goto (tgt := 18) C.1.1 C.1.2.1 dX8_worstAt_85 (by decide) ?_
  exact hK18 _ _ _ _ _ h w (lv_sub hl [2, 3, 4, 5, 6, 1, 0] rfl)
set_option maxHeartbeats 4000000 in
set_option maxRecDepth 100000 in
theorem v_X8_worstAt_78 {x1 : Int32} {x2 : Int32} {x3 : Int32} {x4 : Int32} {x6 : Int32} {t0 : Int32} {M : Mem} {K18 : Int32 → Int32 → Prop} {Q : Int32 → Prop} {H : Heap} {locs : List Loc} {ls : Array Slot} (C : Cx p s m args c cX8_worstAt 7 RX8 g) (hr : meth.sig.returnType = (some .int)) (hk : meth.locks = false) (hK18 : ∀ (x5 : Int32) (x6 : Int32) (H : Heap) (locs : List Loc) (ls : Array Slot), K18 x5 x6 → Wd g layM 12 s.heap M H locs → lv_has ls 7 [(0, .ref (ga g 0)), (1, .int x1), (2, .int x2), (3, .int x3), (4, .int x4), (5, .int x5), (6, .int x6)] → W p l e (rmOf 0 0) s m args below meth c H locs 0 0 (MQ below (va_Qi (fun r M9 => M9 = M ∧ Q r) (PostW g layM 12) (gF g)) args s 0 0 (gF g)) (F0 m 18 ls [])) (h : w_X8_worstAt_78 x1 x2 x3 x4 x6 t0 M K18 Q) (w : Wd g layM 12 s.heap M H locs) (hl : lv_has ls 7 [(0, .ref (ga g 0)), (1, .int x1), (2, .int x2), (3, .int x3), (4, .int x4), (6, .int x6)]) : W p l e (rmOf 0 0) s m args below meth c H locs 0 0 (MQ below (va_Qi (fun r M9 => M9 = M ∧ Q r) (PostW g layM 12) (gF g)) args s 0 0 (gF g)) (F0 m 78 ls [.int t0]) := by
  unfold w_X8_worstAt_78 at h
  refine lv_iconst (v := 0) C.1.1 C.1.2.1 dX8_worstAt_78 (by decide) ?_
  exact v_X8_worstAt_79 C hr hk  hK18 h w (lv_sub hl [0, 1, 2, 3, 4, 5] rfl)
set_option maxHeartbeats 4000000 in
set_option maxRecDepth 100000 in
theorem v_X8_worstAt_18 {x1 : Int32} {x2 : Int32} {x3 : Int32} {x4 : Int32} {x5 : Int32} {x6 : Int32} {M : Mem} {K5 : Int32 → Int32 → Prop} {K18 : Int32 → Int32 → Prop} {Q : Int32 → Prop} {H : Heap} {locs : List Loc} {ls : Array Slot} (C : Cx p s m args c cX8_worstAt 7 RX8 g) (hr : meth.sig.returnType = (some .int)) (hk : meth.locks = false) (hK5 : ∀ (x3 : Int32) (x4 : Int32) (H : Heap) (locs : List Loc) (ls : Array Slot), K5 x3 x4 → Wd g layM 12 s.heap M H locs → lv_has ls 7 [(0, .ref (ga g 0)), (1, .int x1), (2, .int x2), (3, .int x3), (4, .int x4)] → W p l e (rmOf 0 0) s m args below meth c H locs 0 0 (MQ below (va_Qi (fun r M9 => M9 = M ∧ Q r) (PostW g layM 12) (gF g)) args s 0 0 (gF g)) (F0 m 5 ls [])) (hK18 : ∀ (x5 : Int32) (x6 : Int32) (H : Heap) (locs : List Loc) (ls : Array Slot), K18 x5 x6 → Wd g layM 12 s.heap M H locs → lv_has ls 7 [(0, .ref (ga g 0)), (1, .int x1), (2, .int x2), (3, .int x3), (4, .int x4), (5, .int x5), (6, .int x6)] → W p l e (rmOf 0 0) s m args below meth c H locs 0 0 (MQ below (va_Qi (fun r M9 => M9 = M ∧ Q r) (PostW g layM 12) (gF g)) args s 0 0 (gF g)) (F0 m 18 ls [])) (h : w_X8_worstAt_18 x1 x2 x3 x4 M K5 Q K18 x5 x6) (w : Wd g layM 12 s.heap M H locs) (hl : lv_has ls 7 [(0, .ref (ga g 0)), (1, .int x1), (2, .int x2), (3, .int x3), (4, .int x4), (5, .int x5), (6, .int x6)]) : W p l e (rmOf 0 0) s m args below meth c H locs 0 0 (MQ below (va_Qi (fun r M9 => M9 = M ∧ Q r) (PostW g layM 12) (gF g)) args s 0 0 (gF g)) (F0 m 18 ls []) := by
  unfold w_X8_worstAt_18 at h
  refine lv_iload C.1.1 C.1.2.1 dX8_worstAt_18 (lv_at hl 6 rfl) ?_
  refine lv_bipush (v := 6) C.1.1 C.1.2.1 dX8_worstAt_20 (by decide) ?_
  refine lv_icmp_ge (tgt := 88) C.1.1 C.1.2.1 dX8_worstAt_22 (by decide) (fun hc2 => ?_) (fun hc2 => ?_)
  · replace h := h.1 hc2
    exact v_X8_worstAt_88 C hr hk  hK5 h w (lv_sub hl [0, 1, 2, 3, 4, 5] rfl)
  · replace h := h.2 hc2
    refine lv_iload_n C.1.1 C.1.2.1 dX8_worstAt_25 rfl (lv_at hl 1 rfl) ?_
    refine lv_iload C.1.1 C.1.2.1 dX8_worstAt_26 (lv_at hl 4 rfl) ?_
    refine q_ishr C dX8_worstAt_28 ?_
    refine lv_iconst (v := 1) C.1.1 C.1.2.1 dX8_worstAt_29 (by decide) ?_
    refine lv_iand C.1.1 C.1.2.1 dX8_worstAt_30 ?_
    refine lv_iconst (v := 1) C.1.1 C.1.2.1 dX8_worstAt_31 (by decide) ?_
    refine lv_icmp_ne (tgt := 88) C.1.1 C.1.2.1 dX8_worstAt_32 (by decide) (fun hc4 => ?_) (fun hc4 => ?_)
    · replace h := h.2 hc4
      exact v_X8_worstAt_88 C hr hk  hK5 h w (lv_sub hl [0, 1, 2, 3, 4, 5] rfl)
    · replace h := h.1 hc4
      refine lv_iload C.1.1 C.1.2.1 dX8_worstAt_35 (lv_at hl 5 rfl) ?_
      refine lv_iload_n C.1.1 C.1.2.1 dX8_worstAt_37 rfl (lv_at hl 1 rfl) ?_
      refine lv_iload C.1.1 C.1.2.1 dX8_worstAt_38 (lv_at hl 6 rfl) ?_
      refine q_ishr C dX8_worstAt_40 ?_
      refine lv_iconst (v := 1) C.1.1 C.1.2.1 dX8_worstAt_41 (by decide) ?_
      refine lv_iand C.1.1 C.1.2.1 dX8_worstAt_42 ?_
      refine lv_iconst (v := 1) C.1.1 C.1.2.1 dX8_worstAt_43 (by decide) ?_
      refine lv_icmp_ne (tgt := 78) C.1.1 C.1.2.1 dX8_worstAt_44 (by decide) (fun hc5 => ?_) (fun hc5 => ?_)
      · replace h := h.2 hc5
        exact v_X8_worstAt_78 C hr hk  hK18 h w (lv_sub hl [0, 1, 2, 3, 4, 6] rfl)
      · replace h := h.1 hc5
        refine lv_aload_n C.1.1 C.1.2.1 dX8_worstAt_47 rfl (lv_at hl 0 rfl) ?_
        refine gr_RX8_28 C w hm_0 lm_0 rfl dX8_worstAt_48 ?_
        refine lv_bipush (v := 126) C.1.1 C.1.2.1 dX8_worstAt_51 (by decide) ?_
        refine lv_iload C.1.1 C.1.2.1 dX8_worstAt_53 (lv_at hl 4 rfl) ?_
        refine lv_imul C.1.1 C.1.2.1 dX8_worstAt_55 ?_
        refine lv_iload_n C.1.1 C.1.2.1 dX8_worstAt_56 rfl (lv_at hl 2 rfl) ?_
        refine lv_iadd C.1.1 C.1.2.1 dX8_worstAt_57 ?_
        refine q_ial C w hm_7 lm_7 h.1 dX8_worstAt_58 ?_
        replace h := h.2
        refine lv_aload_n C.1.1 C.1.2.1 dX8_worstAt_59 rfl (lv_at hl 0 rfl) ?_
        refine gr_RX8_28 C w hm_0 lm_0 rfl dX8_worstAt_60 ?_
        refine lv_bipush (v := 126) C.1.1 C.1.2.1 dX8_worstAt_63 (by decide) ?_
        refine lv_iload C.1.1 C.1.2.1 dX8_worstAt_65 (lv_at hl 6 rfl) ?_
        refine lv_imul C.1.1 C.1.2.1 dX8_worstAt_67 ?_
        refine lv_iload_n C.1.1 C.1.2.1 dX8_worstAt_68 rfl (lv_at hl 2 rfl) ?_
        refine lv_iadd C.1.1 C.1.2.1 dX8_worstAt_69 ?_
        refine q_ial C w hm_7 lm_7 h.1 dX8_worstAt_70 ?_
        replace h := h.2
        refine lv_icmp_ne (tgt := 78) C.1.1 C.1.2.1 dX8_worstAt_71 (by decide) (fun hc6 => ?_) (fun hc6 => ?_)
        · replace h := h.2 hc6
          exact v_X8_worstAt_78 C hr hk  hK18 h w (lv_sub hl [0, 1, 2, 3, 4, 6] rfl)
        · replace h := h.1 hc6
          refine lv_iconst (v := 1) C.1.1 C.1.2.1 dX8_worstAt_74 (by decide) ?_
          refine lv_goto (tgt := 79) C.1.1 C.1.2.1 dX8_worstAt_75 (by decide) ?_
          exact v_X8_worstAt_79 C hr hk  hK18 h w (lv_sub hl [0, 1, 2, 3, 4, 6] rfl)
set_option maxHeartbeats 4000000 in
set_option maxRecDepth 100000 in
theorem l_X8_worstAt_18 {x1 : Int32} {x2 : Int32} {x3 : Int32} {x4 : Int32} {M : Mem} {K5 : Int32 → Int32 → Prop} {Q : Int32 → Prop} (C : Cx p s m args c cX8_worstAt 7 RX8 g) (hr : meth.sig.returnType = (some .int)) (hk : meth.locks = false) (hK5 : ∀ (x3 : Int32) (x4 : Int32) (H : Heap) (locs : List Loc) (ls : Array Slot), K5 x3 x4 → Wd g layM 12 s.heap M H locs → lv_has ls 7 [(0, .ref (ga g 0)), (1, .int x1), (2, .int x2), (3, .int x3), (4, .int x4)] → W p l e (rmOf 0 0) s m args below meth c H locs 0 0 (MQ below (va_Qi (fun r M9 => M9 = M ∧ Q r) (PostW g layM 12) (gF g)) args s 0 0 (gF g)) (F0 m 5 ls [])) : ∀ (n : Nat) (x5 : Int32) (x6 : Int32) (H : Heap) (locs : List Loc) (ls : Array Slot), fu2 (w_X8_worstAt_18 x1 x2 x3 x4 M K5 Q) n x5 x6 → Wd g layM 12 s.heap M H locs → lv_has ls 7 [(0, .ref (ga g 0)), (1, .int x1), (2, .int x2), (3, .int x3), (4, .int x4), (5, .int x5), (6, .int x6)] → W p l e (rmOf 0 0) s m args below meth c H locs 0 0 (MQ below (va_Qi (fun r M9 => M9 = M ∧ Q r) (PostW g layM 12) (gF g)) args s 0 0 (gF g)) (F0 m 18 ls []) := by
  intro n
  induction n with
  | zero => intro x5 x6 H locs ls h; exact h.elim
  | succ n ih => intro x5 x6 H locs ls h w hl; exact v_X8_worstAt_18 C hr hk  hK5 ih h w hl
set_option maxHeartbeats 4000000 in
set_option maxRecDepth 100000 in
theorem v_X8_worstAt_5 {x1 : Int32} {x2 : Int32} {x3 : Int32} {x4 : Int32} {M : Mem} {K5 : Int32 → Int32 → Prop} {Q : Int32 → Prop} {H : Heap} {locs : List Loc} {ls : Array Slot} (C : Cx p s m args c cX8_worstAt 7 RX8 g) (hr : meth.sig.returnType = (some .int)) (hk : meth.locks = false) (hK5 : ∀ (x3 : Int32) (x4 : Int32) (H : Heap) (locs : List Loc) (ls : Array Slot), K5 x3 x4 → Wd g layM 12 s.heap M H locs → lv_has ls 7 [(0, .ref (ga g 0)), (1, .int x1), (2, .int x2), (3, .int x3), (4, .int x4)] → W p l e (rmOf 0 0) s m args below meth c H locs 0 0 (MQ below (va_Qi (fun r M9 => M9 = M ∧ Q r) (PostW g layM 12) (gF g)) args s 0 0 (gF g)) (F0 m 5 ls [])) (h : w_X8_worstAt_5 x1 x2 M Q K5 x3 x4) (w : Wd g layM 12 s.heap M H locs) (hl : lv_has ls 7 [(0, .ref (ga g 0)), (1, .int x1), (2, .int x2), (3, .int x3), (4, .int x4)]) : W p l e (rmOf 0 0) s m args below meth c H locs 0 0 (MQ below (va_Qi (fun r M9 => M9 = M ∧ Q r) (PostW g layM 12) (gF g)) args s 0 0 (gF g)) (F0 m 5 ls []) := by
  unfold w_X8_worstAt_5 at h
  refine lv_iload C.1.1 C.1.2.1 dX8_worstAt_5 (lv_at hl 4 rfl) ?_
  refine lv_bipush (v := 6) C.1.1 C.1.2.1 dX8_worstAt_7 (by decide) ?_
  refine lv_icmp_ge (tgt := 107) C.1.1 C.1.2.1 dX8_worstAt_9 (by decide) (fun hc1 => ?_) (fun hc1 => ?_)
  · replace h := h.1 hc1
    refine lv_iload_n C.1.1 C.1.2.1 dX8_worstAt_107 rfl (lv_at hl 3 rfl) ?_
    exact q_iret C hr hk w rfl ⟨rfl, h⟩ dX8_worstAt_108
  · replace h := h.2 hc1
    refine lv_iconst (v := 0) C.1.1 C.1.2.1 dX8_worstAt_12 (by decide) ?_
    refine lv_istore (lv' := [(5, .int 0), (0, .ref (ga g 0)), (1, .int x1), (2, .int x2), (3, .int x3), (4, .int x4)]) C.1.1 C.1.2.1 dX8_worstAt_13 hl (by decide) rfl (fun ls hl => ?_)
    refine lv_iconst (v := 0) C.1.1 C.1.2.1 dX8_worstAt_15 (by decide) ?_
    refine lv_istore (lv' := [(6, .int 0), (5, .int 0), (0, .ref (ga g 0)), (1, .int x1), (2, .int x2), (3, .int x3), (4, .int x4)]) C.1.1 C.1.2.1 dX8_worstAt_16 hl (by decide) rfl (fun ls hl => ?_)
    obtain ⟨n, h⟩ := h
    exact l_X8_worstAt_18 C hr hk  hK5 n _ _ _ _ _ h w (lv_sub hl [2, 3, 4, 5, 6, 1, 0] rfl)
set_option maxHeartbeats 4000000 in
set_option maxRecDepth 100000 in
theorem l_X8_worstAt_5 {x1 : Int32} {x2 : Int32} {M : Mem} {Q : Int32 → Prop} (C : Cx p s m args c cX8_worstAt 7 RX8 g) (hr : meth.sig.returnType = (some .int)) (hk : meth.locks = false)  : ∀ (n : Nat) (x3 : Int32) (x4 : Int32) (H : Heap) (locs : List Loc) (ls : Array Slot), fu2 (w_X8_worstAt_5 x1 x2 M Q) n x3 x4 → Wd g layM 12 s.heap M H locs → lv_has ls 7 [(0, .ref (ga g 0)), (1, .int x1), (2, .int x2), (3, .int x3), (4, .int x4)] → W p l e (rmOf 0 0) s m args below meth c H locs 0 0 (MQ below (va_Qi (fun r M9 => M9 = M ∧ Q r) (PostW g layM 12) (gF g)) args s 0 0 (gF g)) (F0 m 5 ls []) := by
  intro n
  induction n with
  | zero => intro x3 x4 H locs ls h; exact h.elim
  | succ n ih => intro x3 x4 H locs ls h w hl; exact v_X8_worstAt_5 C hr hk   ih h w hl
set_option maxHeartbeats 4000000 in
set_option maxRecDepth 100000 in
theorem c_X8_worstAt {l : Launch} {g : Gt} {x1 : Int32} {x2 : Int32} {M : Mem} {Q : Int32 → Prop} (h : w_X8_worstAt x1 x2 M Q) : MI l yX8_worstAt cX8_worstAt 7 (some .int) 0 0 g layM 12 [.ref (ga g 0), .int x1, .int x2] M (fun r M9 => M9 = M ∧ Q r) :=
  m_of (by decide +kernel) (Nat.le_of_ble_eq_true rfl) (fun p e s m args below meth c ls C hr hk w hl => by
    have C : Cx p s m args c cX8_worstAt 7 RX8 g := C
    have hl : lv_has ls 7 [(0, .ref (ga g 0)), (1, .int x1), (2, .int x2)] := hl
    unfold w_X8_worstAt at h
    obtain ⟨H, eH⟩ : ∃ H : Heap, H = s.heap := ⟨_, rfl⟩
    obtain ⟨locs, el⟩ : ∃ locs : List Loc, locs = [] := ⟨_, rfl⟩
    have w : Wd g layM 12 s.heap M H locs := by rw [eH, el]; exact w
    suffices hw : W p l e (rmOf 0 0) s m args below meth c H locs 0 0 (MQ below (va_Qi (fun r M9 => M9 = M ∧ Q r) (PostW g layM 12) (gF g)) args s 0 0 (gF g)) (F0 m 0 ls []) by rw [eH, el] at hw; exact hw
    clear eH el
    refine lv_iconst (v := 0) C.1.1 C.1.2.1 dX8_worstAt_0 (by decide) ?_
    refine lv_istore_n (lv' := [(3, .int 0), (0, .ref (ga g 0)), (1, .int x1), (2, .int x2)]) C.1.1 C.1.2.1 dX8_worstAt_1 rfl hl (by decide) rfl (fun ls hl => ?_)
    refine lv_iconst (v := 0) C.1.1 C.1.2.1 dX8_worstAt_2 (by decide) ?_
    refine lv_istore (lv' := [(4, .int 0), (3, .int 0), (0, .ref (ga g 0)), (1, .int x1), (2, .int x2)]) C.1.1 C.1.2.1 dX8_worstAt_3 hl (by decide) rfl (fun ls hl => ?_)
    obtain ⟨n, h⟩ := h
    exact l_X8_worstAt_5 C hr hk   n _ _ _ _ _ h w (lv_sub hl [2, 3, 4, 1, 0] rfl))
-- ask
set_option maxHeartbeats 4000000 in
set_option maxRecDepth 100000 in
theorem v_X8_ask_129 {x2 : Int32} {x4 : Int32} {x5 : Int32} {M : Mem} {Q : Int32 → Mem → Prop} {H : Heap} {locs : List Loc} {ls : Array Slot} (C : Cx p s m args c cX8_ask 8 RX8 g) (hr : meth.sig.returnType = (some .int)) (hk : meth.locks = false)  (h : w_X8_ask_129 x2 x4 x5 M Q) (w : Wd g layM 12 s.heap M H locs) (hl : lv_has ls 8 [(2, .int x2), (4, .int x4), (5, .int x5)]) : W p l e (rmOf 6 145) s m args below meth c H locs 0 0 (MQ below (va_Qi Q (PostW g layM 12) (gF g)) args s 0 0 (gF g)) (F0 m 129 ls []) := by
  unfold w_X8_ask_129 at h
  refine lv_iload C.1.1 C.1.2.1 dX8_ask_129 (lv_at hl 2 rfl) ?_
  refine lv_bipush (v := (-4)) C.1.1 C.1.2.1 dX8_ask_131 (by decide) ?_
  have J : ∀ ls : Array Slot, lv_has ls 8 [] → W p l e (rmOf 6 145) s m args below meth c H locs 0 0 (MQ below (va_Qi Q (PostW g layM 12) (gF g)) args s 0 0 (gF g)) (F0 m 147 ls [.int (if x5 = (-4) then x5 else (if x2 = 0 then x5 else x4))]) := by
    intro ls hl
    exact q_iret C hr hk w rfl h dX8_ask_147
  refine lv_icmp_eq (tgt := 140) C.1.1 C.1.2.1 dX8_ask_133 (by decide) (fun hc9 => ?_) (fun hc9 => ?_)
  · refine lv_iload C.1.1 C.1.2.1 dX8_ask_140 (lv_at hl 2 rfl) ?_
    refine lv_goto (tgt := 147) C.1.1 C.1.2.1 dX8_ask_142 (by decide) ?_
    simp only [if_pos hc9] at J hl
    exact J ls (lv_sub hl [] rfl)
  · refine lv_iload_n C.1.1 C.1.2.1 dX8_ask_136 rfl (lv_at hl 0 rfl) ?_
    refine lv_if_ne (tgt := 145) C.1.1 C.1.2.1 dX8_ask_137 (by decide) (fun hc10 => ?_) (fun hc10 => ?_)
    · refine lv_iload C.1.1 C.1.2.1 dX8_ask_145 (lv_at hl 1 rfl) ?_
      simp only [if_neg hc9, if_neg hc10] at J hl
      exact J ls (lv_sub hl [] rfl)
    · refine lv_iload C.1.1 C.1.2.1 dX8_ask_140 (lv_at hl 2 rfl) ?_
      refine lv_goto (tgt := 147) C.1.1 C.1.2.1 dX8_ask_142 (by decide) ?_
      simp only [if_neg hc9, if_pos hc10] at J hl
      exact J ls (lv_sub hl [] rfl)
set_option maxHeartbeats 4000000 in
set_option maxRecDepth 100000 in
theorem v_X8_ask_105 {x2 : Int32} {x3 : Int32} {x4 : Int32} {x6 : Int32} {x7 : Int32} {t0 : Int32} {M : Mem} {K63 : Int32 → Int32 → Int32 → Prop} {Q : Int32 → Mem → Prop} {H : Heap} {locs : List Loc} {ls : Array Slot} (C : Cx p s m args c cX8_ask 8 RX8 g) (hr : meth.sig.returnType = (some .int)) (hk : meth.locks = false) (hK63 : ∀ (x4 : Int32) (x5 : Int32) (x6 : Int32) (H : Heap) (locs : List Loc) (ls : Array Slot), K63 x4 x5 x6 → Wd g layM 12 s.heap M H locs → lv_has ls 8 [(0, .ref (ga g 0)), (2, .int x2), (3, .int x3), (4, .int x4), (5, .int x5), (6, .int x6)] → W p l e (rmOf 6 145) s m args below meth c H locs 0 0 (MQ below (va_Qi Q (PostW g layM 12) (gF g)) args s 0 0 (gF g)) (F0 m 63 ls [])) (h : w_X8_ask_105 x2 x3 x4 x6 x7 t0 M K63 Q) (w : Wd g layM 12 s.heap M H locs) (hl : lv_has ls 8 [(0, .ref (ga g 0)), (2, .int x2), (3, .int x3), (4, .int x4), (6, .int x6), (7, .int x7)]) : W p l e (rmOf 6 145) s m args below meth c H locs 0 0 (MQ below (va_Qi Q (PostW g layM 12) (gF g)) args s 0 0 (gF g)) (F0 m 105 ls [.int t0]) := by
  unfold w_X8_ask_105 at h
  refine lv_istore (lv' := [(5, .int t0), (0, .ref (ga g 0)), (2, .int x2), (3, .int x3), (4, .int x4), (6, .int x6), (7, .int x7)]) C.1.1 C.1.2.1 dX8_ask_105 hl (by decide) rfl (fun ls hl => ?_)
  refine lv_iload C.1.1 C.1.2.1 dX8_ask_107 (lv_at hl 6 rfl) ?_
  refine lv_iload C.1.1 C.1.2.1 dX8_ask_109 (lv_at hl 4 rfl) ?_
  have J : ∀ ls : Array Slot, lv_has ls 8 [(0, .ref (ga g 0)), (2, .int x2), (3, .int x3), (5, .int t0), (6, .int x6)] → W p l e (rmOf 6 145) s m args below meth c H locs 0 0 (MQ below (va_Qi Q (PostW g layM 12) (gF g)) args s 0 0 (gF g)) (F0 m 121 ls [.int (if x4 ≤ x7 then x4 else x7)]) := by
    intro ls hl
    refine lv_istore (lv' := [(4, .int (if x4 ≤ x7 then x4 else x7)), (0, .ref (ga g 0)), (2, .int x2), (3, .int x3), (5, .int t0), (6, .int x6)]) C.1.1 C.1.2.1 dX8_ask_121 hl (by decide) rfl (fun ls hl => ?_)
    refine lv_iinc (v := x6 + 1) (lv' := [(6, .int (x6 + 1)), (4, .int (if x4 ≤ x7 then x4 else x7)), (0, .ref (ga g 0)), (2, .int x2), (3, .int x3), (5, .int t0)]) C.1.1 C.1.2.1 dX8_ask_123 hl (k := 5) rfl rfl (by decide) rfl (fun ls hl => ?_)
    refine lv_goto (tgt := 63) C.1.1 C.1.2.1 dX8_ask_126 (by decide) ?_
    exact hK63 _ _ _ _ _ _ h w (lv_sub hl [2, 3, 4, 1, 5, 0] rfl)
  refine lv_icmp_ge (tgt := 119) C.1.1 C.1.2.1 dX8_ask_111 (by decide) (fun hc13 => ?_) (fun hc13 => ?_)
  · refine lv_iload C.1.1 C.1.2.1 dX8_ask_119 (lv_at hl 4 rfl) ?_
    simp only [if_pos hc13] at J hl
    exact J ls (lv_sub hl [1, 2, 3, 0, 5] rfl)
  · refine lv_iload C.1.1 C.1.2.1 dX8_ask_114 (lv_at hl 6 rfl) ?_
    refine lv_goto (tgt := 121) C.1.1 C.1.2.1 dX8_ask_116 (by decide) ?_
    simp only [if_neg hc13] at J hl
    exact J ls (lv_sub hl [1, 2, 3, 0, 5] rfl)
set_option maxHeartbeats 4000000 in
set_option maxRecDepth 100000 in
theorem v_X8_ask_63 {x2 : Int32} {x3 : Int32} {x4 : Int32} {x5 : Int32} {x6 : Int32} {M : Mem} {K63 : Int32 → Int32 → Int32 → Prop} {Q : Int32 → Mem → Prop} {H : Heap} {locs : List Loc} {ls : Array Slot} (C : Cx p s m args c cX8_ask 8 RX8 g) (hr : meth.sig.returnType = (some .int)) (hk : meth.locks = false) (hK63 : ∀ (x4 : Int32) (x5 : Int32) (x6 : Int32) (H : Heap) (locs : List Loc) (ls : Array Slot), K63 x4 x5 x6 → Wd g layM 12 s.heap M H locs → lv_has ls 8 [(0, .ref (ga g 0)), (2, .int x2), (3, .int x3), (4, .int x4), (5, .int x5), (6, .int x6)] → W p l e (rmOf 6 145) s m args below meth c H locs 0 0 (MQ below (va_Qi Q (PostW g layM 12) (gF g)) args s 0 0 (gF g)) (F0 m 63 ls [])) (h : w_X8_ask_63 x2 x3 M Q K63 x4 x5 x6) (w : Wd g layM 12 s.heap M H locs) (hl : lv_has ls 8 [(0, .ref (ga g 0)), (2, .int x2), (3, .int x3), (4, .int x4), (5, .int x5), (6, .int x6)]) : W p l e (rmOf 6 145) s m args below meth c H locs 0 0 (MQ below (va_Qi Q (PostW g layM 12) (gF g)) args s 0 0 (gF g)) (F0 m 63 ls []) := by
  unfold w_X8_ask_63 at h
  refine lv_iload C.1.1 C.1.2.1 dX8_ask_63 (lv_at hl 5 rfl) ?_
  refine lv_bipush (v := 126) C.1.1 C.1.2.1 dX8_ask_65 (by decide) ?_
  refine lv_icmp_ge (tgt := 129) C.1.1 C.1.2.1 dX8_ask_67 (by decide) (fun hc8 => ?_) (fun hc8 => ?_)
  · replace h := h.1 hc8
    exact v_X8_ask_129 C hr hk   h w (lv_sub hl [1, 3, 4] rfl)
  · replace h := h.2 hc8
    refine lv_aload_n C.1.1 C.1.2.1 dX8_ask_70 rfl (lv_at hl 0 rfl) ?_
    refine lv_iload_n C.1.1 C.1.2.1 dX8_ask_71 rfl (lv_at hl 2 rfl) ?_
    refine lv_iload C.1.1 C.1.2.1 dX8_ask_72 (lv_at hl 5 rfl) ?_
    refine q_pVi C w [.int x3, .int x6] (c_X8_worstAt  h) kv_X8_worstAt k_139 (rcv C w kc_X8 hm_0 lm_0) rfl hl.1 (Nat.le_of_ble_eq_true rfl) ⟨Nat.le_of_ble_eq_true rfl, Nat.le_of_ble_eq_true rfl⟩ dX8_ask_74 (fun r11 H locs h w => ?_)
    refine lv_istore (lv' := [(7, .int r11), (0, .ref (ga g 0)), (2, .int x2), (3, .int x3), (4, .int x4), (5, .int x5), (6, .int x6)]) C.1.1 C.1.2.1 dX8_ask_77 hl (by decide) rfl (fun ls hl => ?_)
    refine lv_iload C.1.1 C.1.2.1 dX8_ask_79 (lv_at hl 0 rfl) ?_
    refine lv_iload C.1.1 C.1.2.1 dX8_ask_81 (lv_at hl 4 rfl) ?_
    refine lv_icmp_ge (tgt := 103) C.1.1 C.1.2.1 dX8_ask_83 (by decide) (fun hc12 => ?_) (fun hc12 => ?_)
    · replace h := h.1 hc12
      refine lv_iload C.1.1 C.1.2.1 dX8_ask_103 (lv_at hl 5 rfl) ?_
      exact v_X8_ask_105 C hr hk  hK63 h w (lv_sub hl [1, 2, 3, 4, 6, 0] rfl)
    · replace h := h.2 hc12
      refine lv_bipush (v := 10) C.1.1 C.1.2.1 dX8_ask_86 (by decide) ?_
      refine lv_iload C.1.1 C.1.2.1 dX8_ask_88 (lv_at hl 6 rfl) ?_
      refine lv_bipush (v := 6) C.1.1 C.1.2.1 dX8_ask_90 (by decide) ?_
      refine lv_idiv C.1.1 C.1.2.1 dX8_ask_92 (by decide) ?_
      refine lv_imul C.1.1 C.1.2.1 dX8_ask_93 ?_
      refine lv_iload C.1.1 C.1.2.1 dX8_ask_94 (lv_at hl 6 rfl) ?_
      refine lv_bipush (v := 6) C.1.1 C.1.2.1 dX8_ask_96 (by decide) ?_
      refine q_irem C dX8_ask_98 (by decide) ?_
      refine lv_iadd C.1.1 C.1.2.1 dX8_ask_99 ?_
      refine lv_goto (tgt := 105) C.1.1 C.1.2.1 dX8_ask_100 (by decide) ?_
      exact v_X8_ask_105 C hr hk  hK63 h w (lv_sub hl [1, 2, 3, 4, 6, 0] rfl)
set_option maxHeartbeats 4000000 in
set_option maxRecDepth 100000 in
theorem l_X8_ask_63 {x2 : Int32} {x3 : Int32} {M : Mem} {Q : Int32 → Mem → Prop} (C : Cx p s m args c cX8_ask 8 RX8 g) (hr : meth.sig.returnType = (some .int)) (hk : meth.locks = false)  : ∀ (n : Nat) (x4 : Int32) (x5 : Int32) (x6 : Int32) (H : Heap) (locs : List Loc) (ls : Array Slot), fu3 (w_X8_ask_63 x2 x3 M Q) n x4 x5 x6 → Wd g layM 12 s.heap M H locs → lv_has ls 8 [(0, .ref (ga g 0)), (2, .int x2), (3, .int x3), (4, .int x4), (5, .int x5), (6, .int x6)] → W p l e (rmOf 6 145) s m args below meth c H locs 0 0 (MQ below (va_Qi Q (PostW g layM 12) (gF g)) args s 0 0 (gF g)) (F0 m 63 ls []) := by
  intro n
  induction n with
  | zero => intro x4 x5 x6 H locs ls h; exact h.elim
  | succ n ih => intro x4 x5 x6 H locs ls h w hl; exact v_X8_ask_63 C hr hk   ih h w hl
set_option maxHeartbeats 4000000 in
set_option maxRecDepth 100000 in
theorem v_X8_ask_56 {x2 : Int32} {x3 : Int32} {x4 : Int32} {M : Mem} {Q : Int32 → Mem → Prop} {H : Heap} {locs : List Loc} {ls : Array Slot} (C : Cx p s m args c cX8_ask 8 RX8 g) (hr : meth.sig.returnType = (some .int)) (hk : meth.locks = false)  (h : w_X8_ask_56 x2 x3 x4 M Q) (w : Wd g layM 12 s.heap M H locs) (hl : lv_has ls 8 [(0, .ref (ga g 0)), (2, .int x2), (3, .int x3), (4, .int x4)]) : W p l e (rmOf 6 145) s m args below meth c H locs 0 0 (MQ below (va_Qi Q (PostW g layM 12) (gF g)) args s 0 0 (gF g)) (F0 m 56 ls []) := by
  unfold w_X8_ask_56 at h
  refine lv_bipush (v := (-4)) C.1.1 C.1.2.1 dX8_ask_56 (by decide) ?_
  refine lv_istore (lv' := [(5, .int (-4)), (0, .ref (ga g 0)), (2, .int x2), (3, .int x3), (4, .int x4)]) C.1.1 C.1.2.1 dX8_ask_58 hl (by decide) rfl (fun ls hl => ?_)
  refine lv_iconst (v := 0) C.1.1 C.1.2.1 dX8_ask_60 (by decide) ?_
  refine lv_istore (lv' := [(6, .int 0), (5, .int (-4)), (0, .ref (ga g 0)), (2, .int x2), (3, .int x3), (4, .int x4)]) C.1.1 C.1.2.1 dX8_ask_61 hl (by decide) rfl (fun ls hl => ?_)
  obtain ⟨n, h⟩ := h
  exact l_X8_ask_63 C hr hk   n _ _ _ _ _ _ h w (lv_sub hl [2, 3, 4, 5, 1, 0] rfl)
set_option maxHeartbeats 4000000 in
set_option maxRecDepth 100000 in
theorem v_X8_ask_32 {x2 : Int32} {x3 : Int32} {x4 : Int32} {x5 : Int32} {M : Mem} {K32 : Int32 → Int32 → Prop} {Q : Int32 → Mem → Prop} {H : Heap} {locs : List Loc} {ls : Array Slot} (C : Cx p s m args c cX8_ask 8 RX8 g) (hr : meth.sig.returnType = (some .int)) (hk : meth.locks = false) (hK32 : ∀ (x4 : Int32) (x5 : Int32) (H : Heap) (locs : List Loc) (ls : Array Slot), K32 x4 x5 → Wd g layM 12 s.heap M H locs → lv_has ls 8 [(0, .ref (ga g 0)), (2, .int x2), (3, .int x3), (4, .int x4), (5, .int x5)] → W p l e (rmOf 6 145) s m args below meth c H locs 0 0 (MQ below (va_Qi Q (PostW g layM 12) (gF g)) args s 0 0 (gF g)) (F0 m 32 ls [])) (h : w_X8_ask_32 x2 x3 M Q K32 x4 x5) (w : Wd g layM 12 s.heap M H locs) (hl : lv_has ls 8 [(0, .ref (ga g 0)), (2, .int x2), (3, .int x3), (4, .int x4), (5, .int x5)]) : W p l e (rmOf 6 145) s m args below meth c H locs 0 0 (MQ below (va_Qi Q (PostW g layM 12) (gF g)) args s 0 0 (gF g)) (F0 m 32 ls []) := by
  unfold w_X8_ask_32 at h
  refine lv_iload C.1.1 C.1.2.1 dX8_ask_32 (lv_at hl 4 rfl) ?_
  refine lv_bipush (v := 6) C.1.1 C.1.2.1 dX8_ask_34 (by decide) ?_
  refine lv_icmp_ge (tgt := 56) C.1.1 C.1.2.1 dX8_ask_36 (by decide) (fun hc7 => ?_) (fun hc7 => ?_)
  · replace h := h.1 hc7
    exact v_X8_ask_56 C hr hk   h w (lv_sub hl [0, 1, 2, 3] rfl)
  · replace h := h.2 hc7
    refine lv_iload C.1.1 C.1.2.1 dX8_ask_39 (lv_at hl 3 rfl) ?_
    refine lv_iload_n C.1.1 C.1.2.1 dX8_ask_41 rfl (lv_at hl 2 rfl) ?_
    refine lv_iload C.1.1 C.1.2.1 dX8_ask_42 (lv_at hl 4 rfl) ?_
    refine q_ishr C dX8_ask_44 ?_
    refine lv_iconst (v := 1) C.1.1 C.1.2.1 dX8_ask_45 (by decide) ?_
    refine lv_iand C.1.1 C.1.2.1 dX8_ask_46 ?_
    refine lv_iadd C.1.1 C.1.2.1 dX8_ask_47 ?_
    refine lv_istore (lv' := [(4, .int (x4 + ((sr x3 x5) &&& 1))), (0, .ref (ga g 0)), (2, .int x2), (3, .int x3), (5, .int x5)]) C.1.1 C.1.2.1 dX8_ask_48 hl (by decide) rfl (fun ls hl => ?_)
    refine lv_iinc (v := x5 + 1) (lv' := [(5, .int (x5 + 1)), (4, .int (x4 + ((sr x3 x5) &&& 1))), (0, .ref (ga g 0)), (2, .int x2), (3, .int x3)]) C.1.1 C.1.2.1 dX8_ask_50 hl (k := 4) rfl rfl (by decide) rfl (fun ls hl => ?_)
    refine lv_goto (tgt := 32) C.1.1 C.1.2.1 dX8_ask_53 (by decide) ?_
    exact hK32 _ _ _ _ _ h w (lv_sub hl [2, 3, 4, 1, 0] rfl)
set_option maxHeartbeats 4000000 in
set_option maxRecDepth 100000 in
theorem l_X8_ask_32 {x2 : Int32} {x3 : Int32} {M : Mem} {Q : Int32 → Mem → Prop} (C : Cx p s m args c cX8_ask 8 RX8 g) (hr : meth.sig.returnType = (some .int)) (hk : meth.locks = false)  : ∀ (n : Nat) (x4 : Int32) (x5 : Int32) (H : Heap) (locs : List Loc) (ls : Array Slot), fu2 (w_X8_ask_32 x2 x3 M Q) n x4 x5 → Wd g layM 12 s.heap M H locs → lv_has ls 8 [(0, .ref (ga g 0)), (2, .int x2), (3, .int x3), (4, .int x4), (5, .int x5)] → W p l e (rmOf 6 145) s m args below meth c H locs 0 0 (MQ below (va_Qi Q (PostW g layM 12) (gF g)) args s 0 0 (gF g)) (F0 m 32 ls []) := by
  intro n
  induction n with
  | zero => intro x4 x5 H locs ls h; exact h.elim
  | succ n ih => intro x4 x5 H locs ls h w hl; exact v_X8_ask_32 C hr hk   ih h w hl
set_option maxHeartbeats 4000000 in
set_option maxRecDepth 100000 in
theorem c_X8_ask {l : Launch} {g : Gt} {x1 : Int32} {x2 : Int32} {M : Mem} {Q : Int32 → Mem → Prop} (h : w_X8_ask x1 x2 M Q) : MI l yX8_ask cX8_ask 8 (some .int) 6 145 g layM 12 [.ref (ga g 0), .int x1, .int x2] M Q :=
  m_of (by decide +kernel) (Nat.le_of_ble_eq_true rfl) (fun p e s m args below meth c ls C hr hk w hl => by
    have C : Cx p s m args c cX8_ask 8 RX8 g := C
    have hl : lv_has ls 8 [(0, .ref (ga g 0)), (1, .int x1), (2, .int x2)] := hl
    unfold w_X8_ask at h
    obtain ⟨H, eH⟩ : ∃ H : Heap, H = s.heap := ⟨_, rfl⟩
    obtain ⟨locs, el⟩ : ∃ locs : List Loc, locs = [] := ⟨_, rfl⟩
    have w : Wd g layM 12 s.heap M H locs := by rw [eH, el]; exact w
    suffices hw : W p l e (rmOf 6 145) s m args below meth c H locs 0 0 (MQ below (va_Qi Q (PostW g layM 12) (gF g)) args s 0 0 (gF g)) (F0 m 0 ls []) by rw [eH, el] at hw; exact hw
    clear eH el
    refine lv_aload_n C.1.1 C.1.2.1 dX8_ask_0 rfl (lv_at hl 0 rfl) ?_
    refine lv_iload_n C.1.1 C.1.2.1 dX8_ask_1 rfl (lv_at hl 1 rfl) ?_
    refine q_pVi C w [.int x1] (c_X8_isTaker  h) kv_X8_isTaker k_116 (rcv C w kc_X8 hm_0 lm_0) rfl hl.1 (Nat.le_of_ble_eq_true rfl) ⟨Nat.le_of_ble_eq_true rfl, Nat.le_of_ble_eq_true rfl⟩ dX8_ask_2 (fun r1 H locs h w => ?_)
    refine lv_if_eq (tgt := 18) C.1.1 C.1.2.1 dX8_ask_5 (by decide) (fun hc2 => ?_) (fun hc2 => ?_)
    · replace h := h.1 hc2
      refine lv_iconst (v := (-1)) C.1.1 C.1.2.1 dX8_ask_18 (by decide) ?_
      exact q_iret C hr hk w rfl h dX8_ask_19
    · replace h := h.2 hc2
      refine lv_iload_n C.1.1 C.1.2.1 dX8_ask_8 rfl (lv_at hl 2 rfl) ?_
      refine lv_i2l C.1.1 C.1.2.1 dX8_ask_9 rfl ?_
      refine lv_lconst (v := 0) C.1.1 C.1.2.1 dX8_ask_10 (by decide) ?_
      refine lv_lconst (v := 1) C.1.1 C.1.2.1 dX8_ask_11 (by decide) ?_
      refine q_pSi C w [.long (x2.toInt64), .long 0, .long 1] (c_X8_in  h) ks_X8_in k_95  rfl hl.1 (Nat.le_of_ble_eq_true rfl) ⟨Nat.le_of_ble_eq_true rfl, Nat.le_of_ble_eq_true rfl⟩ dX8_ask_12 (fun r3 H locs h w => ?_)
      refine lv_if_ne (tgt := 20) C.1.1 C.1.2.1 dX8_ask_15 (by decide) (fun hc4 => ?_) (fun hc4 => ?_)
      · replace h := h.2 hc4
        refine lv_aload_n C.1.1 C.1.2.1 dX8_ask_20 rfl (lv_at hl 0 rfl) ?_
        refine lv_iload_n C.1.1 C.1.2.1 dX8_ask_21 rfl (lv_at hl 1 rfl) ?_
        refine q_cVi C w [.int x1] (c_X8_gatesOf  h) kv_X8_gatesOf k_138 (rcv C w kc_X8 hm_0 lm_0) rfl hl.1 (Nat.le_of_ble_eq_true rfl) ⟨Nat.le_of_ble_eq_true rfl, Nat.le_of_ble_eq_true rfl⟩ dX8_ask_22 (fun r5 M6 H locs h w => ?_)
        refine lv_istore_n (lv' := [(3, .int r5), (0, .ref (ga g 0)), (1, .int x1), (2, .int x2)]) C.1.1 C.1.2.1 dX8_ask_25 rfl hl (by decide) rfl (fun ls hl => ?_)
        refine lv_iconst (v := 0) C.1.1 C.1.2.1 dX8_ask_26 (by decide) ?_
        refine lv_istore (lv' := [(4, .int 0), (3, .int r5), (0, .ref (ga g 0)), (1, .int x1), (2, .int x2)]) C.1.1 C.1.2.1 dX8_ask_27 hl (by decide) rfl (fun ls hl => ?_)
        refine lv_iconst (v := 0) C.1.1 C.1.2.1 dX8_ask_29 (by decide) ?_
        refine lv_istore (lv' := [(5, .int 0), (4, .int 0), (3, .int r5), (0, .ref (ga g 0)), (1, .int x1), (2, .int x2)]) C.1.1 C.1.2.1 dX8_ask_30 hl (by decide) rfl (fun ls hl => ?_)
        obtain ⟨n, h⟩ := h
        exact l_X8_ask_32 C hr hk   n _ _ _ _ _ h w (lv_sub hl [3, 5, 2, 1, 0] rfl)
      · replace h := h.1 hc4
        refine lv_iconst (v := (-1)) C.1.1 C.1.2.1 dX8_ask_18 (by decide) ?_
        exact q_iret C hr hk w rfl h dX8_ask_19)
-- drift
set_option maxHeartbeats 4000000 in
set_option maxRecDepth 100000 in
theorem v_X8_drift_118 {x3 : Int32} {M : Mem} {Q : Int32 → Mem → Prop} {H : Heap} {locs : List Loc} {ls : Array Slot} (C : Cx p s m args c cX8_drift 7 RX8 g) (hr : meth.sig.returnType = (some .int)) (hk : meth.locks = false)  (h : w_X8_drift_118 x3 M Q) (w : Wd g layM 12 s.heap M H locs) (hl : lv_has ls 7 [(0, .ref (ga g 0)), (3, .int x3)]) : W p l e (rmOf 4 97) s m args below meth c H locs 0 0 (MQ below (va_Qi Q (PostW g layM 12) (gF g)) args s 0 0 (gF g)) (F0 m 118 ls []) := by
  unfold w_X8_drift_118 at h
  refine lv_iload_n C.1.1 C.1.2.1 dX8_drift_118 rfl (lv_at hl 1 rfl) ?_
  have J : ∀ ls : Array Slot, lv_has ls 7 [] → W p l e (rmOf 4 97) s m args below meth c H locs 0 0 (MQ below (va_Qi Q (PostW g layM 12) (gF g)) args s 0 0 (gF g)) (F0 m 133 ls [.int (if x3 = 0 then (M 0 16) else (M 0 18))]) := by
    intro ls hl
    exact q_iret C hr hk w rfl h dX8_drift_133
  refine lv_if_ne (tgt := 129) C.1.1 C.1.2.1 dX8_drift_119 (by decide) (fun hc11 => ?_) (fun hc11 => ?_)
  · refine lv_aload_n C.1.1 C.1.2.1 dX8_drift_129 rfl (lv_at hl 0 rfl) ?_
    refine gi_RX8_134 C w hm_0 lm_0 rfl dX8_drift_130 ?_
    simp only [if_neg hc11] at J hl
    exact J ls (lv_sub hl [] rfl)
  · refine lv_aload_n C.1.1 C.1.2.1 dX8_drift_122 rfl (lv_at hl 0 rfl) ?_
    refine gi_RX8_128 C w hm_0 lm_0 rfl dX8_drift_123 ?_
    refine lv_goto (tgt := 133) C.1.1 C.1.2.1 dX8_drift_126 (by decide) ?_
    simp only [if_pos hc11] at J hl
    exact J ls (lv_sub hl [] rfl)
set_option maxHeartbeats 4000000 in
set_option maxRecDepth 100000 in
theorem v_X8_drift_52 {x2 : Int32} {x3 : Int32} {x4 : Int32} {x5 : Int32} {M : Mem} {K52 : Int32 → Int32 → Mem → Prop} {Q : Int32 → Mem → Prop} {H : Heap} {locs : List Loc} {ls : Array Slot} (C : Cx p s m args c cX8_drift 7 RX8 g) (hr : meth.sig.returnType = (some .int)) (hk : meth.locks = false) (hK52 : ∀ (x4 : Int32) (x5 : Int32) (M : Mem) (H : Heap) (locs : List Loc) (ls : Array Slot), K52 x4 x5 M → Wd g layM 12 s.heap M H locs → lv_has ls 7 [(0, .ref (ga g 0)), (2, .int x2), (3, .int x3), (4, .int x4), (5, .int x5)] → W p l e (rmOf 4 97) s m args below meth c H locs 0 0 (MQ below (va_Qi Q (PostW g layM 12) (gF g)) args s 0 0 (gF g)) (F0 m 52 ls [])) (h : w_X8_drift_52 x2 x3 Q K52 x4 x5 M) (w : Wd g layM 12 s.heap M H locs) (hl : lv_has ls 7 [(0, .ref (ga g 0)), (2, .int x2), (3, .int x3), (4, .int x4), (5, .int x5)]) : W p l e (rmOf 4 97) s m args below meth c H locs 0 0 (MQ below (va_Qi Q (PostW g layM 12) (gF g)) args s 0 0 (gF g)) (F0 m 52 ls []) := by
  unfold w_X8_drift_52 at h
  refine lv_iload C.1.1 C.1.2.1 dX8_drift_52 (lv_at hl 4 rfl) ?_
  refine lv_iload_n C.1.1 C.1.2.1 dX8_drift_54 rfl (lv_at hl 1 rfl) ?_
  refine lv_icmp_ge (tgt := 118) C.1.1 C.1.2.1 dX8_drift_55 (by decide) (fun hc10 => ?_) (fun hc10 => ?_)
  · replace h := h.1 hc10
    exact v_X8_drift_118 C hr hk   h w (lv_sub hl [0, 2] rfl)
  · replace h := h.2 hc10
    refine lv_iload C.1.1 C.1.2.1 dX8_drift_58 (lv_at hl 3 rfl) ?_
    refine q_ldc C k_140 dX8_drift_60 ?_
    refine lv_imul C.1.1 C.1.2.1 dX8_drift_62 ?_
    refine lv_sipush (v := 12345) C.1.1 C.1.2.1 dX8_drift_63 (by decide) ?_
    refine lv_iadd C.1.1 C.1.2.1 dX8_drift_66 ?_
    refine lv_istore (lv' := [(4, .int ((x4 * 1103515245) + 12345)), (0, .ref (ga g 0)), (2, .int x2), (3, .int x3), (5, .int x5)]) C.1.1 C.1.2.1 dX8_drift_67 hl (by decide) rfl (fun ls hl => ?_)
    refine lv_iload C.1.1 C.1.2.1 dX8_drift_69 (lv_at hl 0 rfl) ?_
    refine lv_bipush (v := 16) C.1.1 C.1.2.1 dX8_drift_71 (by decide) ?_
    refine q_ishr C dX8_drift_73 ?_
    refine lv_sipush (v := 32767) C.1.1 C.1.2.1 dX8_drift_74 (by decide) ?_
    refine lv_iand C.1.1 C.1.2.1 dX8_drift_77 ?_
    refine lv_istore (lv' := [(6, .int ((sr ((x4 * 1103515245) + 12345) 16) &&& 32767)), (4, .int ((x4 * 1103515245) + 12345)), (0, .ref (ga g 0)), (2, .int x2), (3, .int x3), (5, .int x5)]) C.1.1 C.1.2.1 dX8_drift_78 hl (by decide) rfl (fun ls hl => ?_)
    refine lv_aload_n C.1.1 C.1.2.1 dX8_drift_80 rfl (lv_at hl 2 rfl) ?_
    refine gr_RX8_7 C w hm_0 lm_0 rfl dX8_drift_81 ?_
    refine lv_sipush (v := 193) C.1.1 C.1.2.1 dX8_drift_84 (by decide) ?_
    refine lv_iload C.1.1 C.1.2.1 dX8_drift_87 (lv_at hl 0 rfl) ?_
    refine lv_aload_n C.1.1 C.1.2.1 dX8_drift_89 rfl (lv_at hl 2 rfl) ?_
    refine gi_RX8_116 C w hm_0 lm_0 rfl dX8_drift_90 ?_
    refine q_irem C dX8_drift_93 h.1 ?_
    replace h := h.2
    refine lv_iadd C.1.1 C.1.2.1 dX8_drift_94 ?_
    refine lv_iload C.1.1 C.1.2.1 dX8_drift_95 (lv_at hl 0 rfl) ?_
    refine lv_bipush (v := 8) C.1.1 C.1.2.1 dX8_drift_97 (by decide) ?_
    refine lv_idiv C.1.1 C.1.2.1 dX8_drift_99 (by decide) ?_
    refine lv_bipush (v := 6) C.1.1 C.1.2.1 dX8_drift_100 (by decide) ?_
    refine q_irem C dX8_drift_102 (by decide) ?_
    refine q_ias C w hm_1 lm_1 h.1 dX8_drift_103 (fun M12 H locs eM12 w => ?_)
    replace h := h.2 M12 eM12
    refine lv_aload_n C.1.1 C.1.2.1 dX8_drift_104 rfl (lv_at hl 2 rfl) ?_
    refine lv_sipush (v := 176) C.1.1 C.1.2.1 dX8_drift_105 (by decide) ?_
    refine lv_iconst (v := 0) C.1.1 C.1.2.1 dX8_drift_108 (by decide) ?_
    refine q_cVv C w [.int 176, .int 0] (c_X8_nightOn  h) kv_X8_nightOn k_126 (rcv C w kc_X8 hm_0 lm_0) rfl hl.1 (Nat.le_of_ble_eq_true rfl) ⟨Nat.le_of_ble_eq_true rfl, Nat.le_of_ble_eq_true rfl⟩ dX8_drift_109 (fun M14 H locs h w => ?_)
    refine lv_iinc (v := x5 + 1) (lv' := [(5, .int (x5 + 1)), (6, .int ((sr ((x4 * 1103515245) + 12345) 16) &&& 32767)), (4, .int ((x4 * 1103515245) + 12345)), (0, .ref (ga g 0)), (2, .int x2), (3, .int x3)]) C.1.1 C.1.2.1 dX8_drift_112 hl (k := 5) rfl rfl (by decide) rfl (fun ls hl => ?_)
    refine lv_goto (tgt := 52) C.1.1 C.1.2.1 dX8_drift_115 (by decide) ?_
    exact hK52 _ _ _ _ _ _ h w (lv_sub hl [3, 4, 5, 2, 0] rfl)
set_option maxHeartbeats 4000000 in
set_option maxRecDepth 100000 in
theorem l_X8_drift_52 {x2 : Int32} {x3 : Int32} {Q : Int32 → Mem → Prop} (C : Cx p s m args c cX8_drift 7 RX8 g) (hr : meth.sig.returnType = (some .int)) (hk : meth.locks = false)  : ∀ (n : Nat) (x4 : Int32) (x5 : Int32) (M : Mem) (H : Heap) (locs : List Loc) (ls : Array Slot), fu3 (w_X8_drift_52 x2 x3 Q) n x4 x5 M → Wd g layM 12 s.heap M H locs → lv_has ls 7 [(0, .ref (ga g 0)), (2, .int x2), (3, .int x3), (4, .int x4), (5, .int x5)] → W p l e (rmOf 4 97) s m args below meth c H locs 0 0 (MQ below (va_Qi Q (PostW g layM 12) (gF g)) args s 0 0 (gF g)) (F0 m 52 ls []) := by
  intro n
  induction n with
  | zero => intro x4 x5 M H locs ls h; exact h.elim
  | succ n ih => intro x4 x5 M H locs ls h w hl; exact v_X8_drift_52 C hr hk   ih h w hl
set_option maxHeartbeats 4000000 in
set_option maxRecDepth 100000 in
theorem c_X8_drift {l : Launch} {g : Gt} {x1 : Int32} {x2 : Int32} {x3 : Int32} {M : Mem} {Q : Int32 → Mem → Prop} (h : w_X8_drift x1 x2 x3 M Q) : MI l yX8_drift cX8_drift 7 (some .int) 4 97 g layM 12 [.ref (ga g 0), .int x1, .int x2, .int x3] M Q :=
  m_of (by decide +kernel) (Nat.le_of_ble_eq_true rfl) (fun p e s m args below meth c ls C hr hk w hl => by
    have C : Cx p s m args c cX8_drift 7 RX8 g := C
    have hl : lv_has ls 7 [(0, .ref (ga g 0)), (1, .int x1), (2, .int x2), (3, .int x3)] := hl
    unfold w_X8_drift at h
    obtain ⟨H, eH⟩ : ∃ H : Heap, H = s.heap := ⟨_, rfl⟩
    obtain ⟨locs, el⟩ : ∃ locs : List Loc, locs = [] := ⟨_, rfl⟩
    have w : Wd g layM 12 s.heap M H locs := by rw [eH, el]; exact w
    suffices hw : W p l e (rmOf 4 97) s m args below meth c H locs 0 0 (MQ below (va_Qi Q (PostW g layM 12) (gF g)) args s 0 0 (gF g)) (F0 m 0 ls []) by rw [eH, el] at hw; exact hw
    clear eH el
    refine lv_iload_n C.1.1 C.1.2.1 dX8_drift_0 rfl (lv_at hl 2 rfl) ?_
    refine lv_i2l C.1.1 C.1.2.1 dX8_drift_1 rfl ?_
    refine lv_lconst (v := 1) C.1.1 C.1.2.1 dX8_drift_2 (by decide) ?_
    refine q_ldc2 C k_122 dX8_drift_3 ?_
    refine q_pSi C w [.long (x2.toInt64), .long 1, .long 60] (c_X8_in  h) ks_X8_in k_95  rfl hl.1 (Nat.le_of_ble_eq_true rfl) ⟨Nat.le_of_ble_eq_true rfl, Nat.le_of_ble_eq_true rfl⟩ dX8_drift_6 (fun r1 H locs h w => ?_)
    refine lv_if_eq (tgt := 22) C.1.1 C.1.2.1 dX8_drift_9 (by decide) (fun hc2 => ?_) (fun hc2 => ?_)
    · replace h := h.1 hc2
      refine lv_iconst (v := (-1)) C.1.1 C.1.2.1 dX8_drift_22 (by decide) ?_
      exact q_iret C hr hk w rfl h dX8_drift_23
    · replace h := h.2 hc2
      refine lv_iload_n C.1.1 C.1.2.1 dX8_drift_12 rfl (lv_at hl 3 rfl) ?_
      refine lv_i2l C.1.1 C.1.2.1 dX8_drift_13 rfl ?_
      refine lv_lconst (v := 0) C.1.1 C.1.2.1 dX8_drift_14 (by decide) ?_
      refine lv_lconst (v := 1) C.1.1 C.1.2.1 dX8_drift_15 (by decide) ?_
      refine q_pSi C w [.long (x3.toInt64), .long 0, .long 1] (c_X8_in  h) ks_X8_in k_95  rfl hl.1 (Nat.le_of_ble_eq_true rfl) ⟨Nat.le_of_ble_eq_true rfl, Nat.le_of_ble_eq_true rfl⟩ dX8_drift_16 (fun r3 H locs h w => ?_)
      refine lv_if_ne (tgt := 24) C.1.1 C.1.2.1 dX8_drift_19 (by decide) (fun hc4 => ?_) (fun hc4 => ?_)
      · replace h := h.2 hc4
        refine lv_aload_n C.1.1 C.1.2.1 dX8_drift_24 rfl (lv_at hl 0 rfl) ?_
        refine gi_RX8_116 C w hm_0 lm_0 rfl dX8_drift_25 ?_
        refine lv_if_ne (tgt := 34) C.1.1 C.1.2.1 dX8_drift_28 (by decide) (fun hc5 => ?_) (fun hc5 => ?_)
        · replace h := h.2 hc5
          refine lv_aload_n C.1.1 C.1.2.1 dX8_drift_34 rfl (lv_at hl 0 rfl) ?_
          refine lv_iconst (v := 0) C.1.1 C.1.2.1 dX8_drift_35 (by decide) ?_
          refine lv_sipush (v := 176) C.1.1 C.1.2.1 dX8_drift_36 (by decide) ?_
          refine q_cVv C w [.int 0, .int 176] (c_X8_copies  h) kv_X8_copies k_127 (rcv C w kc_X8 hm_0 lm_0) rfl hl.1 (Nat.le_of_ble_eq_true rfl) ⟨Nat.le_of_ble_eq_true rfl, Nat.le_of_ble_eq_true rfl⟩ dX8_drift_39 (fun M7 H locs h w => ?_)
          refine lv_aload_n C.1.1 C.1.2.1 dX8_drift_42 rfl (lv_at hl 0 rfl) ?_
          refine q_cVv C w [] (c_X8_startCounts  h) kv_X8_startCounts k_125 (rcv C w kc_X8 hm_0 lm_0) rfl hl.1 (Nat.le_of_ble_eq_true rfl) ⟨Nat.le_of_ble_eq_true rfl, Nat.le_of_ble_eq_true rfl⟩ dX8_drift_43 (fun M9 H locs h w => ?_)
          refine lv_iload_n C.1.1 C.1.2.1 dX8_drift_46 rfl (lv_at hl 1 rfl) ?_
          refine lv_istore (lv' := [(4, .int x1), (0, .ref (ga g 0)), (1, .int x1), (2, .int x2), (3, .int x3)]) C.1.1 C.1.2.1 dX8_drift_47 hl (by decide) rfl (fun ls hl => ?_)
          refine lv_iconst (v := 0) C.1.1 C.1.2.1 dX8_drift_49 (by decide) ?_
          refine lv_istore (lv' := [(5, .int 0), (4, .int x1), (0, .ref (ga g 0)), (1, .int x1), (2, .int x2), (3, .int x3)]) C.1.1 C.1.2.1 dX8_drift_50 hl (by decide) rfl (fun ls hl => ?_)
          obtain ⟨n, h⟩ := h
          exact l_X8_drift_52 C hr hk   n _ _ _ _ _ _ h w (lv_sub hl [2, 4, 5, 1, 0] rfl)
        · replace h := h.1 hc5
          refine lv_bipush (v := (-2)) C.1.1 C.1.2.1 dX8_drift_31 (by decide) ?_
          exact q_iret C hr hk w rfl h dX8_drift_33
      · replace h := h.1 hc4
        refine lv_iconst (v := (-1)) C.1.1 C.1.2.1 dX8_drift_22 (by decide) ?_
        exact q_iret C hr hk w rfl h dX8_drift_23)
-- keep
set_option maxHeartbeats 4000000 in
set_option maxRecDepth 100000 in
theorem c_X8_keep {l : Launch} {g : Gt} {x1 : Int32} {M : Mem} {Q : Int32 → Mem → Prop} (h : w_X8_keep x1 M Q) : MI l yX8_keep cX8_keep 3 (some .int) 1 25 g layM 12 [.ref (ga g 0), .int x1] M Q :=
  m_of (by decide +kernel) (Nat.le_of_ble_eq_true rfl) (fun p e s m args below meth c ls C hr hk w hl => by
    have C : Cx p s m args c cX8_keep 3 RX8 g := C
    have hl : lv_has ls 3 [(0, .ref (ga g 0)), (1, .int x1)] := hl
    unfold w_X8_keep at h
    obtain ⟨H, eH⟩ : ∃ H : Heap, H = s.heap := ⟨_, rfl⟩
    obtain ⟨locs, el⟩ : ∃ locs : List Loc, locs = [] := ⟨_, rfl⟩
    have w : Wd g layM 12 s.heap M H locs := by rw [eH, el]; exact w
    suffices hw : W p l e (rmOf 1 25) s m args below meth c H locs 0 0 (MQ below (va_Qi Q (PostW g layM 12) (gF g)) args s 0 0 (gF g)) (F0 m 0 ls []) by rw [eH, el] at hw; exact hw
    clear eH el
    refine lv_iload_n C.1.1 C.1.2.1 dX8_keep_0 rfl (lv_at hl 1 rfl) ?_
    refine lv_i2l C.1.1 C.1.2.1 dX8_keep_1 rfl ?_
    refine lv_lconst (v := 0) C.1.1 C.1.2.1 dX8_keep_2 (by decide) ?_
    refine lv_lconst (v := 1) C.1.1 C.1.2.1 dX8_keep_3 (by decide) ?_
    refine q_pSi C w [.long (x1.toInt64), .long 0, .long 1] (c_X8_in  h) ks_X8_in k_95  rfl hl.1 (Nat.le_of_ble_eq_true rfl) ⟨Nat.le_of_ble_eq_true rfl, Nat.le_of_ble_eq_true rfl⟩ dX8_keep_4 (fun r1 H locs h w => ?_)
    refine lv_if_ne (tgt := 12) C.1.1 C.1.2.1 dX8_keep_7 (by decide) (fun hc2 => ?_) (fun hc2 => ?_)
    · replace h := h.2 hc2
      refine lv_aload_n C.1.1 C.1.2.1 dX8_keep_12 rfl (lv_at hl 0 rfl) ?_
      refine lv_iconst (v := 0) C.1.1 C.1.2.1 dX8_keep_13 (by decide) ?_
      refine lv_bipush (v := 44) C.1.1 C.1.2.1 dX8_keep_14 (by decide) ?_
      refine lv_iload_n C.1.1 C.1.2.1 dX8_keep_16 rfl (lv_at hl 1 rfl) ?_
      refine lv_iconst (v := 1) C.1.1 C.1.2.1 dX8_keep_17 (by decide) ?_
      refine lv_iadd C.1.1 C.1.2.1 dX8_keep_18 ?_
      refine lv_imul C.1.1 C.1.2.1 dX8_keep_19 ?_
      refine q_cVv C w [.int 0, .int (44 * (x1 + 1))] (c_X8_copies  h) kv_X8_copies k_127 (rcv C w kc_X8 hm_0 lm_0) rfl hl.1 (Nat.le_of_ble_eq_true rfl) ⟨Nat.le_of_ble_eq_true rfl, Nat.le_of_ble_eq_true rfl⟩ dX8_keep_20 (fun M4 H locs h w => ?_)
      refine lv_aload_n C.1.1 C.1.2.1 dX8_keep_23 rfl (lv_at hl 0 rfl) ?_
      refine gr_RX8_31 C w hm_0 lm_0 rfl dX8_keep_24 ?_
      refine lv_iload_n C.1.1 C.1.2.1 dX8_keep_27 rfl (lv_at hl 1 rfl) ?_
      refine q_zal C w hm_8 lm_8 h.1 dX8_keep_28 ?_
      replace h := h.2
      have J : ∀ ls : Array Slot, lv_has ls 3 [(0, .ref (ga g 0)), (1, .int x1)] → W p l e (rmOf 1 25) s m args below meth c H locs 0 0 (MQ below (va_Qi Q (PostW g layM 12) (gF g)) args s 0 0 (gF g)) (F0 m 37 ls [.int (if (M4 8 x1.toNatClampNeg) = 0 then (0 : Int32) else 1)]) := by
        intro ls hl
        refine lv_istore_n (lv' := [(2, .int (if (M4 8 x1.toNatClampNeg) = 0 then (0 : Int32) else 1)), (0, .ref (ga g 0)), (1, .int x1)]) C.1.1 C.1.2.1 dX8_keep_37 rfl hl (by decide) rfl (fun ls hl => ?_)
        refine lv_aload_n C.1.1 C.1.2.1 dX8_keep_38 rfl (lv_at hl 1 rfl) ?_
        refine gr_RX8_31 C w hm_0 lm_0 rfl dX8_keep_39 ?_
        refine lv_iload_n C.1.1 C.1.2.1 dX8_keep_42 rfl (lv_at hl 2 rfl) ?_
        refine lv_iconst (v := 1) C.1.1 C.1.2.1 dX8_keep_43 (by decide) ?_
        refine q_zas C w hm_8 lm_8 h.1 dX8_keep_44 (fun M6 H locs eM6 w => ?_)
        replace h := h.2 M6 eM6
        refine lv_iload_n C.1.1 C.1.2.1 dX8_keep_45 rfl (lv_at hl 0 rfl) ?_
        exact q_iret C hr hk w rfl h dX8_keep_46
      refine lv_if_eq (tgt := 36) C.1.1 C.1.2.1 dX8_keep_29 (by decide) (fun hc5 => ?_) (fun hc5 => ?_)
      · refine lv_iconst (v := 0) C.1.1 C.1.2.1 dX8_keep_36 (by decide) ?_
        simp only [if_pos hc5] at J hl
        exact J ls (lv_sub hl [0, 1] rfl)
      · refine lv_iconst (v := 1) C.1.1 C.1.2.1 dX8_keep_32 (by decide) ?_
        refine lv_goto (tgt := 37) C.1.1 C.1.2.1 dX8_keep_33 (by decide) ?_
        simp only [if_neg hc5] at J hl
        exact J ls (lv_sub hl [0, 1] rfl)
    · replace h := h.1 hc2
      refine lv_iconst (v := (-1)) C.1.1 C.1.2.1 dX8_keep_10 (by decide) ?_
      exact q_iret C hr hk w rfl h dX8_keep_11)
-- back
set_option maxHeartbeats 4000000 in
set_option maxRecDepth 100000 in
theorem c_X8_back {l : Launch} {g : Gt} {x1 : Int32} {M : Mem} {Q : Int32 → Mem → Prop} (h : w_X8_back x1 M Q) : MI l yX8_back cX8_back 2 (some .int) 1 25 g layM 12 [.ref (ga g 0), .int x1] M Q :=
  m_of (by decide +kernel) (Nat.le_of_ble_eq_true rfl) (fun p e s m args below meth c ls C hr hk w hl => by
    have C : Cx p s m args c cX8_back 2 RX8 g := C
    have hl : lv_has ls 2 [(0, .ref (ga g 0)), (1, .int x1)] := hl
    unfold w_X8_back at h
    obtain ⟨H, eH⟩ : ∃ H : Heap, H = s.heap := ⟨_, rfl⟩
    obtain ⟨locs, el⟩ : ∃ locs : List Loc, locs = [] := ⟨_, rfl⟩
    have w : Wd g layM 12 s.heap M H locs := by rw [eH, el]; exact w
    suffices hw : W p l e (rmOf 1 25) s m args below meth c H locs 0 0 (MQ below (va_Qi Q (PostW g layM 12) (gF g)) args s 0 0 (gF g)) (F0 m 0 ls []) by rw [eH, el] at hw; exact hw
    clear eH el
    refine lv_iload_n C.1.1 C.1.2.1 dX8_back_0 rfl (lv_at hl 1 rfl) ?_
    refine lv_i2l C.1.1 C.1.2.1 dX8_back_1 rfl ?_
    refine lv_lconst (v := 0) C.1.1 C.1.2.1 dX8_back_2 (by decide) ?_
    refine lv_lconst (v := 1) C.1.1 C.1.2.1 dX8_back_3 (by decide) ?_
    refine q_pSi C w [.long (x1.toInt64), .long 0, .long 1] (c_X8_in  h) ks_X8_in k_95  rfl hl.1 (Nat.le_of_ble_eq_true rfl) ⟨Nat.le_of_ble_eq_true rfl, Nat.le_of_ble_eq_true rfl⟩ dX8_back_4 (fun r1 H locs h w => ?_)
    refine lv_if_ne (tgt := 12) C.1.1 C.1.2.1 dX8_back_7 (by decide) (fun hc2 => ?_) (fun hc2 => ?_)
    · replace h := h.2 hc2
      refine lv_aload_n C.1.1 C.1.2.1 dX8_back_12 rfl (lv_at hl 0 rfl) ?_
      refine gr_RX8_31 C w hm_0 lm_0 rfl dX8_back_13 ?_
      refine lv_iload_n C.1.1 C.1.2.1 dX8_back_16 rfl (lv_at hl 1 rfl) ?_
      refine q_zal C w hm_8 lm_8 h.1 dX8_back_17 ?_
      replace h := h.2
      refine lv_if_ne (tgt := 24) C.1.1 C.1.2.1 dX8_back_18 (by decide) (fun hc3 => ?_) (fun hc3 => ?_)
      · replace h := h.2 hc3
        refine lv_aload_n C.1.1 C.1.2.1 dX8_back_24 rfl (lv_at hl 0 rfl) ?_
        refine lv_bipush (v := 44) C.1.1 C.1.2.1 dX8_back_25 (by decide) ?_
        refine lv_iload_n C.1.1 C.1.2.1 dX8_back_27 rfl (lv_at hl 1 rfl) ?_
        refine lv_iconst (v := 1) C.1.1 C.1.2.1 dX8_back_28 (by decide) ?_
        refine lv_iadd C.1.1 C.1.2.1 dX8_back_29 ?_
        refine lv_imul C.1.1 C.1.2.1 dX8_back_30 ?_
        refine lv_iconst (v := 0) C.1.1 C.1.2.1 dX8_back_31 (by decide) ?_
        refine q_cVv C w [.int (44 * (x1 + 1)), .int 0] (c_X8_copies  h) kv_X8_copies k_127 (rcv C w kc_X8 hm_0 lm_0) rfl hl.1 (Nat.le_of_ble_eq_true rfl) ⟨Nat.le_of_ble_eq_true rfl, Nat.le_of_ble_eq_true rfl⟩ dX8_back_32 (fun M5 H locs h w => ?_)
        refine lv_aload_n C.1.1 C.1.2.1 dX8_back_35 rfl (lv_at hl 0 rfl) ?_
        refine gr_RX8_7 C w hm_0 lm_0 rfl dX8_back_36 ?_
        refine lv_bipush (v := 42) C.1.1 C.1.2.1 dX8_back_39 (by decide) ?_
        refine q_ial C w hm_1 lm_1 h.1 dX8_back_41 ?_
        replace h := h.2
        exact q_iret C hr hk w rfl h dX8_back_42
      · replace h := h.1 hc3
        refine lv_bipush (v := (-2)) C.1.1 C.1.2.1 dX8_back_21 (by decide) ?_
        exact q_iret C hr hk w rfl h dX8_back_23
    · replace h := h.1 hc2
      refine lv_iconst (v := (-1)) C.1.1 C.1.2.1 dX8_back_10 (by decide) ?_
      exact q_iret C hr hk w rfl h dX8_back_11)
-- sheet
set_option maxHeartbeats 4000000 in
set_option maxRecDepth 100000 in
theorem v_X8_sheet_56 {x1 : Int32} {x4 : Int32} {M : Mem} {K56 : Int32 → Mem → Prop} {Q : Int32 → Mem → Prop} {H : Heap} {locs : List Loc} {ls : Array Slot} (C : Cx p s m args c cX8_sheet 5 RX8 g) (hr : meth.sig.returnType = (some .int)) (hk : meth.locks = false) (hK56 : ∀ (x4 : Int32) (M : Mem) (H : Heap) (locs : List Loc) (ls : Array Slot), K56 x4 M → Wd g layM 12 s.heap M H locs → lv_has ls 5 [(0, .ref (ga g 0)), (1, .int x1), (4, .int x4)] → W p l e (rmOf 1 25) s m args below meth c H locs 0 0 (MQ below (va_Qi Q (PostW g layM 12) (gF g)) args s 0 0 (gF g)) (F0 m 56 ls [])) (h : w_X8_sheet_56 x1 Q K56 x4 M) (w : Wd g layM 12 s.heap M H locs) (hl : lv_has ls 5 [(0, .ref (ga g 0)), (1, .int x1), (4, .int x4)]) : W p l e (rmOf 1 25) s m args below meth c H locs 0 0 (MQ below (va_Qi Q (PostW g layM 12) (gF g)) args s 0 0 (gF g)) (F0 m 56 ls []) := by
  unfold w_X8_sheet_56 at h
  refine lv_iload C.1.1 C.1.2.1 dX8_sheet_56 (lv_at hl 2 rfl) ?_
  refine lv_bipush (v := 40) C.1.1 C.1.2.1 dX8_sheet_58 (by decide) ?_
  refine lv_icmp_ge (tgt := 82) C.1.1 C.1.2.1 dX8_sheet_60 (by decide) (fun hc9 => ?_) (fun hc9 => ?_)
  · replace h := h.1 hc9
    refine lv_iconst (v := 1) C.1.1 C.1.2.1 dX8_sheet_82 (by decide) ?_
    exact q_iret C hr hk w rfl h dX8_sheet_83
  · replace h := h.2 hc9
    refine lv_aload_n C.1.1 C.1.2.1 dX8_sheet_63 rfl (lv_at hl 0 rfl) ?_
    refine gr_RX8_41 C w hm_0 lm_0 rfl dX8_sheet_64 ?_
    refine lv_bipush (v := 40) C.1.1 C.1.2.1 dX8_sheet_67 (by decide) ?_
    refine lv_iload_n C.1.1 C.1.2.1 dX8_sheet_69 rfl (lv_at hl 1 rfl) ?_
    refine lv_imul C.1.1 C.1.2.1 dX8_sheet_70 ?_
    refine lv_iload C.1.1 C.1.2.1 dX8_sheet_71 (lv_at hl 2 rfl) ?_
    refine lv_iadd C.1.1 C.1.2.1 dX8_sheet_73 ?_
    refine lv_iconst (v := 0) C.1.1 C.1.2.1 dX8_sheet_74 (by decide) ?_
    refine q_ias C w hm_11 lm_11 h.1 dX8_sheet_75 (fun M10 H locs eM10 w => ?_)
    replace h := h.2 M10 eM10
    refine lv_iinc (v := x4 + 1) (lv' := [(4, .int (x4 + 1)), (0, .ref (ga g 0)), (1, .int x1)]) C.1.1 C.1.2.1 dX8_sheet_76 hl (k := 2) rfl rfl (by decide) rfl (fun ls hl => ?_)
    refine lv_goto (tgt := 56) C.1.1 C.1.2.1 dX8_sheet_79 (by decide) ?_
    exact hK56 _ _ _ _ _ h w (lv_sub hl [1, 2, 0] rfl)
set_option maxHeartbeats 4000000 in
set_option maxRecDepth 100000 in
theorem l_X8_sheet_56 {x1 : Int32} {Q : Int32 → Mem → Prop} (C : Cx p s m args c cX8_sheet 5 RX8 g) (hr : meth.sig.returnType = (some .int)) (hk : meth.locks = false)  : ∀ (n : Nat) (x4 : Int32) (M : Mem) (H : Heap) (locs : List Loc) (ls : Array Slot), fu2 (w_X8_sheet_56 x1 Q) n x4 M → Wd g layM 12 s.heap M H locs → lv_has ls 5 [(0, .ref (ga g 0)), (1, .int x1), (4, .int x4)] → W p l e (rmOf 1 25) s m args below meth c H locs 0 0 (MQ below (va_Qi Q (PostW g layM 12) (gF g)) args s 0 0 (gF g)) (F0 m 56 ls []) := by
  intro n
  induction n with
  | zero => intro x4 M H locs ls h; exact h.elim
  | succ n ih => intro x4 M H locs ls h w hl; exact v_X8_sheet_56 C hr hk   ih h w hl
set_option maxHeartbeats 4000000 in
set_option maxRecDepth 100000 in
theorem c_X8_sheet {l : Launch} {g : Gt} {x1 : Int32} {x2 : Int32} {x3 : Int32} {M : Mem} {Q : Int32 → Mem → Prop} (h : w_X8_sheet x1 x2 x3 M Q) : MI l yX8_sheet cX8_sheet 5 (some .int) 1 25 g layM 12 [.ref (ga g 0), .int x1, .int x2, .int x3] M Q :=
  m_of (by decide +kernel) (Nat.le_of_ble_eq_true rfl) (fun p e s m args below meth c ls C hr hk w hl => by
    have C : Cx p s m args c cX8_sheet 5 RX8 g := C
    have hl : lv_has ls 5 [(0, .ref (ga g 0)), (1, .int x1), (2, .int x2), (3, .int x3)] := hl
    unfold w_X8_sheet at h
    obtain ⟨H, eH⟩ : ∃ H : Heap, H = s.heap := ⟨_, rfl⟩
    obtain ⟨locs, el⟩ : ∃ locs : List Loc, locs = [] := ⟨_, rfl⟩
    have w : Wd g layM 12 s.heap M H locs := by rw [eH, el]; exact w
    suffices hw : W p l e (rmOf 1 25) s m args below meth c H locs 0 0 (MQ below (va_Qi Q (PostW g layM 12) (gF g)) args s 0 0 (gF g)) (F0 m 0 ls []) by rw [eH, el] at hw; exact hw
    clear eH el
    refine lv_iload_n C.1.1 C.1.2.1 dX8_sheet_0 rfl (lv_at hl 1 rfl) ?_
    refine lv_i2l C.1.1 C.1.2.1 dX8_sheet_1 rfl ?_
    refine lv_lconst (v := 0) C.1.1 C.1.2.1 dX8_sheet_2 (by decide) ?_
    refine q_ldc2 C k_115 dX8_sheet_3 ?_
    refine q_pSi C w [.long (x1.toInt64), .long 0, .long 3] (c_X8_in  h) ks_X8_in k_95  rfl hl.1 (Nat.le_of_ble_eq_true rfl) ⟨Nat.le_of_ble_eq_true rfl, Nat.le_of_ble_eq_true rfl⟩ dX8_sheet_6 (fun r1 H locs h w => ?_)
    refine lv_if_eq (tgt := 30) C.1.1 C.1.2.1 dX8_sheet_9 (by decide) (fun hc2 => ?_) (fun hc2 => ?_)
    · replace h := h.1 hc2
      refine lv_iconst (v := (-1)) C.1.1 C.1.2.1 dX8_sheet_30 (by decide) ?_
      exact q_iret C hr hk w rfl h dX8_sheet_31
    · replace h := h.2 hc2
      refine lv_iload_n C.1.1 C.1.2.1 dX8_sheet_12 rfl (lv_at hl 2 rfl) ?_
      refine lv_i2l C.1.1 C.1.2.1 dX8_sheet_13 rfl ?_
      refine lv_lconst (v := 0) C.1.1 C.1.2.1 dX8_sheet_14 (by decide) ?_
      refine q_ldc2 C k_141 dX8_sheet_15 ?_
      refine q_pSi C w [.long (x2.toInt64), .long 0, .long 2] (c_X8_in  h) ks_X8_in k_95  rfl hl.1 (Nat.le_of_ble_eq_true rfl) ⟨Nat.le_of_ble_eq_true rfl, Nat.le_of_ble_eq_true rfl⟩ dX8_sheet_18 (fun r3 H locs h w => ?_)
      refine lv_if_eq (tgt := 30) C.1.1 C.1.2.1 dX8_sheet_21 (by decide) (fun hc4 => ?_) (fun hc4 => ?_)
      · replace h := h.1 hc4
        refine lv_iconst (v := (-1)) C.1.1 C.1.2.1 dX8_sheet_30 (by decide) ?_
        exact q_iret C hr hk w rfl h dX8_sheet_31
      · replace h := h.2 hc4
        refine lv_iload_n C.1.1 C.1.2.1 dX8_sheet_24 rfl (lv_at hl 3 rfl) ?_
        refine lv_bipush (v := 40) C.1.1 C.1.2.1 dX8_sheet_25 (by decide) ?_
        refine lv_icmp_le (tgt := 32) C.1.1 C.1.2.1 dX8_sheet_27 (by decide) (fun hc5 => ?_) (fun hc5 => ?_)
        · replace h := h.1 hc5
          refine lv_iload_n C.1.1 C.1.2.1 dX8_sheet_32 rfl (lv_at hl 3 rfl) ?_
          refine lv_if_ge (tgt := 39) C.1.1 C.1.2.1 dX8_sheet_33 (by decide) (fun hc6 => ?_) (fun hc6 => ?_)
          · replace h := h.1 hc6
            refine lv_aload_n C.1.1 C.1.2.1 dX8_sheet_39 rfl (lv_at hl 0 rfl) ?_
            refine gr_RX8_35 C w hm_0 lm_0 rfl dX8_sheet_40 ?_
            refine lv_iload_n C.1.1 C.1.2.1 dX8_sheet_43 rfl (lv_at hl 1 rfl) ?_
            refine lv_iload_n C.1.1 C.1.2.1 dX8_sheet_44 rfl (lv_at hl 2 rfl) ?_
            refine q_ias C w hm_9 lm_9 h.1 dX8_sheet_45 (fun M7 H locs eM7 w => ?_)
            replace h := h.2 M7 eM7
            refine lv_aload_n C.1.1 C.1.2.1 dX8_sheet_46 rfl (lv_at hl 0 rfl) ?_
            refine gr_RX8_38 C w hm_0 lm_0 rfl dX8_sheet_47 ?_
            refine lv_iload_n C.1.1 C.1.2.1 dX8_sheet_50 rfl (lv_at hl 1 rfl) ?_
            refine lv_iload_n C.1.1 C.1.2.1 dX8_sheet_51 rfl (lv_at hl 3 rfl) ?_
            refine q_ias C w hm_10 lm_10 h.1 dX8_sheet_52 (fun M8 H locs eM8 w => ?_)
            replace h := h.2 M8 eM8
            refine lv_iconst (v := 0) C.1.1 C.1.2.1 dX8_sheet_53 (by decide) ?_
            refine lv_istore (lv' := [(4, .int 0), (0, .ref (ga g 0)), (1, .int x1), (2, .int x2), (3, .int x3)]) C.1.1 C.1.2.1 dX8_sheet_54 hl (by decide) rfl (fun ls hl => ?_)
            obtain ⟨n, h⟩ := h
            exact l_X8_sheet_56 C hr hk   n _ _ _ _ _ h w (lv_sub hl [1, 2, 0] rfl)
          · replace h := h.2 hc6
            refine lv_bipush (v := (-14)) C.1.1 C.1.2.1 dX8_sheet_36 (by decide) ?_
            exact q_iret C hr hk w rfl h dX8_sheet_38
        · replace h := h.2 hc5
          refine lv_iconst (v := (-1)) C.1.1 C.1.2.1 dX8_sheet_30 (by decide) ?_
          exact q_iret C hr hk w rfl h dX8_sheet_31)
-- lay
set_option maxHeartbeats 4000000 in
set_option maxRecDepth 100000 in
theorem v_X8_lay_99 {t0 : Int32} {t1 : Int32} {M : Mem} {Q : Int32 → Mem → Prop} {H : Heap} {locs : List Loc} {ls : Array Slot} (C : Cx p s m args c cX8_lay 4 RX8 g) (hr : meth.sig.returnType = (some .int)) (hk : meth.locks = false)  (h : w_X8_lay_99 t0 t1 M Q) (w : Wd g layM 12 s.heap M H locs) (hl : lv_has ls 4 []) : W p l e (rmOf 1 25) s m args below meth c H locs 0 0 (MQ below (va_Qi Q (PostW g layM 12) (gF g)) args s 0 0 (gF g)) (F0 m 99 ls [.int t0, .int t1, .ref (ga g 11)]) := by
  unfold w_X8_lay_99 at h
  refine q_ias C w hm_11 lm_11 h.1 dX8_lay_99 (fun M8 H locs eM8 w => ?_)
  replace h := h.2 M8 eM8
  refine lv_iconst (v := 1) C.1.1 C.1.2.1 dX8_lay_100 (by decide) ?_
  exact q_iret C hr hk w rfl h dX8_lay_101
set_option maxHeartbeats 4000000 in
set_option maxRecDepth 100000 in
theorem c_X8_lay {l : Launch} {g : Gt} {x1 : Int32} {x2 : Int32} {x3 : Int32} {M : Mem} {Q : Int32 → Mem → Prop} (h : w_X8_lay x1 x2 x3 M Q) : MI l yX8_lay cX8_lay 4 (some .int) 1 25 g layM 12 [.ref (ga g 0), .int x1, .int x2, .int x3] M Q :=
  m_of (by decide +kernel) (Nat.le_of_ble_eq_true rfl) (fun p e s m args below meth c ls C hr hk w hl => by
    have C : Cx p s m args c cX8_lay 4 RX8 g := C
    have hl : lv_has ls 4 [(0, .ref (ga g 0)), (1, .int x1), (2, .int x2), (3, .int x3)] := hl
    unfold w_X8_lay at h
    obtain ⟨H, eH⟩ : ∃ H : Heap, H = s.heap := ⟨_, rfl⟩
    obtain ⟨locs, el⟩ : ∃ locs : List Loc, locs = [] := ⟨_, rfl⟩
    have w : Wd g layM 12 s.heap M H locs := by rw [eH, el]; exact w
    suffices hw : W p l e (rmOf 1 25) s m args below meth c H locs 0 0 (MQ below (va_Qi Q (PostW g layM 12) (gF g)) args s 0 0 (gF g)) (F0 m 0 ls []) by rw [eH, el] at hw; exact hw
    clear eH el
    refine lv_iload_n C.1.1 C.1.2.1 dX8_lay_0 rfl (lv_at hl 1 rfl) ?_
    refine lv_i2l C.1.1 C.1.2.1 dX8_lay_1 rfl ?_
    refine lv_lconst (v := 0) C.1.1 C.1.2.1 dX8_lay_2 (by decide) ?_
    refine q_ldc2 C k_115 dX8_lay_3 ?_
    refine q_pSi C w [.long (x1.toInt64), .long 0, .long 3] (c_X8_in  h) ks_X8_in k_95  rfl hl.1 (Nat.le_of_ble_eq_true rfl) ⟨Nat.le_of_ble_eq_true rfl, Nat.le_of_ble_eq_true rfl⟩ dX8_lay_6 (fun r1 H locs h w => ?_)
    refine lv_if_ne (tgt := 14) C.1.1 C.1.2.1 dX8_lay_9 (by decide) (fun hc2 => ?_) (fun hc2 => ?_)
    · replace h := h.2 hc2
      refine lv_aload_n C.1.1 C.1.2.1 dX8_lay_14 rfl (lv_at hl 0 rfl) ?_
      refine gr_RX8_35 C w hm_0 lm_0 rfl dX8_lay_15 ?_
      refine lv_iload_n C.1.1 C.1.2.1 dX8_lay_18 rfl (lv_at hl 1 rfl) ?_
      refine q_ial C w hm_9 lm_9 h.1 dX8_lay_19 ?_
      replace h := h.2
      refine lv_bipush (v := (-4)) C.1.1 C.1.2.1 dX8_lay_20 (by decide) ?_
      refine lv_icmp_ne (tgt := 28) C.1.1 C.1.2.1 dX8_lay_22 (by decide) (fun hc3 => ?_) (fun hc3 => ?_)
      · replace h := h.2 hc3
        refine lv_iload_n C.1.1 C.1.2.1 dX8_lay_28 rfl (lv_at hl 2 rfl) ?_
        refine lv_i2l C.1.1 C.1.2.1 dX8_lay_29 rfl ?_
        refine lv_lconst (v := 0) C.1.1 C.1.2.1 dX8_lay_30 (by decide) ?_
        refine lv_aload_n C.1.1 C.1.2.1 dX8_lay_31 rfl (lv_at hl 0 rfl) ?_
        refine gr_RX8_38 C w hm_0 lm_0 rfl dX8_lay_32 ?_
        refine lv_iload_n C.1.1 C.1.2.1 dX8_lay_35 rfl (lv_at hl 1 rfl) ?_
        refine q_ial C w hm_10 lm_10 h.1 dX8_lay_36 ?_
        replace h := h.2
        refine lv_iconst (v := 1) C.1.1 C.1.2.1 dX8_lay_37 (by decide) ?_
        refine lv_isub C.1.1 C.1.2.1 dX8_lay_38 ?_
        refine lv_i2l C.1.1 C.1.2.1 dX8_lay_39 rfl ?_
        refine q_pSi C w [.long (x2.toInt64), .long 0, .long (((M 10 x1.toNatClampNeg) - 1).toInt64)] (c_X8_in  h) ks_X8_in k_95  rfl hl.1 (Nat.le_of_ble_eq_true rfl) ⟨Nat.le_of_ble_eq_true rfl, Nat.le_of_ble_eq_true rfl⟩ dX8_lay_40 (fun r4 H locs h w => ?_)
        refine lv_if_ne (tgt := 49) C.1.1 C.1.2.1 dX8_lay_43 (by decide) (fun hc5 => ?_) (fun hc5 => ?_)
        · replace h := h.2 hc5
          refine lv_aload_n C.1.1 C.1.2.1 dX8_lay_49 rfl (lv_at hl 0 rfl) ?_
          refine gr_RX8_41 C w hm_0 lm_0 rfl dX8_lay_50 ?_
          refine lv_bipush (v := 40) C.1.1 C.1.2.1 dX8_lay_53 (by decide) ?_
          refine lv_iload_n C.1.1 C.1.2.1 dX8_lay_55 rfl (lv_at hl 1 rfl) ?_
          refine lv_imul C.1.1 C.1.2.1 dX8_lay_56 ?_
          refine lv_iload_n C.1.1 C.1.2.1 dX8_lay_57 rfl (lv_at hl 2 rfl) ?_
          refine lv_iadd C.1.1 C.1.2.1 dX8_lay_58 ?_
          refine lv_aload_n C.1.1 C.1.2.1 dX8_lay_59 rfl (lv_at hl 0 rfl) ?_
          refine gr_RX8_35 C w hm_0 lm_0 rfl dX8_lay_60 ?_
          refine lv_iload_n C.1.1 C.1.2.1 dX8_lay_63 rfl (lv_at hl 1 rfl) ?_
          refine q_ial C w hm_9 lm_9 h.1 dX8_lay_64 ?_
          replace h := h.2
          refine lv_if_ne (tgt := 78) C.1.1 C.1.2.1 dX8_lay_65 (by decide) (fun hc6 => ?_) (fun hc6 => ?_)
          · replace h := h.2 hc6
            refine lv_aload_n C.1.1 C.1.2.1 dX8_lay_78 rfl (lv_at hl 0 rfl) ?_
            refine gr_RX8_35 C w hm_0 lm_0 rfl dX8_lay_79 ?_
            refine lv_iload_n C.1.1 C.1.2.1 dX8_lay_82 rfl (lv_at hl 1 rfl) ?_
            refine q_ial C w hm_9 lm_9 h.1 dX8_lay_83 ?_
            replace h := h.2
            refine lv_iconst (v := 1) C.1.1 C.1.2.1 dX8_lay_84 (by decide) ?_
            have J : ∀ ls : Array Slot, lv_has ls 4 [] → W p l e (rmOf 1 25) s m args below meth c H locs 0 0 (MQ below (va_Qi Q (PostW g layM 12) (gF g)) args s 0 0 (gF g)) (F0 m 99 ls [.int (if (M 9 x1.toNatClampNeg) = 1 then (sr (sl x3 16) 16) else x3), .int ((40 * x1) + x2), .ref (ga g 11)]) := by
              intro ls hl
              exact v_X8_lay_99 C hr hk   h w (lv_sub hl [] rfl)
            refine lv_icmp_ne (tgt := 98) C.1.1 C.1.2.1 dX8_lay_85 (by decide) (fun hc7 => ?_) (fun hc7 => ?_)
            · refine lv_iload_n C.1.1 C.1.2.1 dX8_lay_98 rfl (lv_at hl 3 rfl) ?_
              simp only [if_neg hc7] at J hl
              exact J ls (lv_sub hl [] rfl)
            · refine lv_iload_n C.1.1 C.1.2.1 dX8_lay_88 rfl (lv_at hl 3 rfl) ?_
              refine lv_bipush (v := 16) C.1.1 C.1.2.1 dX8_lay_89 (by decide) ?_
              refine q_ishl C dX8_lay_91 ?_
              refine lv_bipush (v := 16) C.1.1 C.1.2.1 dX8_lay_92 (by decide) ?_
              refine q_ishr C dX8_lay_94 ?_
              refine lv_goto (tgt := 99) C.1.1 C.1.2.1 dX8_lay_95 (by decide) ?_
              simp only [if_pos hc7] at J hl
              exact J ls (lv_sub hl [] rfl)
          · replace h := h.1 hc6
            refine lv_iload_n C.1.1 C.1.2.1 dX8_lay_68 rfl (lv_at hl 3 rfl) ?_
            refine lv_bipush (v := 24) C.1.1 C.1.2.1 dX8_lay_69 (by decide) ?_
            refine q_ishl C dX8_lay_71 ?_
            refine lv_bipush (v := 24) C.1.1 C.1.2.1 dX8_lay_72 (by decide) ?_
            refine q_ishr C dX8_lay_74 ?_
            refine lv_goto (tgt := 99) C.1.1 C.1.2.1 dX8_lay_75 (by decide) ?_
            exact v_X8_lay_99 C hr hk   h w (lv_sub hl [] rfl)
        · replace h := h.1 hc5
          refine lv_bipush (v := (-12)) C.1.1 C.1.2.1 dX8_lay_46 (by decide) ?_
          exact q_iret C hr hk w rfl h dX8_lay_48
      · replace h := h.1 hc3
        refine lv_bipush (v := (-11)) C.1.1 C.1.2.1 dX8_lay_25 (by decide) ?_
        exact q_iret C hr hk w rfl h dX8_lay_27
    · replace h := h.1 hc2
      refine lv_iconst (v := (-1)) C.1.1 C.1.2.1 dX8_lay_12 (by decide) ?_
      exact q_iret C hr hk w rfl h dX8_lay_13)
-- read
set_option maxHeartbeats 4000000 in
set_option maxRecDepth 100000 in
theorem v_X8_read_218 {x5 : Int32} {x6 : Int32} {M : Mem} {Q : Int32 → Mem → Prop} {H : Heap} {locs : List Loc} {ls : Array Slot} (C : Cx p s m args c cX8_read 9 RX8 g) (hr : meth.sig.returnType = (some .int)) (hk : meth.locks = false)  (h : w_X8_read_218 x5 x6 M Q) (w : Wd g layM 12 s.heap M H locs) (hl : lv_has ls 9 [(0, .ref (ga g 0)), (5, .int x5), (6, .int x6)]) : W p l e (rmOf 4 97) s m args below meth c H locs 0 0 (MQ below (va_Qi Q (PostW g layM 12) (gF g)) args s 0 0 (gF g)) (F0 m 218 ls []) := by
  unfold w_X8_read_218 at h
  refine lv_aload_n C.1.1 C.1.2.1 dX8_read_218 rfl (lv_at hl 0 rfl) ?_
  refine lv_iload C.1.1 C.1.2.1 dX8_read_219 (lv_at hl 1 rfl) ?_
  refine pi_RX8_231 C w hm_0 lm_0 rfl dX8_read_221 (fun M10 H locs eM10 w => ?_)
  replace h := h M10 eM10
  refine lv_iload C.1.1 C.1.2.1 dX8_read_224 (lv_at hl 2 rfl) ?_
  exact q_iret C hr hk w rfl h dX8_read_226
set_option maxHeartbeats 4000000 in
set_option maxRecDepth 100000 in
theorem v_X8_read_212 {x1 : Int32} {x2 : Int32} {x3 : Int32} {x4 : Int32} {x5 : Int32} {x6 : Int32} {x7 : Int32} {M : Mem} {K56 : Int32 → Int32 → Int32 → Mem → Prop} {Q : Int32 → Mem → Prop} {H : Heap} {locs : List Loc} {ls : Array Slot} (C : Cx p s m args c cX8_read 9 RX8 g) (hr : meth.sig.returnType = (some .int)) (hk : meth.locks = false) (hK56 : ∀ (x5 : Int32) (x6 : Int32) (x7 : Int32) (M : Mem) (H : Heap) (locs : List Loc) (ls : Array Slot), K56 x5 x6 x7 M → Wd g layM 12 s.heap M H locs → lv_has ls 9 [(0, .ref (ga g 0)), (1, .int x1), (2, .int x2), (3, .int x3), (4, .int x4), (5, .int x5), (6, .int x6), (7, .int x7)] → W p l e (rmOf 4 97) s m args below meth c H locs 0 0 (MQ below (va_Qi Q (PostW g layM 12) (gF g)) args s 0 0 (gF g)) (F0 m 56 ls [])) (h : w_X8_read_212 x1 x2 x3 x4 x5 x6 x7 M K56 Q) (w : Wd g layM 12 s.heap M H locs) (hl : lv_has ls 9 [(0, .ref (ga g 0)), (1, .int x1), (2, .int x2), (3, .int x3), (4, .int x4), (5, .int x5), (6, .int x6), (7, .int x7)]) : W p l e (rmOf 4 97) s m args below meth c H locs 0 0 (MQ below (va_Qi Q (PostW g layM 12) (gF g)) args s 0 0 (gF g)) (F0 m 212 ls []) := by
  unfold w_X8_read_212 at h
  refine lv_iinc (v := x7 + 1) (lv' := [(7, .int (x7 + 1)), (0, .ref (ga g 0)), (1, .int x1), (2, .int x2), (3, .int x3), (4, .int x4), (5, .int x5), (6, .int x6)]) C.1.1 C.1.2.1 dX8_read_212 hl (k := 7) rfl rfl (by decide) rfl (fun ls hl => ?_)
  refine lv_goto (tgt := 56) C.1.1 C.1.2.1 dX8_read_215 (by decide) ?_
  exact hK56 _ _ _ _ _ _ _ h w (lv_sub hl [1, 2, 3, 4, 5, 6, 7, 0] rfl)
set_option maxHeartbeats 4000000 in
set_option maxRecDepth 100000 in
theorem v_X8_read_189 {x6 : Int32} {M : Mem} {Q : Int32 → Mem → Prop} {H : Heap} {locs : List Loc} {ls : Array Slot} (C : Cx p s m args c cX8_read 9 RX8 g) (hr : meth.sig.returnType = (some .int)) (hk : meth.locks = false)  (h : w_X8_read_189 x6 M Q) (w : Wd g layM 12 s.heap M H locs) (hl : lv_has ls 9 [(0, .ref (ga g 0)), (6, .int x6)]) : W p l e (rmOf 4 97) s m args below meth c H locs 0 0 (MQ below (va_Qi Q (PostW g layM 12) (gF g)) args s 0 0 (gF g)) (F0 m 189 ls []) := by
  unfold w_X8_read_189 at h
  refine lv_aload_n C.1.1 C.1.2.1 dX8_read_189 rfl (lv_at hl 0 rfl) ?_
  refine lv_sipush (v := 132) C.1.1 C.1.2.1 dX8_read_190 (by decide) ?_
  refine lv_iconst (v := 0) C.1.1 C.1.2.1 dX8_read_193 (by decide) ?_
  refine q_cVv C w [.int 132, .int 0] (c_X8_copies  h) kv_X8_copies k_127 (rcv C w kc_X8 hm_0 lm_0) rfl hl.1 (Nat.le_of_ble_eq_true rfl) ⟨Nat.le_of_ble_eq_true rfl, Nat.le_of_ble_eq_true rfl⟩ dX8_read_194 (fun M20 H locs h w => ?_)
  refine lv_bipush (v := (-20)) C.1.1 C.1.2.1 dX8_read_197 (by decide) ?_
  refine lv_iload C.1.1 C.1.2.1 dX8_read_199 (lv_at hl 1 rfl) ?_
  refine lv_isub C.1.1 C.1.2.1 dX8_read_201 ?_
  exact q_iret C hr hk w rfl h dX8_read_202
set_option maxHeartbeats 4000000 in
set_option maxRecDepth 100000 in
theorem v_X8_read_126 {x1 : Int32} {x2 : Int32} {x3 : Int32} {x4 : Int32} {x6 : Int32} {x7 : Int32} {t0 : Int32} {M : Mem} {K56 : Int32 → Int32 → Int32 → Mem → Prop} {Q : Int32 → Mem → Prop} {H : Heap} {locs : List Loc} {ls : Array Slot} (C : Cx p s m args c cX8_read 9 RX8 g) (hr : meth.sig.returnType = (some .int)) (hk : meth.locks = false) (hK56 : ∀ (x5 : Int32) (x6 : Int32) (x7 : Int32) (M : Mem) (H : Heap) (locs : List Loc) (ls : Array Slot), K56 x5 x6 x7 M → Wd g layM 12 s.heap M H locs → lv_has ls 9 [(0, .ref (ga g 0)), (1, .int x1), (2, .int x2), (3, .int x3), (4, .int x4), (5, .int x5), (6, .int x6), (7, .int x7)] → W p l e (rmOf 4 97) s m args below meth c H locs 0 0 (MQ below (va_Qi Q (PostW g layM 12) (gF g)) args s 0 0 (gF g)) (F0 m 56 ls [])) (h : w_X8_read_126 x1 x2 x3 x4 x6 x7 t0 M K56 Q) (w : Wd g layM 12 s.heap M H locs) (hl : lv_has ls 9 [(0, .ref (ga g 0)), (1, .int x1), (2, .int x2), (3, .int x3), (4, .int x4), (6, .int x6), (7, .int x7)]) : W p l e (rmOf 4 97) s m args below meth c H locs 0 0 (MQ below (va_Qi Q (PostW g layM 12) (gF g)) args s 0 0 (gF g)) (F0 m 126 ls [.int t0]) := by
  unfold w_X8_read_126 at h
  refine lv_istore (lv' := [(5, .int t0), (0, .ref (ga g 0)), (1, .int x1), (2, .int x2), (3, .int x3), (4, .int x4), (6, .int x6), (7, .int x7)]) C.1.1 C.1.2.1 dX8_read_126 hl (by decide) rfl (fun ls hl => ?_)
  refine lv_iload C.1.1 C.1.2.1 dX8_read_128 (lv_at hl 0 rfl) ?_
  refine lv_if_ne (tgt := 212) C.1.1 C.1.2.1 dX8_read_130 (by decide) (fun hc16 => ?_) (fun hc16 => ?_)
  · replace h := h.2 hc16
    exact v_X8_read_212 C hr hk  hK56 h w (lv_sub hl [1, 2, 3, 4, 5, 0, 6, 7] rfl)
  · replace h := h.1 hc16
    refine lv_iload C.1.1 C.1.2.1 dX8_read_133 (lv_at hl 7 rfl) ?_
    refine lv_iconst (v := 2) C.1.1 C.1.2.1 dX8_read_135 (by decide) ?_
    refine q_irem C dX8_read_136 (by decide) ?_
    refine lv_iconst (v := 1) C.1.1 C.1.2.1 dX8_read_137 (by decide) ?_
    refine lv_icmp_ne (tgt := 212) C.1.1 C.1.2.1 dX8_read_138 (by decide) (fun hc17 => ?_) (fun hc17 => ?_)
    · replace h := h.2 hc17
      exact v_X8_read_212 C hr hk  hK56 h w (lv_sub hl [1, 2, 3, 4, 5, 0, 6, 7] rfl)
    · replace h := h.1 hc17
      refine lv_bipush (v := 40) C.1.1 C.1.2.1 dX8_read_141 (by decide) ?_
      refine lv_iload_n C.1.1 C.1.2.1 dX8_read_143 rfl (lv_at hl 2 rfl) ?_
      refine lv_imul C.1.1 C.1.2.1 dX8_read_144 ?_
      refine lv_iload_n C.1.1 C.1.2.1 dX8_read_145 rfl (lv_at hl 4 rfl) ?_
      refine lv_iadd C.1.1 C.1.2.1 dX8_read_146 ?_
      refine lv_iload C.1.1 C.1.2.1 dX8_read_147 (lv_at hl 7 rfl) ?_
      refine lv_iadd C.1.1 C.1.2.1 dX8_read_149 ?_
      refine lv_istore (lv' := [(8, .int (((40 * x1) + x3) + x7)), (5, .int t0), (0, .ref (ga g 0)), (1, .int x1), (2, .int x2), (3, .int x3), (4, .int x4), (6, .int x6), (7, .int x7)]) C.1.1 C.1.2.1 dX8_read_150 hl (by decide) rfl (fun ls hl => ?_)
      refine lv_aload_n C.1.1 C.1.2.1 dX8_read_152 rfl (lv_at hl 2 rfl) ?_
      refine gr_RX8_7 C w hm_0 lm_0 rfl dX8_read_153 ?_
      refine lv_bipush (v := 42) C.1.1 C.1.2.1 dX8_read_156 (by decide) ?_
      refine q_ial C w hm_1 lm_1 h.1 dX8_read_158 ?_
      replace h := h.2
      refine lv_sipush (v := 999) C.1.1 C.1.2.1 dX8_read_159 (by decide) ?_
      refine lv_icmp_eq (tgt := 189) C.1.1 C.1.2.1 dX8_read_162 (by decide) (fun hc18 => ?_) (fun hc18 => ?_)
      · replace h := h.1 hc18
        exact v_X8_read_189 C hr hk   h w (lv_sub hl [2, 7] rfl)
      · replace h := h.2 hc18
        refine lv_aload_n C.1.1 C.1.2.1 dX8_read_165 rfl (lv_at hl 2 rfl) ?_
        refine lv_aload_n C.1.1 C.1.2.1 dX8_read_166 rfl (lv_at hl 2 rfl) ?_
        refine gr_RX8_41 C w hm_0 lm_0 rfl dX8_read_167 ?_
        refine lv_iload C.1.1 C.1.2.1 dX8_read_170 (lv_at hl 0 rfl) ?_
        refine lv_iconst (v := 1) C.1.1 C.1.2.1 dX8_read_172 (by decide) ?_
        refine lv_isub C.1.1 C.1.2.1 dX8_read_173 ?_
        refine q_ial C w hm_11 lm_11 h.1 dX8_read_174 ?_
        replace h := h.2
        refine lv_iconst (v := 1) C.1.1 C.1.2.1 dX8_read_175 (by decide) ?_
        refine lv_aload_n C.1.1 C.1.2.1 dX8_read_176 rfl (lv_at hl 2 rfl) ?_
        refine gr_RX8_41 C w hm_0 lm_0 rfl dX8_read_177 ?_
        refine lv_iload C.1.1 C.1.2.1 dX8_read_180 (lv_at hl 0 rfl) ?_
        refine q_ial C w hm_11 lm_11 h.1 dX8_read_182 ?_
        replace h := h.2
        refine q_cVi C w [.int (M 11 ((((40 * x1) + x3) + x7) - 1).toNatClampNeg), .int 1, .int (M 11 (((40 * x1) + x3) + x7).toNatClampNeg)] (c_X8_alters  h) kv_X8_alters k_120 (rcv C w kc_X8 hm_0 lm_0) rfl hl.1 (Nat.le_of_ble_eq_true rfl) ⟨Nat.le_of_ble_eq_true rfl, Nat.le_of_ble_eq_true rfl⟩ dX8_read_183 (fun r21 M22 H locs h w => ?_)
        refine lv_if_ge (tgt := 203) C.1.1 C.1.2.1 dX8_read_186 (by decide) (fun hc23 => ?_) (fun hc23 => ?_)
        · replace h := h.1 hc23
          refine lv_aload_n C.1.1 C.1.2.1 dX8_read_203 rfl (lv_at hl 2 rfl) ?_
          refine lv_iconst (v := 0) C.1.1 C.1.2.1 dX8_read_204 (by decide) ?_
          refine lv_iconst (v := 0) C.1.1 C.1.2.1 dX8_read_205 (by decide) ?_
          refine q_cVv C w [.int 0, .int 0] (c_X8_nightOn  h) kv_X8_nightOn k_126 (rcv C w kc_X8 hm_0 lm_0) rfl hl.1 (Nat.le_of_ble_eq_true rfl) ⟨Nat.le_of_ble_eq_true rfl, Nat.le_of_ble_eq_true rfl⟩ dX8_read_206 (fun M25 H locs h w => ?_)
          refine lv_iinc (v := x6 + 1) (lv' := [(6, .int (x6 + 1)), (8, .int (((40 * x1) + x3) + x7)), (5, .int t0), (0, .ref (ga g 0)), (1, .int x1), (2, .int x2), (3, .int x3), (4, .int x4), (7, .int x7)]) C.1.1 C.1.2.1 dX8_read_209 hl (k := 7) rfl rfl (by decide) rfl (fun ls hl => ?_)
          exact v_X8_read_212 C hr hk  hK56 h w (lv_sub hl [3, 4, 5, 6, 7, 2, 0, 8] rfl)
        · replace h := h.2 hc23
          exact v_X8_read_189 C hr hk   h w (lv_sub hl [2, 7] rfl)
set_option maxHeartbeats 4000000 in
set_option maxRecDepth 100000 in
theorem v_X8_read_56 {x1 : Int32} {x2 : Int32} {x3 : Int32} {x4 : Int32} {x5 : Int32} {x6 : Int32} {x7 : Int32} {M : Mem} {K56 : Int32 → Int32 → Int32 → Mem → Prop} {Q : Int32 → Mem → Prop} {H : Heap} {locs : List Loc} {ls : Array Slot} (C : Cx p s m args c cX8_read 9 RX8 g) (hr : meth.sig.returnType = (some .int)) (hk : meth.locks = false) (hK56 : ∀ (x5 : Int32) (x6 : Int32) (x7 : Int32) (M : Mem) (H : Heap) (locs : List Loc) (ls : Array Slot), K56 x5 x6 x7 M → Wd g layM 12 s.heap M H locs → lv_has ls 9 [(0, .ref (ga g 0)), (1, .int x1), (2, .int x2), (3, .int x3), (4, .int x4), (5, .int x5), (6, .int x6), (7, .int x7)] → W p l e (rmOf 4 97) s m args below meth c H locs 0 0 (MQ below (va_Qi Q (PostW g layM 12) (gF g)) args s 0 0 (gF g)) (F0 m 56 ls [])) (h : w_X8_read_56 x1 x2 x3 x4 Q K56 x5 x6 x7 M) (w : Wd g layM 12 s.heap M H locs) (hl : lv_has ls 9 [(0, .ref (ga g 0)), (1, .int x1), (2, .int x2), (3, .int x3), (4, .int x4), (5, .int x5), (6, .int x6), (7, .int x7)]) : W p l e (rmOf 4 97) s m args below meth c H locs 0 0 (MQ below (va_Qi Q (PostW g layM 12) (gF g)) args s 0 0 (gF g)) (F0 m 56 ls []) := by
  unfold w_X8_read_56 at h
  refine lv_iload C.1.1 C.1.2.1 dX8_read_56 (lv_at hl 7 rfl) ?_
  refine lv_iconst (v := 2) C.1.1 C.1.2.1 dX8_read_58 (by decide) ?_
  refine lv_iload C.1.1 C.1.2.1 dX8_read_59 (lv_at hl 4 rfl) ?_
  refine lv_imul C.1.1 C.1.2.1 dX8_read_61 ?_
  refine lv_icmp_ge (tgt := 218) C.1.1 C.1.2.1 dX8_read_62 (by decide) (fun hc9 => ?_) (fun hc9 => ?_)
  · replace h := h.1 hc9
    exact v_X8_read_218 C hr hk   h w (lv_sub hl [0, 5, 6] rfl)
  · replace h := h.2 hc9
    refine lv_iload C.1.1 C.1.2.1 dX8_read_65 (lv_at hl 5 rfl) ?_
    refine lv_if_ne (tgt := 218) C.1.1 C.1.2.1 dX8_read_67 (by decide) (fun hc11 => ?_) (fun hc11 => ?_)
    · replace h := h.2 hc11
      exact v_X8_read_218 C hr hk   h w (lv_sub hl [0, 5, 6] rfl)
    · replace h := h.1 hc11
      refine lv_aload_n C.1.1 C.1.2.1 dX8_read_70 rfl (lv_at hl 0 rfl) ?_
      refine gr_RX8_35 C w hm_0 lm_0 rfl dX8_read_71 ?_
      refine lv_iload_n C.1.1 C.1.2.1 dX8_read_74 rfl (lv_at hl 1 rfl) ?_
      refine q_ial C w hm_9 lm_9 h.1 dX8_read_75 ?_
      replace h := h.2
      refine lv_bipush (v := (-4)) C.1.1 C.1.2.1 dX8_read_76 (by decide) ?_
      refine lv_icmp_ne (tgt := 85) C.1.1 C.1.2.1 dX8_read_78 (by decide) (fun hc12 => ?_) (fun hc12 => ?_)
      · replace h := h.2 hc12
        refine lv_aload_n C.1.1 C.1.2.1 dX8_read_85 rfl (lv_at hl 0 rfl) ?_
        refine gr_RX8_35 C w hm_0 lm_0 rfl dX8_read_86 ?_
        refine lv_iload_n C.1.1 C.1.2.1 dX8_read_89 rfl (lv_at hl 1 rfl) ?_
        refine q_ial C w hm_9 lm_9 h.1 dX8_read_90 ?_
        replace h := h.2
        refine lv_iload_n C.1.1 C.1.2.1 dX8_read_91 rfl (lv_at hl 2 rfl) ?_
        refine lv_icmp_eq (tgt := 99) C.1.1 C.1.2.1 dX8_read_92 (by decide) (fun hc13 => ?_) (fun hc13 => ?_)
        · replace h := h.1 hc13
          refine lv_iload_n C.1.1 C.1.2.1 dX8_read_99 rfl (lv_at hl 3 rfl) ?_
          refine lv_i2l C.1.1 C.1.2.1 dX8_read_100 rfl ?_
          refine lv_iload C.1.1 C.1.2.1 dX8_read_101 (lv_at hl 7 rfl) ?_
          refine lv_i2l C.1.1 C.1.2.1 dX8_read_103 rfl ?_
          refine lv_ladd C.1.1 C.1.2.1 dX8_read_104 ?_
          refine lv_lconst (v := 0) C.1.1 C.1.2.1 dX8_read_105 (by decide) ?_
          refine lv_aload_n C.1.1 C.1.2.1 dX8_read_106 rfl (lv_at hl 0 rfl) ?_
          refine gr_RX8_38 C w hm_0 lm_0 rfl dX8_read_107 ?_
          refine lv_iload_n C.1.1 C.1.2.1 dX8_read_110 rfl (lv_at hl 1 rfl) ?_
          refine q_ial C w hm_10 lm_10 h.1 dX8_read_111 ?_
          replace h := h.2
          refine lv_iconst (v := 1) C.1.1 C.1.2.1 dX8_read_112 (by decide) ?_
          refine lv_isub C.1.1 C.1.2.1 dX8_read_113 ?_
          refine lv_i2l C.1.1 C.1.2.1 dX8_read_114 rfl ?_
          refine q_pSi C w [.long ((x3.toInt64) + (x7.toInt64)), .long 0, .long (((M 10 x1.toNatClampNeg) - 1).toInt64)] (c_X8_in  h) ks_X8_in k_95  rfl hl.1 (Nat.le_of_ble_eq_true rfl) ⟨Nat.le_of_ble_eq_true rfl, Nat.le_of_ble_eq_true rfl⟩ dX8_read_115 (fun r14 H locs h w => ?_)
          have J : ∀ ls : Array Slot, lv_has ls 9 [(0, .ref (ga g 0)), (1, .int x1), (2, .int x2), (3, .int x3), (4, .int x4), (6, .int x6), (7, .int x7)] → W p l e (rmOf 4 97) s m args below meth c H locs 0 0 (MQ below (va_Qi Q (PostW g layM 12) (gF g)) args s 0 0 (gF g)) (F0 m 126 ls [.int (if r14 = 0 then (2 : Int32) else 0)]) := by
            intro ls hl
            exact v_X8_read_126 C hr hk  hK56 h w (lv_sub hl [0, 1, 2, 3, 4, 5, 6] rfl)
          refine lv_if_ne (tgt := 125) C.1.1 C.1.2.1 dX8_read_118 (by decide) (fun hc15 => ?_) (fun hc15 => ?_)
          · refine lv_iconst (v := 0) C.1.1 C.1.2.1 dX8_read_125 (by decide) ?_
            simp only [if_neg hc15] at J hl
            exact J ls (lv_sub hl [0, 1, 2, 3, 4, 6, 7] rfl)
          · refine lv_iconst (v := 2) C.1.1 C.1.2.1 dX8_read_121 (by decide) ?_
            refine lv_goto (tgt := 126) C.1.1 C.1.2.1 dX8_read_122 (by decide) ?_
            simp only [if_pos hc15] at J hl
            exact J ls (lv_sub hl [0, 1, 2, 3, 4, 6, 7] rfl)
        · replace h := h.2 hc13
          refine lv_iconst (v := 3) C.1.1 C.1.2.1 dX8_read_95 (by decide) ?_
          refine lv_goto (tgt := 126) C.1.1 C.1.2.1 dX8_read_96 (by decide) ?_
          exact v_X8_read_126 C hr hk  hK56 h w (lv_sub hl [0, 1, 2, 3, 4, 6, 7] rfl)
      · replace h := h.1 hc12
        refine lv_iconst (v := 1) C.1.1 C.1.2.1 dX8_read_81 (by decide) ?_
        refine lv_goto (tgt := 126) C.1.1 C.1.2.1 dX8_read_82 (by decide) ?_
        exact v_X8_read_126 C hr hk  hK56 h w (lv_sub hl [0, 1, 2, 3, 4, 6, 7] rfl)
set_option maxHeartbeats 4000000 in
set_option maxRecDepth 100000 in
theorem l_X8_read_56 {x1 : Int32} {x2 : Int32} {x3 : Int32} {x4 : Int32} {Q : Int32 → Mem → Prop} (C : Cx p s m args c cX8_read 9 RX8 g) (hr : meth.sig.returnType = (some .int)) (hk : meth.locks = false)  : ∀ (n : Nat) (x5 : Int32) (x6 : Int32) (x7 : Int32) (M : Mem) (H : Heap) (locs : List Loc) (ls : Array Slot), fu4 (w_X8_read_56 x1 x2 x3 x4 Q) n x5 x6 x7 M → Wd g layM 12 s.heap M H locs → lv_has ls 9 [(0, .ref (ga g 0)), (1, .int x1), (2, .int x2), (3, .int x3), (4, .int x4), (5, .int x5), (6, .int x6), (7, .int x7)] → W p l e (rmOf 4 97) s m args below meth c H locs 0 0 (MQ below (va_Qi Q (PostW g layM 12) (gF g)) args s 0 0 (gF g)) (F0 m 56 ls []) := by
  intro n
  induction n with
  | zero => intro x5 x6 x7 M H locs ls h; exact h.elim
  | succ n ih => intro x5 x6 x7 M H locs ls h w hl; exact v_X8_read_56 C hr hk   ih h w hl
set_option maxHeartbeats 4000000 in
set_option maxRecDepth 100000 in
theorem c_X8_read {l : Launch} {g : Gt} {x1 : Int32} {x2 : Int32} {x3 : Int32} {x4 : Int32} {M : Mem} {Q : Int32 → Mem → Prop} (h : w_X8_read x1 x2 x3 x4 M Q) : MI l yX8_read cX8_read 9 (some .int) 4 97 g layM 12 [.ref (ga g 0), .int x1, .int x2, .int x3, .int x4] M Q :=
  m_of (by decide +kernel) (Nat.le_of_ble_eq_true rfl) (fun p e s m args below meth c ls C hr hk w hl => by
    have C : Cx p s m args c cX8_read 9 RX8 g := C
    have hl : lv_has ls 9 [(0, .ref (ga g 0)), (1, .int x1), (2, .int x2), (3, .int x3), (4, .int x4)] := hl
    unfold w_X8_read at h
    obtain ⟨H, eH⟩ : ∃ H : Heap, H = s.heap := ⟨_, rfl⟩
    obtain ⟨locs, el⟩ : ∃ locs : List Loc, locs = [] := ⟨_, rfl⟩
    have w : Wd g layM 12 s.heap M H locs := by rw [eH, el]; exact w
    suffices hw : W p l e (rmOf 4 97) s m args below meth c H locs 0 0 (MQ below (va_Qi Q (PostW g layM 12) (gF g)) args s 0 0 (gF g)) (F0 m 0 ls []) by rw [eH, el] at hw; exact hw
    clear eH el
    refine lv_iload_n C.1.1 C.1.2.1 dX8_read_0 rfl (lv_at hl 1 rfl) ?_
    refine lv_i2l C.1.1 C.1.2.1 dX8_read_1 rfl ?_
    refine lv_lconst (v := 0) C.1.1 C.1.2.1 dX8_read_2 (by decide) ?_
    refine q_ldc2 C k_115 dX8_read_3 ?_
    refine q_pSi C w [.long (x1.toInt64), .long 0, .long 3] (c_X8_in  h) ks_X8_in k_95  rfl hl.1 (Nat.le_of_ble_eq_true rfl) ⟨Nat.le_of_ble_eq_true rfl, Nat.le_of_ble_eq_true rfl⟩ dX8_read_6 (fun r1 H locs h w => ?_)
    refine lv_if_eq (tgt := 37) C.1.1 C.1.2.1 dX8_read_9 (by decide) (fun hc2 => ?_) (fun hc2 => ?_)
    · replace h := h.1 hc2
      refine lv_iconst (v := (-1)) C.1.1 C.1.2.1 dX8_read_37 (by decide) ?_
      exact q_iret C hr hk w rfl h dX8_read_38
    · replace h := h.2 hc2
      refine lv_iload_n C.1.1 C.1.2.1 dX8_read_12 rfl (lv_at hl 2 rfl) ?_
      refine lv_i2l C.1.1 C.1.2.1 dX8_read_13 rfl ?_
      refine lv_lconst (v := 0) C.1.1 C.1.2.1 dX8_read_14 (by decide) ?_
      refine q_ldc2 C k_141 dX8_read_15 ?_
      refine q_pSi C w [.long (x2.toInt64), .long 0, .long 2] (c_X8_in  h) ks_X8_in k_95  rfl hl.1 (Nat.le_of_ble_eq_true rfl) ⟨Nat.le_of_ble_eq_true rfl, Nat.le_of_ble_eq_true rfl⟩ dX8_read_18 (fun r3 H locs h w => ?_)
      refine lv_if_eq (tgt := 37) C.1.1 C.1.2.1 dX8_read_21 (by decide) (fun hc4 => ?_) (fun hc4 => ?_)
      · replace h := h.1 hc4
        refine lv_iconst (v := (-1)) C.1.1 C.1.2.1 dX8_read_37 (by decide) ?_
        exact q_iret C hr hk w rfl h dX8_read_38
      · replace h := h.2 hc4
        refine lv_iload C.1.1 C.1.2.1 dX8_read_24 (lv_at hl 4 rfl) ?_
        refine lv_i2l C.1.1 C.1.2.1 dX8_read_26 rfl ?_
        refine lv_lconst (v := 0) C.1.1 C.1.2.1 dX8_read_27 (by decide) ?_
        refine q_ldc2 C k_136 dX8_read_28 ?_
        refine q_pSi C w [.long (x4.toInt64), .long 0, .long 20] (c_X8_in  h) ks_X8_in k_95  rfl hl.1 (Nat.le_of_ble_eq_true rfl) ⟨Nat.le_of_ble_eq_true rfl, Nat.le_of_ble_eq_true rfl⟩ dX8_read_31 (fun r5 H locs h w => ?_)
        refine lv_if_ne (tgt := 39) C.1.1 C.1.2.1 dX8_read_34 (by decide) (fun hc6 => ?_) (fun hc6 => ?_)
        · replace h := h.2 hc6
          refine lv_aload_n C.1.1 C.1.2.1 dX8_read_39 rfl (lv_at hl 0 rfl) ?_
          refine lv_iconst (v := 0) C.1.1 C.1.2.1 dX8_read_40 (by decide) ?_
          refine lv_sipush (v := 132) C.1.1 C.1.2.1 dX8_read_41 (by decide) ?_
          refine q_cVv C w [.int 0, .int 132] (c_X8_copies  h) kv_X8_copies k_127 (rcv C w kc_X8 hm_0 lm_0) rfl hl.1 (Nat.le_of_ble_eq_true rfl) ⟨Nat.le_of_ble_eq_true rfl, Nat.le_of_ble_eq_true rfl⟩ dX8_read_44 (fun M8 H locs h w => ?_)
          refine lv_iconst (v := 0) C.1.1 C.1.2.1 dX8_read_47 (by decide) ?_
          refine lv_istore (lv' := [(5, .int 0), (0, .ref (ga g 0)), (1, .int x1), (2, .int x2), (3, .int x3), (4, .int x4)]) C.1.1 C.1.2.1 dX8_read_48 hl (by decide) rfl (fun ls hl => ?_)
          refine lv_iconst (v := 0) C.1.1 C.1.2.1 dX8_read_50 (by decide) ?_
          refine lv_istore (lv' := [(6, .int 0), (5, .int 0), (0, .ref (ga g 0)), (1, .int x1), (2, .int x2), (3, .int x3), (4, .int x4)]) C.1.1 C.1.2.1 dX8_read_51 hl (by decide) rfl (fun ls hl => ?_)
          refine lv_iconst (v := 0) C.1.1 C.1.2.1 dX8_read_53 (by decide) ?_
          refine lv_istore (lv' := [(7, .int 0), (6, .int 0), (5, .int 0), (0, .ref (ga g 0)), (1, .int x1), (2, .int x2), (3, .int x3), (4, .int x4)]) C.1.1 C.1.2.1 dX8_read_54 hl (by decide) rfl (fun ls hl => ?_)
          obtain ⟨n, h⟩ := h
          exact l_X8_read_56 C hr hk   n _ _ _ _ _ _ _ h w (lv_sub hl [3, 4, 5, 6, 7, 2, 1, 0] rfl)
        · replace h := h.1 hc6
          refine lv_iconst (v := (-1)) C.1.1 C.1.2.1 dX8_read_37 (by decide) ?_
          exact q_iret C hr hk w rfl h dX8_read_38)
-- torn
set_option maxHeartbeats 4000000 in
set_option maxRecDepth 100000 in
theorem c_X8_torn {l : Launch} {g : Gt} {M : Mem} {Q : Int32 → Prop} (h : w_X8_torn M Q) : MI l yX8_torn cX8_torn 1 (some .int) 0 0 g layM 12 [.ref (ga g 0)] M (fun r M9 => M9 = M ∧ Q r) :=
  m_of (by decide +kernel) (Nat.le_of_ble_eq_true rfl) (fun p e s m args below meth c ls C hr hk w hl => by
    have C : Cx p s m args c cX8_torn 1 RX8 g := C
    have hl : lv_has ls 1 [(0, .ref (ga g 0))] := hl
    unfold w_X8_torn at h
    obtain ⟨H, eH⟩ : ∃ H : Heap, H = s.heap := ⟨_, rfl⟩
    obtain ⟨locs, el⟩ : ∃ locs : List Loc, locs = [] := ⟨_, rfl⟩
    have w : Wd g layM 12 s.heap M H locs := by rw [eH, el]; exact w
    suffices hw : W p l e (rmOf 0 0) s m args below meth c H locs 0 0 (MQ below (va_Qi (fun r M9 => M9 = M ∧ Q r) (PostW g layM 12) (gF g)) args s 0 0 (gF g)) (F0 m 0 ls []) by rw [eH, el] at hw; exact hw
    clear eH el
    refine lv_aload_n C.1.1 C.1.2.1 dX8_torn_0 rfl (lv_at hl 0 rfl) ?_
    refine gi_RX8_231 C w hm_0 lm_0 rfl dX8_torn_1 ?_
    exact q_iret C hr hk w rfl ⟨rfl, h⟩ dX8_torn_4)
-- count
set_option maxHeartbeats 4000000 in
set_option maxRecDepth 100000 in
theorem v_X8_count_69 {x1 : Int32} {x2 : Int32} {x3 : Int32} {M : Mem} {Q : Int32 → Prop} {H : Heap} {locs : List Loc} {ls : Array Slot} (C : Cx p s m args c cX8_count 5 RX8 g) (hr : meth.sig.returnType = (some .int)) (hk : meth.locks = false)  (h : w_X8_count_69 x1 x2 x3 M Q) (w : Wd g layM 12 s.heap M H locs) (hl : lv_has ls 5 [(0, .ref (ga g 0)), (1, .int x1), (2, .int x2), (3, .int x3)]) : W p l e (rmOf 0 0) s m args below meth c H locs 0 0 (MQ below (va_Qi (fun r M9 => M9 = M ∧ Q r) (PostW g layM 12) (gF g)) args s 0 0 (gF g)) (F0 m 69 ls []) := by
  unfold w_X8_count_69 at h
  refine lv_iload_n C.1.1 C.1.2.1 dX8_count_69 rfl (lv_at hl 1 rfl) ?_
  by_cases hc3 : x1 = 0
  · replace h := h.1 hc3
    refine q_tin C (off := 38) (tgt := 108) dX8_count_70 hc3 (by decide) (by decide) (by decide) (by decide) ?_
    refine lv_aload_n C.1.1 C.1.2.1 dX8_count_108 rfl (lv_at hl 0 rfl) ?_
    refine gi_RX8_119 C w hm_0 lm_0 rfl dX8_count_109 ?_
    exact q_iret C hr hk w rfl ⟨rfl, h⟩ dX8_count_112
  replace h := h.2 hc3
  by_cases hc4 : x1 = 1
  · replace h := h.1 hc4
    refine q_tin C (off := 43) (tgt := 113) dX8_count_70 hc4 (by decide) (by decide) (by decide) (by decide) ?_
    refine lv_aload_n C.1.1 C.1.2.1 dX8_count_113 rfl (lv_at hl 0 rfl) ?_
    refine gr_RX8_31 C w hm_0 lm_0 rfl dX8_count_114 ?_
    refine lv_iconst (v := 0) C.1.1 C.1.2.1 dX8_count_117 (by decide) ?_
    refine q_zal C w hm_8 lm_8 h.1 dX8_count_118 ?_
    replace h := h.2
    have J : ∀ ls : Array Slot, lv_has ls 5 [(0, .ref (ga g 0))] → W p l e (rmOf 0 0) s m args below meth c H locs 0 0 (MQ below (va_Qi (fun r M9 => M9 = M ∧ Q r) (PostW g layM 12) (gF g)) args s 0 0 (gF g)) (F0 m 127 ls [.int (if (M 8 (0 : Int32).toNatClampNeg) = 0 then (0 : Int32) else 1)]) := by
      intro ls hl
      refine lv_aload_n C.1.1 C.1.2.1 dX8_count_127 rfl (lv_at hl 0 rfl) ?_
      refine gr_RX8_31 C w hm_0 lm_0 rfl dX8_count_128 ?_
      refine lv_iconst (v := 1) C.1.1 C.1.2.1 dX8_count_131 (by decide) ?_
      refine q_zal C w hm_8 lm_8 h.1 dX8_count_132 ?_
      replace h := h.2
      have J : ∀ ls : Array Slot, lv_has ls 5 [] → W p l e (rmOf 0 0) s m args below meth c H locs 0 0 (MQ below (va_Qi (fun r M9 => M9 = M ∧ Q r) (PostW g layM 12) (gF g)) args s 0 0 (gF g)) (F0 m 141 ls [.int (if (M 8 (1 : Int32).toNatClampNeg) = 0 then (0 : Int32) else 1), .int (if (M 8 (0 : Int32).toNatClampNeg) = 0 then (0 : Int32) else 1)]) := by
        intro ls hl
        refine lv_iadd C.1.1 C.1.2.1 dX8_count_141 ?_
        exact q_iret C hr hk w rfl ⟨rfl, h⟩ dX8_count_142
      refine lv_if_eq (tgt := 140) C.1.1 C.1.2.1 dX8_count_133 (by decide) (fun hc6 => ?_) (fun hc6 => ?_)
      · refine lv_iconst (v := 0) C.1.1 C.1.2.1 dX8_count_140 (by decide) ?_
        simp only [if_pos hc6] at J hl ⊢
        exact J ls (lv_sub hl [] rfl)
      · refine lv_iconst (v := 1) C.1.1 C.1.2.1 dX8_count_136 (by decide) ?_
        refine lv_goto (tgt := 141) C.1.1 C.1.2.1 dX8_count_137 (by decide) ?_
        simp only [if_neg hc6] at J hl ⊢
        exact J ls (lv_sub hl [] rfl)
    refine lv_if_eq (tgt := 126) C.1.1 C.1.2.1 dX8_count_119 (by decide) (fun hc5 => ?_) (fun hc5 => ?_)
    · refine lv_iconst (v := 0) C.1.1 C.1.2.1 dX8_count_126 (by decide) ?_
      simp only [if_pos hc5] at J hl
      exact J ls (lv_sub hl [0] rfl)
    · refine lv_iconst (v := 1) C.1.1 C.1.2.1 dX8_count_122 (by decide) ?_
      refine lv_goto (tgt := 127) C.1.1 C.1.2.1 dX8_count_123 (by decide) ?_
      simp only [if_neg hc5] at J hl
      exact J ls (lv_sub hl [0] rfl)
  replace h := h.2 hc4
  by_cases hc7 : x1 = 2
  · replace h := h.1 hc7
    refine q_tin C (off := 73) (tgt := 143) dX8_count_70 hc7 (by decide) (by decide) (by decide) (by decide) ?_
    refine lv_aload_n C.1.1 C.1.2.1 dX8_count_143 rfl (lv_at hl 0 rfl) ?_
    refine gi_RX8_50 C w hm_0 lm_0 rfl dX8_count_144 ?_
    exact q_iret C hr hk w rfl ⟨rfl, h⟩ dX8_count_147
  replace h := h.2 hc7
  by_cases hc8 : x1 = 3
  · replace h := h.1 hc8
    refine q_tin C (off := 78) (tgt := 148) dX8_count_70 hc8 (by decide) (by decide) (by decide) (by decide) ?_
    refine lv_aload_n C.1.1 C.1.2.1 dX8_count_148 rfl (lv_at hl 0 rfl) ?_
    refine gr_RX8_35 C w hm_0 lm_0 rfl dX8_count_149 ?_
    refine lv_iconst (v := 0) C.1.1 C.1.2.1 dX8_count_152 (by decide) ?_
    refine q_ial C w hm_9 lm_9 h.1 dX8_count_153 ?_
    replace h := h.2
    refine lv_bipush (v := (-4)) C.1.1 C.1.2.1 dX8_count_154 (by decide) ?_
    refine lv_icmp_ne (tgt := 164) C.1.1 C.1.2.1 dX8_count_156 (by decide) (fun hc9 => ?_) (fun hc9 => ?_)
    · replace h := h.2 hc9
      refine lv_aload_n C.1.1 C.1.2.1 dX8_count_164 rfl (lv_at hl 0 rfl) ?_
      refine gr_RX8_38 C w hm_0 lm_0 rfl dX8_count_165 ?_
      refine lv_iconst (v := 0) C.1.1 C.1.2.1 dX8_count_168 (by decide) ?_
      refine q_ial C w hm_10 lm_10 h.1 dX8_count_169 ?_
      replace h := h.2
      exact q_iret C hr hk w rfl ⟨rfl, h⟩ dX8_count_170
    · replace h := h.1 hc9
      refine lv_bipush (v := (-4)) C.1.1 C.1.2.1 dX8_count_159 (by decide) ?_
      refine lv_goto (tgt := 170) C.1.1 C.1.2.1 dX8_count_161 (by decide) ?_
      exact q_iret C hr hk w rfl ⟨rfl, h⟩ dX8_count_170
  replace h := h.2 hc8
  by_cases hc10 : x1 = 4
  · replace h := h.1 hc10
    refine q_tin C (off := 101) (tgt := 171) dX8_count_70 hc10 (by decide) (by decide) (by decide) (by decide) ?_
    refine lv_iload_n C.1.1 C.1.2.1 dX8_count_171 rfl (lv_at hl 2 rfl) ?_
    exact q_iret C hr hk w rfl ⟨rfl, h⟩ dX8_count_172
  replace h := h.2 hc10
  by_cases hc11 : x1 = 5
  · replace h := h.1 hc11
    refine q_tin C (off := 103) (tgt := 173) dX8_count_70 hc11 (by decide) (by decide) (by decide) (by decide) ?_
    refine lv_iload_n C.1.1 C.1.2.1 dX8_count_173 rfl (lv_at hl 3 rfl) ?_
    exact q_iret C hr hk w rfl ⟨rfl, h⟩ dX8_count_174
  replace h := h.2 hc11
  have nhc3 : ¬ x1.toInt = 0 := lv_neT hc3 (by decide)
  have nhc4 : ¬ x1.toInt = 1 := lv_neT hc4 (by decide)
  have nhc7 : ¬ x1.toInt = 2 := lv_neT hc7 (by decide)
  have nhc8 : ¬ x1.toInt = 3 := lv_neT hc8 (by decide)
  have nhc10 : ¬ x1.toInt = 4 := lv_neT hc10 (by decide)
  have nhc11 : ¬ x1.toInt = 5 := lv_neT hc11 (by decide)
  refine q_tout C (tgt := 175) dX8_count_70 (by omega) (by decide) ?_
  refine lv_iconst (v := (-1)) C.1.1 C.1.2.1 dX8_count_175 (by decide) ?_
  exact q_iret C hr hk w rfl ⟨rfl, h⟩ dX8_count_176
set_option maxHeartbeats 4000000 in
set_option maxRecDepth 100000 in
theorem v_X8_count_38 {x1 : Int32} {x2 : Int32} {x3 : Int32} {x4 : Int32} {M : Mem} {K38 : Int32 → Int32 → Prop} {Q : Int32 → Prop} {H : Heap} {locs : List Loc} {ls : Array Slot} (C : Cx p s m args c cX8_count 5 RX8 g) (hr : meth.sig.returnType = (some .int)) (hk : meth.locks = false) (hK38 : ∀ (x3 : Int32) (x4 : Int32) (H : Heap) (locs : List Loc) (ls : Array Slot), K38 x3 x4 → Wd g layM 12 s.heap M H locs → lv_has ls 5 [(0, .ref (ga g 0)), (1, .int x1), (2, .int x2), (3, .int x3), (4, .int x4)] → W p l e (rmOf 0 0) s m args below meth c H locs 0 0 (MQ below (va_Qi (fun r M9 => M9 = M ∧ Q r) (PostW g layM 12) (gF g)) args s 0 0 (gF g)) (F0 m 38 ls [])) (h : w_X8_count_38 x1 x2 M Q K38 x3 x4) (w : Wd g layM 12 s.heap M H locs) (hl : lv_has ls 5 [(0, .ref (ga g 0)), (1, .int x1), (2, .int x2), (3, .int x3), (4, .int x4)]) : W p l e (rmOf 0 0) s m args below meth c H locs 0 0 (MQ below (va_Qi (fun r M9 => M9 = M ∧ Q r) (PostW g layM 12) (gF g)) args s 0 0 (gF g)) (F0 m 38 ls []) := by
  unfold w_X8_count_38 at h
  refine lv_iload C.1.1 C.1.2.1 dX8_count_38 (lv_at hl 4 rfl) ?_
  refine lv_aload_n C.1.1 C.1.2.1 dX8_count_40 rfl (lv_at hl 0 rfl) ?_
  refine gr_RX8_7 C w hm_0 lm_0 rfl dX8_count_41 ?_
  refine lv_bipush (v := 41) C.1.1 C.1.2.1 dX8_count_44 (by decide) ?_
  refine q_ial C w hm_1 lm_1 h.1 dX8_count_46 ?_
  replace h := h.2
  refine lv_icmp_ge (tgt := 69) C.1.1 C.1.2.1 dX8_count_47 (by decide) (fun hc2 => ?_) (fun hc2 => ?_)
  · replace h := h.1 hc2
    exact v_X8_count_69 C hr hk   h w (lv_sub hl [0, 1, 2, 3] rfl)
  · replace h := h.2 hc2
    refine lv_iload_n C.1.1 C.1.2.1 dX8_count_50 rfl (lv_at hl 3 rfl) ?_
    refine lv_aload_n C.1.1 C.1.2.1 dX8_count_51 rfl (lv_at hl 0 rfl) ?_
    refine gr_RX8_7 C w hm_0 lm_0 rfl dX8_count_52 ?_
    refine lv_bipush (v := 38) C.1.1 C.1.2.1 dX8_count_55 (by decide) ?_
    refine lv_iload C.1.1 C.1.2.1 dX8_count_57 (lv_at hl 4 rfl) ?_
    refine lv_iadd C.1.1 C.1.2.1 dX8_count_59 ?_
    refine q_ial C w hm_1 lm_1 h.1 dX8_count_60 ?_
    replace h := h.2
    refine lv_iadd C.1.1 C.1.2.1 dX8_count_61 ?_
    refine lv_istore_n (lv' := [(3, .int (x3 + (M 1 (38 + x4).toNatClampNeg))), (0, .ref (ga g 0)), (1, .int x1), (2, .int x2), (4, .int x4)]) C.1.1 C.1.2.1 dX8_count_62 rfl hl (by decide) rfl (fun ls hl => ?_)
    refine lv_iinc (v := x4 + 1) (lv' := [(4, .int (x4 + 1)), (3, .int (x3 + (M 1 (38 + x4).toNatClampNeg))), (0, .ref (ga g 0)), (1, .int x1), (2, .int x2)]) C.1.1 C.1.2.1 dX8_count_63 hl (k := 4) rfl rfl (by decide) rfl (fun ls hl => ?_)
    refine lv_goto (tgt := 38) C.1.1 C.1.2.1 dX8_count_66 (by decide) ?_
    exact hK38 _ _ _ _ _ h w (lv_sub hl [2, 3, 4, 1, 0] rfl)
set_option maxHeartbeats 4000000 in
set_option maxRecDepth 100000 in
theorem l_X8_count_38 {x1 : Int32} {x2 : Int32} {M : Mem} {Q : Int32 → Prop} (C : Cx p s m args c cX8_count 5 RX8 g) (hr : meth.sig.returnType = (some .int)) (hk : meth.locks = false)  : ∀ (n : Nat) (x3 : Int32) (x4 : Int32) (H : Heap) (locs : List Loc) (ls : Array Slot), fu2 (w_X8_count_38 x1 x2 M Q) n x3 x4 → Wd g layM 12 s.heap M H locs → lv_has ls 5 [(0, .ref (ga g 0)), (1, .int x1), (2, .int x2), (3, .int x3), (4, .int x4)] → W p l e (rmOf 0 0) s m args below meth c H locs 0 0 (MQ below (va_Qi (fun r M9 => M9 = M ∧ Q r) (PostW g layM 12) (gF g)) args s 0 0 (gF g)) (F0 m 38 ls []) := by
  intro n
  induction n with
  | zero => intro x3 x4 H locs ls h; exact h.elim
  | succ n ih => intro x3 x4 H locs ls h w hl; exact v_X8_count_38 C hr hk   ih h w hl
set_option maxHeartbeats 4000000 in
set_option maxRecDepth 100000 in
theorem v_X8_count_35 {x1 : Int32} {x2 : Int32} {x3 : Int32} {M : Mem} {Q : Int32 → Prop} {H : Heap} {locs : List Loc} {ls : Array Slot} (C : Cx p s m args c cX8_count 5 RX8 g) (hr : meth.sig.returnType = (some .int)) (hk : meth.locks = false)  (h : w_X8_count_35 x1 x2 x3 M Q) (w : Wd g layM 12 s.heap M H locs) (hl : lv_has ls 5 [(0, .ref (ga g 0)), (1, .int x1), (2, .int x2), (3, .int x3)]) : W p l e (rmOf 0 0) s m args below meth c H locs 0 0 (MQ below (va_Qi (fun r M9 => M9 = M ∧ Q r) (PostW g layM 12) (gF g)) args s 0 0 (gF g)) (F0 m 35 ls []) := by
  unfold w_X8_count_35 at h
  refine lv_iconst (v := 0) C.1.1 C.1.2.1 dX8_count_35 (by decide) ?_
  refine lv_istore (lv' := [(4, .int 0), (0, .ref (ga g 0)), (1, .int x1), (2, .int x2), (3, .int x3)]) C.1.1 C.1.2.1 dX8_count_36 hl (by decide) rfl (fun ls hl => ?_)
  obtain ⟨n, h⟩ := h
  exact l_X8_count_38 C hr hk   n _ _ _ _ _ h w (lv_sub hl [1, 2, 3, 4, 0] rfl)
set_option maxHeartbeats 4000000 in
set_option maxRecDepth 100000 in
theorem v_X8_count_7 {x1 : Int32} {x3 : Int32} {x2 : Int32} {x4 : Int32} {M : Mem} {K7 : Int32 → Int32 → Prop} {Q : Int32 → Prop} {H : Heap} {locs : List Loc} {ls : Array Slot} (C : Cx p s m args c cX8_count 5 RX8 g) (hr : meth.sig.returnType = (some .int)) (hk : meth.locks = false) (hK7 : ∀ (x2 : Int32) (x4 : Int32) (H : Heap) (locs : List Loc) (ls : Array Slot), K7 x2 x4 → Wd g layM 12 s.heap M H locs → lv_has ls 5 [(0, .ref (ga g 0)), (1, .int x1), (2, .int x2), (3, .int x3), (4, .int x4)] → W p l e (rmOf 0 0) s m args below meth c H locs 0 0 (MQ below (va_Qi (fun r M9 => M9 = M ∧ Q r) (PostW g layM 12) (gF g)) args s 0 0 (gF g)) (F0 m 7 ls [])) (h : w_X8_count_7 x1 x3 M Q K7 x2 x4) (w : Wd g layM 12 s.heap M H locs) (hl : lv_has ls 5 [(0, .ref (ga g 0)), (1, .int x1), (2, .int x2), (3, .int x3), (4, .int x4)]) : W p l e (rmOf 0 0) s m args below meth c H locs 0 0 (MQ below (va_Qi (fun r M9 => M9 = M ∧ Q r) (PostW g layM 12) (gF g)) args s 0 0 (gF g)) (F0 m 7 ls []) := by
  unfold w_X8_count_7 at h
  refine lv_iload C.1.1 C.1.2.1 dX8_count_7 (lv_at hl 4 rfl) ?_
  refine lv_bipush (v := 6) C.1.1 C.1.2.1 dX8_count_9 (by decide) ?_
  refine lv_icmp_ge (tgt := 35) C.1.1 C.1.2.1 dX8_count_11 (by decide) (fun hc1 => ?_) (fun hc1 => ?_)
  · replace h := h.1 hc1
    exact v_X8_count_35 C hr hk   h w (lv_sub hl [0, 1, 2, 3] rfl)
  · replace h := h.2 hc1
    refine lv_iload_n C.1.1 C.1.2.1 dX8_count_14 rfl (lv_at hl 2 rfl) ?_
    refine lv_aload_n C.1.1 C.1.2.1 dX8_count_15 rfl (lv_at hl 0 rfl) ?_
    refine gr_RX8_7 C w hm_0 lm_0 rfl dX8_count_16 ?_
    refine lv_bipush (v := 6) C.1.1 C.1.2.1 dX8_count_19 (by decide) ?_
    refine lv_iload C.1.1 C.1.2.1 dX8_count_21 (lv_at hl 4 rfl) ?_
    refine lv_iadd C.1.1 C.1.2.1 dX8_count_23 ?_
    refine q_ial C w hm_1 lm_1 h.1 dX8_count_24 ?_
    replace h := h.2
    refine lv_iconst (v := 2) C.1.1 C.1.2.1 dX8_count_25 (by decide) ?_
    refine lv_iadd C.1.1 C.1.2.1 dX8_count_26 ?_
    refine lv_iadd C.1.1 C.1.2.1 dX8_count_27 ?_
    refine lv_istore_n (lv' := [(2, .int (x2 + ((M 1 (6 + x4).toNatClampNeg) + 2))), (0, .ref (ga g 0)), (1, .int x1), (3, .int x3), (4, .int x4)]) C.1.1 C.1.2.1 dX8_count_28 rfl hl (by decide) rfl (fun ls hl => ?_)
    refine lv_iinc (v := x4 + 1) (lv' := [(4, .int (x4 + 1)), (2, .int (x2 + ((M 1 (6 + x4).toNatClampNeg) + 2))), (0, .ref (ga g 0)), (1, .int x1), (3, .int x3)]) C.1.1 C.1.2.1 dX8_count_29 hl (k := 4) rfl rfl (by decide) rfl (fun ls hl => ?_)
    refine lv_goto (tgt := 7) C.1.1 C.1.2.1 dX8_count_32 (by decide) ?_
    exact hK7 _ _ _ _ _ h w (lv_sub hl [2, 3, 1, 4, 0] rfl)
set_option maxHeartbeats 4000000 in
set_option maxRecDepth 100000 in
theorem l_X8_count_7 {x1 : Int32} {x3 : Int32} {M : Mem} {Q : Int32 → Prop} (C : Cx p s m args c cX8_count 5 RX8 g) (hr : meth.sig.returnType = (some .int)) (hk : meth.locks = false)  : ∀ (n : Nat) (x2 : Int32) (x4 : Int32) (H : Heap) (locs : List Loc) (ls : Array Slot), fu2 (w_X8_count_7 x1 x3 M Q) n x2 x4 → Wd g layM 12 s.heap M H locs → lv_has ls 5 [(0, .ref (ga g 0)), (1, .int x1), (2, .int x2), (3, .int x3), (4, .int x4)] → W p l e (rmOf 0 0) s m args below meth c H locs 0 0 (MQ below (va_Qi (fun r M9 => M9 = M ∧ Q r) (PostW g layM 12) (gF g)) args s 0 0 (gF g)) (F0 m 7 ls []) := by
  intro n
  induction n with
  | zero => intro x2 x4 H locs ls h; exact h.elim
  | succ n ih => intro x2 x4 H locs ls h w hl; exact v_X8_count_7 C hr hk   ih h w hl
set_option maxHeartbeats 4000000 in
set_option maxRecDepth 100000 in
theorem c_X8_count {l : Launch} {g : Gt} {x1 : Int32} {M : Mem} {Q : Int32 → Prop} (h : w_X8_count x1 M Q) : MI l yX8_count cX8_count 5 (some .int) 0 0 g layM 12 [.ref (ga g 0), .int x1] M (fun r M9 => M9 = M ∧ Q r) :=
  m_of (by decide +kernel) (Nat.le_of_ble_eq_true rfl) (fun p e s m args below meth c ls C hr hk w hl => by
    have C : Cx p s m args c cX8_count 5 RX8 g := C
    have hl : lv_has ls 5 [(0, .ref (ga g 0)), (1, .int x1)] := hl
    unfold w_X8_count at h
    obtain ⟨H, eH⟩ : ∃ H : Heap, H = s.heap := ⟨_, rfl⟩
    obtain ⟨locs, el⟩ : ∃ locs : List Loc, locs = [] := ⟨_, rfl⟩
    have w : Wd g layM 12 s.heap M H locs := by rw [eH, el]; exact w
    suffices hw : W p l e (rmOf 0 0) s m args below meth c H locs 0 0 (MQ below (va_Qi (fun r M9 => M9 = M ∧ Q r) (PostW g layM 12) (gF g)) args s 0 0 (gF g)) (F0 m 0 ls []) by rw [eH, el] at hw; exact hw
    clear eH el
    refine lv_iconst (v := 0) C.1.1 C.1.2.1 dX8_count_0 (by decide) ?_
    refine lv_istore_n (lv' := [(2, .int 0), (0, .ref (ga g 0)), (1, .int x1)]) C.1.1 C.1.2.1 dX8_count_1 rfl hl (by decide) rfl (fun ls hl => ?_)
    refine lv_iconst (v := 0) C.1.1 C.1.2.1 dX8_count_2 (by decide) ?_
    refine lv_istore_n (lv' := [(3, .int 0), (2, .int 0), (0, .ref (ga g 0)), (1, .int x1)]) C.1.1 C.1.2.1 dX8_count_3 rfl hl (by decide) rfl (fun ls hl => ?_)
    refine lv_iconst (v := 0) C.1.1 C.1.2.1 dX8_count_4 (by decide) ?_
    refine lv_istore (lv' := [(4, .int 0), (3, .int 0), (2, .int 0), (0, .ref (ga g 0)), (1, .int x1)]) C.1.1 C.1.2.1 dX8_count_5 hl (by decide) rfl (fun ls hl => ?_)
    obtain ⟨n, h⟩ := h
    exact l_X8_count_7 C hr hk   n _ _ _ _ _ h w (lv_sub hl [3, 4, 2, 1, 0] rfl))
end
