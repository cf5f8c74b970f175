-- in
def w_X8_in (y0 : Int64) (y2 : Int64) (y4 : Int64) (M : Mem) (Q : Int32 → Prop) : Prop :=
  narrow .boolean (.int (if (lg_cmp y0 y2) < 0 then (0 : Int32) else (if 0 < (lg_cmp y0 y4) then (0 : Int32) else 1))) = .int (if (lg_cmp y0 y2) < 0 then (0 : Int32) else (if 0 < (lg_cmp y0 y4) then (0 : Int32) else 1)) ∧ Q (if (lg_cmp y0 y2) < 0 then (0 : Int32) else (if 0 < (lg_cmp y0 y4) then (0 : Int32) else 1))
-- feed
def w_X8_feed (x1 : Int32) (M : Mem) (Q : Int32 → Mem → Prop) : Prop :=
  w_X8_in (x1.toInt64) 0 127 M (fun r1 => (r1 = 0 → Q (-1) M) ∧ (¬ r1 = 0 → ((M 0 6) = 160 → Q (-3) M) ∧ (¬ (M 0 6) = 160 → vp_in (M 0 6) 160 ∧ ∀ M4, M4 = mu M 3 (M 0 6).toNatClampNeg x1 → ∀ M5, M5 = mu M4 0 6 ((M4 0 6) + 1) → Q (M5 0 6) M5)))
-- end
def w_X8_end (x1 : Int32) (M : Mem) (Q : Int32 → Mem → Prop) : Prop :=
  w_X8_in (x1.toInt64) 0 ((M 0 6).toInt64) M (fun r1 => (r1 = 0 → Q (-1) M) ∧ (¬ r1 = 0 → ∀ M3, M3 = mu M 0 6 x1 → Q (M 0 6) M3))
-- byteAt
def w_X8_byteAt (x1 : Int32) (M : Mem) (Q : Int32 → Prop) : Prop :=
  ((M 0 6) ≤ x1 → Q (-4)) ∧ (¬ (M 0 6) ≤ x1 → vp_in x1 160 ∧ Q (M 3 x1.toNatClampNeg))
-- fails
def w_X8_fails (x1 : Int32) (M : Mem) (Q : Mem → Prop) : Prop :=
  ((M 0 8) = 0 → ∀ M2, M2 = mu M 0 8 x1 → ∀ M3, M3 = mu M2 0 9 (M2 0 11) → Q M3) ∧ (¬ (M 0 8) = 0 → Q M)
-- nameHere
def w_X8_nameHere_106 (x1 : Int32) (x2 : Int32) (M : Mem) (K2 : Int32 → Prop) (Q : Int32 → Prop) : Prop :=
  (x2 = 0 → K2 (x1 + 1)) ∧ (¬ x2 = 0 → Q x1)
def w_X8_nameHere_51 (x1 : Int32) (M : Mem) (K2 : Int32 → Prop) (Q : Int32 → Prop) (K51 : Int32 → Int32 → Prop) (x2 : Int32) (x3 : Int32) : Prop :=
  (x2 = 0 → w_X8_nameHere_106 x1 x2 M K2 Q) ∧ (¬ x2 = 0 → (((M 0 10) - (M 0 11)) ≤ x3 → w_X8_nameHere_106 x1 x2 M K2 Q) ∧ (¬ ((M 0 10) - (M 0 11)) ≤ x3 → w_X8_byteAt ((M 0 11) + x3) M (fun r8 => vp_in x1 7 ∧ vp_in ((M 4 x1.toNatClampNeg) + x3) 25 ∧ ∀ v10 : Int32, v10 = (if r8 = (M 5 ((M 4 x1.toNatClampNeg) + x3).toNatClampNeg) then (1 : Int32) else 0) → K51 v10 (x3 + 1))))
def w_X8_nameHere_2 (M : Mem) (Q : Int32 → Prop) (K2 : Int32 → Prop) (x1 : Int32) : Prop :=
  (6 ≤ x1 → Q (-4)) ∧ (¬ 6 ≤ x1 → ((M 0 12) = 1 → vp_in (x1 + 1) 7 ∧ vp_in x1 7 ∧ ∀ v4 : Int32, v4 = (if ((M 0 10) - (M 0 11)) = ((M 4 (x1 + 1).toNatClampNeg) - (M 4 x1.toNatClampNeg)) then (1 : Int32) else 0) → ∃ n, fu2 (w_X8_nameHere_51 x1 M K2 Q) n v4 0) ∧ (¬ (M 0 12) = 1 → Q (-4)))
def w_X8_nameHere (M : Mem) (Q : Int32 → Prop) : Prop :=
  ∃ n, fu1 (w_X8_nameHere_2 M Q) n 0
-- step
def w_X8_step_217 (M : Mem) (Q : Mem → Prop) : Prop :=
  ∀ M20, M20 = mu M 0 12 2 → (((M20 0 10) - (M20 0 11)) ≤ 2 → Q M20) ∧ (¬ ((M20 0 10) - (M20 0 11)) ≤ 2 → w_X8_fails 1 M20 (fun M23 => Q M23))
def w_X8_step_201 (t0 : Int32) (M : Mem) (K140 : Mem → Prop) (Q : Mem → Prop) : Prop :=
  ∀ M25, M25 = mu M 0 13 t0 → ∀ M26, M26 = mu M25 0 10 ((M25 0 10) + 1) → K140 M26
def w_X8_step_140 (Q : Mem → Prop) (K140 : Mem → Prop) (M : Mem) : Prop :=
  w_X8_byteAt (M 0 10) M (fun r17 => w_X8_in (r17.toInt64) 48 57 M (fun r18 => (r18 = 0 → w_X8_step_217 M Q) ∧ (¬ r18 = 0 → (2 ≤ ((M 0 10) - (M 0 11)) → w_X8_step_201 (M 0 13) M K140 Q) ∧ (¬ 2 ≤ ((M 0 10) - (M 0 11)) → w_X8_byteAt (M 0 10) M (fun r27 => w_X8_step_201 (((10 * (M 0 13)) + r27) - 48) M K140 Q)))))
def w_X8_step_118 (M : Mem) (Q : Mem → Prop) : Prop :=
  ∀ M31, M31 = mu M 0 12 1 → Q M31
def w_X8_step_84 (Q : Mem → Prop) (K84 : Mem → Prop) (M : Mem) : Prop :=
  w_X8_byteAt (M 0 10) M (fun r28 => w_X8_in (r28.toInt64) 97 122 M (fun r29 => (r29 = 0 → w_X8_step_118 M Q) ∧ (¬ r29 = 0 → ∀ M32, M32 = mu M 0 10 ((M 0 10) + 1) → K84 M32)))
def w_X8_step_34 (M : Mem) (Q : Mem → Prop) : Prop :=
  ∀ M4, M4 = mu M 0 11 (M 0 10) → w_X8_byteAt (M4 0 10) M4 (fun r5 => ∀ M6, M6 = mu M4 0 13 0 → (r5 = (-4) → ∀ M33, M33 = mu M6 0 12 0 → Q M33) ∧ (¬ r5 = (-4) → w_X8_in (r5.toInt64) 97 122 M6 (fun r8 => (r8 = 0 → w_X8_in (r5.toInt64) 48 57 M6 (fun r10 => (r10 = 0 → ∀ M12, M12 = mu M6 0 12 3 → ∀ M13, M13 = mu M12 0 10 ((M12 0 10) + 1) → (r5 = 59 → Q M13) ∧ (¬ r5 = 59 → w_X8_fails 1 M13 (fun M16 => Q M16))) ∧ (¬ r10 = 0 → ∃ n, fu1 (w_X8_step_140 Q) n M6))) ∧ (¬ r8 = 0 → ∃ n, fu1 (w_X8_step_84 Q) n M6))))
def w_X8_step_8 (Q : Mem → Prop) (K8 : Mem → Prop) (M : Mem) : Prop :=
  w_X8_byteAt (M 0 10) M (fun r2 => (r2 = 32 → ∀ M34, M34 = mu M 0 10 ((M 0 10) + 1) → K8 M34) ∧ (¬ r2 = 32 → w_X8_step_34 M Q))
def w_X8_step (M : Mem) (Q : Mem → Prop) : Prop :=
  ((M 0 8) ≤ 0 → ∃ n, fu1 (w_X8_step_8 Q) n M) ∧ (¬ (M 0 8) ≤ 0 → Q M)
-- number
def w_X8_number_47 (x1 : Int32) (M : Mem) (Q : Int32 → Mem → Prop) : Prop :=
  w_X8_step M (fun M5 => Q (if (M 0 8) = 0 then (M 0 13) else x1) M5)
def w_X8_number_20 (x1 : Int32) (x2 : Int32) (M : Mem) (Q : Int32 → Mem → Prop) : Prop :=
  ((M 0 8) = 0 → w_X8_in ((M 0 13).toInt64) (x1.toInt64) (x2.toInt64) M (fun r6 => (r6 = 0 → w_X8_fails 3 M (fun M9 => w_X8_number_47 x1 M9 Q)) ∧ (¬ r6 = 0 → w_X8_number_47 x1 M Q))) ∧ (¬ (M 0 8) = 0 → w_X8_number_47 x1 M Q)
def w_X8_number (x1 : Int32) (x2 : Int32) (M : Mem) (Q : Int32 → Mem → Prop) : Prop :=
  ((M 0 8) = 0 → ((M 0 12) = 2 → w_X8_number_20 x1 x2 M Q) ∧ (¬ (M 0 12) = 2 → w_X8_fails 2 M (fun M12 => w_X8_number_20 x1 x2 M12 Q))) ∧ (¬ (M 0 8) = 0 → w_X8_number_20 x1 x2 M Q)
-- readMore
def w_X8_readMore_172 (M : Mem) (Q : Mem → Prop) : Prop :=
  w_X8_number 0 5 M (fun r4 M5 => ∀ M6, M6 = mu M5 0 4 ((M5 0 4) ||| (sl 1 r4)) → w_X8_number 0 60 M6 (fun r7 M8 => vp_in r4 44 ∧ ∀ M9, M9 = mu M8 2 r4.toNatClampNeg (r7 - 30) → w_X8_number 0 9 M9 (fun r10 M11 => vp_in (6 + r4) 44 ∧ ∀ M12, M12 = mu M11 2 (6 + r4).toNatClampNeg (r10 - 2) → Q M12)))
def w_X8_readMore (x1 : Int32) (M : Mem) (Q : Mem → Prop) : Prop :=
  (3 < x1 → (x1 = 4 → vp_in 41 44 ∧ w_X8_number 0 5 M (fun r19 M20 => vp_in (32 + (M 2 (41 : Int32).toNatClampNeg)) 44 ∧ ∀ M21, M21 = mu M20 2 (32 + (M 2 (41 : Int32).toNatClampNeg)).toNatClampNeg r19 → w_X8_number 0 5 M21 (fun r22 M23 => vp_in (35 + (M 2 (41 : Int32).toNatClampNeg)) 44 ∧ ∀ M24, M24 = mu M23 2 (35 + (M 2 (41 : Int32).toNatClampNeg)).toNatClampNeg r22 → w_X8_number 1 9 M24 (fun r25 M26 => vp_in (38 + (M 2 (41 : Int32).toNatClampNeg)) 44 ∧ ∀ M27, M27 = mu M26 2 (38 + (M 2 (41 : Int32).toNatClampNeg)).toNatClampNeg r25 → vp_in 41 44 ∧ vp_in 41 44 ∧ ∀ M28, M28 = mu M27 2 (41 : Int32).toNatClampNeg ((M27 2 (41 : Int32).toNatClampNeg) + 1) → Q M28)))) ∧ (¬ x1 = 4 → ((M 0 8) = 0 → ((M 0 12) = 2 → w_X8_in ((M 0 13).toInt64) 0 5 M (fun r14 => (r14 = 0 → w_X8_readMore_172 M Q) ∧ (¬ r14 = 0 → (((sr (M 0 4) (M 0 13)) &&& 1) = 1 → w_X8_fails 4 M (fun M18 => w_X8_readMore_172 M18 Q)) ∧ (¬ ((sr (M 0 4) (M 0 13)) &&& 1) = 1 → w_X8_readMore_172 M Q)))) ∧ (¬ (M 0 12) = 2 → w_X8_readMore_172 M Q)) ∧ (¬ (M 0 8) = 0 → w_X8_readMore_172 M Q))) ∧ (¬ 3 < x1 → vp_in (12 + (M 0 3)) 44 ∧ ∀ M29, M29 = mu M 2 (12 + (M 0 3)).toNatClampNeg x1 → w_X8_number 0 5 M29 (fun r30 M31 => vp_in (17 + (M29 0 3)) 44 ∧ ∀ M32, M32 = mu M31 2 (17 + (M29 0 3)).toNatClampNeg r30 → ∀ M33, M33 = mu M32 0 3 ((M32 0 3) + 1) → Q M33))
-- readLine
def w_X8_readLine_94 (M : Mem) (Q : Mem → Prop) : Prop :=
  w_X8_step M (fun M13 => Q M13)
def w_X8_readLine_57 (x1 : Int32) (M : Mem) (Q : Mem → Prop) : Prop :=
  w_X8_step M (fun M7 => ((M7 0 8) ≤ 0 → w_X8_readMore x1 M7 (fun M10 => ((M10 0 8) = 0 → ((M10 0 12) = 3 → w_X8_readLine_94 M10 Q) ∧ (¬ (M10 0 12) = 3 → w_X8_fails 2 M10 (fun M16 => w_X8_readLine_94 M16 Q))) ∧ (¬ (M10 0 8) = 0 → w_X8_readLine_94 M10 Q))) ∧ (¬ (M7 0 8) ≤ 0 → Q M7))
def w_X8_readLine_52 (x1 : Int32) (M : Mem) (Q : Mem → Prop) : Prop :=
  w_X8_fails 5 M (fun M19 => w_X8_readLine_57 x1 M19 Q)
def w_X8_readLine_36 (x1 : Int32) (M : Mem) (Q : Mem → Prop) : Prop :=
  (x1 = 4 → vp_in 41 44 ∧ ((M 2 (41 : Int32).toNatClampNeg) = 3 → w_X8_readLine_52 x1 M Q) ∧ (¬ (M 2 (41 : Int32).toNatClampNeg) = 3 → w_X8_readLine_57 x1 M Q)) ∧ (¬ x1 = 4 → w_X8_readLine_57 x1 M Q)
def w_X8_readLine (M : Mem) (Q : Mem → Prop) : Prop :=
  w_X8_nameHere M (fun r1 => w_X8_in (r1.toInt64) 0 5 M (fun r2 => (r2 = 0 → w_X8_fails 2 M (fun M22 => Q M22)) ∧ (¬ r2 = 0 → (3 < r1 → w_X8_readLine_36 r1 M Q) ∧ (¬ 3 < r1 → ((M 0 3) = 5 → w_X8_readLine_52 r1 M Q) ∧ (¬ (M 0 3) = 5 → w_X8_readLine_36 r1 M Q)))))
-- text
def w_X8_text_125 (x1 : Int32) (M : Mem) (Q : Int32 → Mem → Prop) : Prop :=
  ∀ M13, M13 = mu M 0 1 (M 0 3) → ∀ M14, M14 = mu M13 0 21 0 → vp_in 0 2 ∧ ∀ M15, M15 = mu M14 8 (0 : Int32).toNatClampNeg (vp_nar .boolean 0) → vp_in 1 2 ∧ ∀ M16, M16 = mu M15 8 (1 : Int32).toNatClampNeg (vp_nar .boolean 0) → Q x1 M16
def w_X8_text_101 (x1 : Int32) (Q : Int32 → Mem → Prop) (K101 : Int32 → Mem → Prop) (x2 : Int32) (M : Mem) : Prop :=
  (44 ≤ x2 → w_X8_text_125 x1 M Q) ∧ (¬ 44 ≤ x2 → vp_in x2 44 ∧ vp_in x2 264 ∧ ∀ M17, M17 = mu M 1 x2.toNatClampNeg (M 2 x2.toNatClampNeg) → K101 (x2 + 1) M17)
def w_X8_text_71 (x1 : Int32) (M : Mem) (Q : Int32 → Mem → Prop) : Prop :=
  ∀ M9, M9 = mu M 0 6 0 → ∀ M10, M10 = mu M9 0 7 (M9 0 8) → ((M10 0 8) ≤ 0 → ∃ n, fu2 (w_X8_text_101 x1 Q) n 0 M10) ∧ (¬ (M10 0 8) ≤ 0 → Q ((-10) - (M10 0 9)) M10)
def w_X8_text_47 (Q : Int32 → Mem → Prop) (K47 : Int32 → Mem → Prop) (x1 : Int32) (M : Mem) : Prop :=
  ((M 0 8) = 0 → ((M 0 12) = 0 → w_X8_text_71 x1 M Q) ∧ (¬ (M 0 12) = 0 → w_X8_readLine M (fun M20 => K47 (x1 + 1) M20))) ∧ (¬ (M 0 8) = 0 → w_X8_text_71 x1 M Q)
def w_X8_text_43 (x1 : Int32) (M : Mem) (Q : Int32 → Mem → Prop) : Prop :=
  w_X8_step M (fun M7 => ∃ n, fu2 (w_X8_text_47 Q) n x1 M7)
def w_X8_text_24 (x1 : Int32) (Q : Int32 → Mem → Prop) (K24 : Int32 → Mem → Prop) (x2 : Int32) (M : Mem) : Prop :=
  (44 ≤ x2 → w_X8_text_43 x1 M Q) ∧ (¬ 44 ≤ x2 → vp_in x2 44 ∧ ∀ M21, M21 = mu M 2 x2.toNatClampNeg 0 → K24 (x2 + 1) M21)
def w_X8_text (M : Mem) (Q : Int32 → Mem → Prop) : Prop :=
  ∀ M1, M1 = mu M 0 8 0 → ∀ M2, M2 = mu M1 0 10 0 → ∀ M3, M3 = mu M2 0 3 0 → ∀ M4, M4 = mu M3 0 4 0 → ∃ n, fu2 (w_X8_text_24 0 Q) n 0 M4
-- fault
def w_X8_fault (M : Mem) (Q : Int32 → Prop) : Prop :=
  Q (M 0 7)
-- isGate
def w_X8_isGate (x0 : Int32) (M : Mem) (Q : Int32 → Prop) : Prop :=
  w_X8_in (x0.toInt64) 0 5 M (fun r1 => narrow .boolean (.int r1) = .int r1 ∧ Q r1)
-- isTaker
def w_X8_isTaker (x1 : Int32) (M : Mem) (Q : Int32 → Prop) : Prop :=
  w_X8_in (x1.toInt64) 0 (((M 0 1) - 1).toInt64) M (fun r1 => narrow .boolean (.int r1) = .int r1 ∧ Q r1)
-- isKeeper
def w_X8_isKeeper (x1 : Int32) (M : Mem) (Q : Int32 → Prop) : Prop :=
  vp_in 41 264 ∧ w_X8_in (x1.toInt64) 0 (((M 1 (41 : Int32).toNatClampNeg) - 1).toInt64) M (fun r1 => narrow .boolean (.int r1) = .int r1 ∧ Q r1)
-- takesOn
def w_X8_takesOn (x1 : Int32) (x2 : Int32) (M : Mem) (Q : Int32 → Prop) : Prop :=
  vp_in ((x1 + 12) + x2) 264 ∧ Q (if (M 1 ((x1 + 12) + x2).toNatClampNeg) = 3 then (12 : Int32) else (if (M 1 ((x1 + 12) + x2).toNatClampNeg) = 2 then (3 : Int32) else 6))
-- noiseOn
def w_X8_noiseOn (x1 : Int32) (x2 : Int32) (M : Mem) (Q : Int32 → Prop) : Prop :=
  vp_in ((x1 + 12) + x2) 264 ∧ Q (if (M 1 ((x1 + 12) + x2).toNatClampNeg) = 0 then (3 : Int32) else (if (M 1 ((x1 + 12) + x2).toNatClampNeg) = 1 then (1 : Int32) else 5))
-- atOn
def w_X8_atOn (x1 : Int32) (x2 : Int32) (M : Mem) (Q : Int32 → Prop) : Prop :=
  vp_in ((x1 + 32) + x2) 264 ∧ vp_in (x1 + 42) 264 ∧ vp_in ((x1 + 35) + x2) 264 ∧ Q (irm ((M 1 ((x1 + 32) + x2).toNatClampNeg) + ((M 1 (x1 + 42).toNatClampNeg) * (M 1 ((x1 + 35) + x2).toNatClampNeg))) 6)
-- isHeardOn
def w_X8_isHeardOn_70 (x1 : Int32) (x2 : Int32) (x4 : Int32) (t0 : Int32) (M : Mem) (K5 : Int32 → Int32 → Prop) (Q : Int32 → Prop) : Prop :=
  K5 t0 (x4 + 1)
def w_X8_isHeardOn_65 (x1 : Int32) (x2 : Int32) (x4 : Int32) (M : Mem) (K5 : Int32 → Int32 → Prop) (Q : Int32 → Prop) : Prop :=
  w_X8_isHeardOn_70 x1 x2 x4 1 M K5 Q
def w_X8_isHeardOn_69 (x1 : Int32) (x2 : Int32) (x4 : Int32) (M : Mem) (K5 : Int32 → Int32 → Prop) (Q : Int32 → Prop) : Prop :=
  w_X8_isHeardOn_70 x1 x2 x4 0 M K5 Q
def w_X8_isHeardOn_5 (x1 : Int32) (x2 : Int32) (M : Mem) (Q : Int32 → Prop) (K5 : Int32 → Int32 → Prop) (x3 : Int32) (x4 : Int32) : Prop :=
  vp_in (x1 + 41) 264 ∧ ((M 1 (x1 + 41).toNatClampNeg) ≤ x4 → narrow .boolean (.int x3) = .int x3 ∧ Q x3) ∧ (¬ (M 1 (x1 + 41).toNatClampNeg) ≤ x4 → (x3 = 0 → w_X8_atOn x1 x4 M (fun r3 => vp_in ((x1 + 17) + x2) 264 ∧ (r3 = (M 1 ((x1 + 17) + x2).toNatClampNeg) → w_X8_noiseOn x1 x2 M (fun r5 => vp_in ((x1 + 38) + x4) 264 ∧ (r5 < (M 1 ((x1 + 38) + x4).toNatClampNeg) → w_X8_isHeardOn_69 x1 x2 x4 M K5 Q) ∧ (¬ r5 < (M 1 ((x1 + 38) + x4).toNatClampNeg) → w_X8_isHeardOn_65 x1 x2 x4 M K5 Q))) ∧ (¬ r3 = (M 1 ((x1 + 17) + x2).toNatClampNeg) → w_X8_isHeardOn_69 x1 x2 x4 M K5 Q))) ∧ (¬ x3 = 0 → w_X8_isHeardOn_65 x1 x2 x4 M K5 Q))
def w_X8_isHeardOn (x1 : Int32) (x2 : Int32) (M : Mem) (Q : Int32 → Prop) : Prop :=
  ∃ n, fu2 (w_X8_isHeardOn_5 x1 x2 M Q) n 0 0
-- lightOn
def w_X8_lightOn_4 (x1 : Int32) (M : Mem) (Q : Int32 → Prop) (K4 : Int32 → Int32 → Prop) (x2 : Int32) (x3 : Int32) : Prop :=
  (6 ≤ x3 → Q x2) ∧ (¬ 6 ≤ x3 → vp_in (x1 + x3) 264 ∧ K4 (x2 + ((M 1 (x1 + x3).toNatClampNeg) + 30)) (x3 + 1))
def w_X8_lightOn (x1 : Int32) (M : Mem) (Q : Int32 → Prop) : Prop :=
  ∃ n, fu2 (w_X8_lightOn_4 x1 M Q) n 0 0
-- startCounts
def w_X8_startCounts (M : Mem) (Q : Mem → Prop) : Prop :=
  ∀ M1, M1 = mu M 0 16 0 → ∀ M2, M2 = mu M1 0 17 0 → ∀ M3, M3 = mu M2 0 18 0 → Q M3
-- goesIn
def w_X8_goesIn_168 (x1 : Int32) (x2 : Int32) (x4 : Int32) (t0 : Int32) (M : Mem) (Q : Mem → Prop) : Prop :=
  vp_in ((x1 + 22) + x2) 264 ∧ vp_in x4 264 ∧ vp_in x4 264 ∧ ∀ M5, M5 = mu M 1 x4.toNatClampNeg ((M 1 x4.toNatClampNeg) - t0) → vp_in ((x1 + 22) + x2) 264 ∧ ∀ M7, M7 = mu M5 1 ((x1 + 22) + x2).toNatClampNeg (if ((M 1 ((x1 + 22) + x2).toNatClampNeg) + t0) ≤ 999 then ((M 1 ((x1 + 22) + x2).toNatClampNeg) + t0) else 999) → ∀ M8, M8 = mu M7 0 16 ((M7 0 16) + t0) → Q M8
def w_X8_goesIn_115 (x1 : Int32) (x2 : Int32) (M : Mem) (Q : Mem → Prop) : Prop :=
  vp_in ((x1 + 17) + x2) 264 ∧ w_X8_takesOn x1 x2 M (fun r3 => vp_in (x1 + (M 1 ((x1 + 17) + x2).toNatClampNeg)) 264 ∧ (((M 1 (x1 + (M 1 ((x1 + 17) + x2).toNatClampNeg)).toNatClampNeg) + 30) ≤ r3 → vp_in (x1 + (M 1 ((x1 + 17) + x2).toNatClampNeg)) 264 ∧ w_X8_goesIn_168 x1 x2 (x1 + (M 1 ((x1 + 17) + x2).toNatClampNeg)) ((M 1 (x1 + (M 1 ((x1 + 17) + x2).toNatClampNeg)).toNatClampNeg) + 30) M Q) ∧ (¬ ((M 1 (x1 + (M 1 ((x1 + 17) + x2).toNatClampNeg)).toNatClampNeg) + 30) ≤ r3 → w_X8_takesOn x1 x2 M (fun r9 => w_X8_goesIn_168 x1 x2 (x1 + (M 1 ((x1 + 17) + x2).toNatClampNeg)) r9 M Q)))
def w_X8_goesIn (x1 : Int32) (x2 : Int32) (x3 : Int32) (M : Mem) (Q : Mem → Prop) : Prop :=
  vp_in ((x1 + 27) + x2) 264 ∧ ((M 1 ((x1 + 27) + x2).toNatClampNeg) ≤ 0 → (x3 = 0 → w_X8_isHeardOn x1 x2 M (fun r10 => (r10 = 0 → w_X8_goesIn_115 x1 x2 M Q) ∧ (¬ r10 = 0 → vp_in ((x1 + 27) + x2) 264 ∧ ∀ M12, M12 = mu M 1 ((x1 + 27) + x2).toNatClampNeg 7 → vp_in (x1 + 43) 264 ∧ vp_in (x1 + 43) 264 ∧ vp_in (x1 + 43) 264 ∧ ∀ M14, M14 = mu M12 1 (x1 + 43).toNatClampNeg ((M12 1 (x1 + 43).toNatClampNeg) + (if 999 ≤ (M12 1 (x1 + 43).toNatClampNeg) then (0 : Int32) else 1)) → ∀ M15, M15 = mu M14 0 17 ((M14 0 17) ||| (sl 1 x2)) → ∀ M16, M16 = mu M15 0 18 ((M15 0 18) + 1) → Q M16))) ∧ (¬ x3 = 0 → w_X8_goesIn_115 x1 x2 M Q)) ∧ (¬ (M 1 ((x1 + 27) + x2).toNatClampNeg) ≤ 0 → vp_in ((x1 + 27) + x2) 264 ∧ vp_in ((x1 + 27) + x2) 264 ∧ ∀ M17, M17 = mu M 1 ((x1 + 27) + x2).toNatClampNeg ((M 1 ((x1 + 27) + x2).toNatClampNeg) - 1) → Q M17)
section
variable {p : Program} {l : Launch} {e : Env} {s : State} {m : MethodId} {args : Array Value} {below : List Frame} {meth : Method} {c : Code} {g : Gt}
-- in
set_option maxHeartbeats 4000000 in
set_option maxRecDepth 100000 in
theorem c_X8_in {l : Launch} {g : Gt} {y0 : Int64} {y2 : Int64} {y4 : Int64} {M : Mem} {Q : Int32 → Prop} (h : w_X8_in y0 y2 y4 M Q) : MI l yX8_in cX8_in 6 (some .boolean) 0 0 g layM 12 [.long y0, .long y2, .long y4] M (fun r M9 => M9 = M ∧ Q r) :=
  m_of (by decide +kernel) (Nat.le_of_ble_eq_true rfl) (fun p e s m args below meth c ls C hr hk w hl => by
    have C : Cx p s m args c cX8_in 6 RX8 g := C
    have hl : lv_has ls 6 [(0, .long y0), (2, .long y2), (4, .long y4)] := hl
    unfold w_X8_in at h
    obtain ⟨H, eH⟩ : ∃ H : Heap, H = s.heap := ⟨_, rfl⟩
    obtain ⟨locs, el⟩ : ∃ locs : List Loc, locs = [] := ⟨_, rfl⟩
    have w : Wd g layM 12 s.heap M H locs := by rw [eH, el]; exact w
    suffices hw : W p l e (rmOf 0 0) s m args below meth c H locs 0 0 (MQ below (va_Qi (fun r M9 => M9 = M ∧ Q r) (PostW g layM 12) (gF g)) args s 0 0 (gF g)) (F0 m 0 ls []) by rw [eH, el] at hw; exact hw
    clear eH el
    refine lv_lload_n C.1.1 C.1.2.1 dX8_in_0 rfl (lv_at hl 0 rfl) ?_
    refine lv_lload_n C.1.1 C.1.2.1 dX8_in_1 rfl (lv_at hl 1 rfl) ?_
    refine W.lcmp C.1.1 C.1.2.1 dX8_in_2 ?_
    have J : ∀ ls : Array Slot, lv_has ls 6 [] → W p l e (rmOf 0 0) s m args below meth c H locs 0 0 (MQ below (va_Qi (fun r M9 => M9 = M ∧ Q r) (PostW g layM 12) (gF g)) args s 0 0 (gF g)) (F0 m 18 ls [.int (if (lg_cmp y0 y2) < 0 then (0 : Int32) else (if 0 < (lg_cmp y0 y4) then (0 : Int32) else 1))]) := by
      intro ls hl
      exact q_iret C hr hk w h.1 ⟨rfl, h.2⟩ dX8_in_18
    refine lv_if_lt (tgt := 17) C.1.1 C.1.2.1 dX8_in_3 (by decide) (fun hc1 => ?_) (fun hc1 => ?_)
    · refine lv_iconst (v := 0) C.1.1 C.1.2.1 dX8_in_17 (by decide) ?_
      simp only [if_pos hc1] at J hl
      exact J ls (lv_sub hl [] rfl)
    · refine lv_lload_n C.1.1 C.1.2.1 dX8_in_6 rfl (lv_at hl 0 rfl) ?_
      refine lv_lload C.1.1 C.1.2.1 dX8_in_7 (lv_at hl 2 rfl) ?_
      refine W.lcmp C.1.1 C.1.2.1 dX8_in_9 ?_
      refine lv_if_gt (tgt := 17) C.1.1 C.1.2.1 dX8_in_10 (by decide) (fun hc2 => ?_) (fun hc2 => ?_)
      · refine lv_iconst (v := 0) C.1.1 C.1.2.1 dX8_in_17 (by decide) ?_
        simp only [if_neg hc1, if_pos hc2] at J hl
        exact J ls (lv_sub hl [] rfl)
      · refine lv_iconst (v := 1) C.1.1 C.1.2.1 dX8_in_13 (by decide) ?_
        refine lv_goto (tgt := 18) C.1.1 C.1.2.1 dX8_in_14 (by decide) ?_
        simp only [if_neg hc1, if_neg hc2] at J hl
        exact J ls (lv_sub hl [] rfl))
-- feed
set_option maxHeartbeats 4000000 in
set_option maxRecDepth 100000 in
theorem c_X8_feed {l : Launch} {g : Gt} {x1 : Int32} {M : Mem} {Q : Int32 → Mem → Prop} (h : w_X8_feed x1 M Q) : MI l yX8_feed cX8_feed 2 (some .int) 1 25 g layM 12 [.ref (ga g 0), .int x1] M Q :=
  m_of (by decide +kernel) (Nat.le_of_ble_eq_true rfl) (fun p e s m args below meth c ls C hr hk w hl => by
    have C : Cx p s m args c cX8_feed 2 RX8 g := C
    have hl : lv_has ls 2 [(0, .ref (ga g 0)), (1, .int x1)] := hl
    unfold w_X8_feed at h
    obtain ⟨H, eH⟩ : ∃ H : Heap, H = s.heap := ⟨_, rfl⟩
    obtain ⟨locs, el⟩ : ∃ locs : List Loc, locs = [] := ⟨_, rfl⟩
    have w : Wd g layM 12 s.heap M H locs := by rw [eH, el]; exact w
    suffices hw : W p l e (rmOf 1 25) s m args below meth c H locs 0 0 (MQ below (va_Qi Q (PostW g layM 12) (gF g)) args s 0 0 (gF g)) (F0 m 0 ls []) by rw [eH, el] at hw; exact hw
    clear eH el
    refine lv_iload_n C.1.1 C.1.2.1 dX8_feed_0 rfl (lv_at hl 1 rfl) ?_
    refine lv_i2l C.1.1 C.1.2.1 dX8_feed_1 rfl ?_
    refine lv_lconst (v := 0) C.1.1 C.1.2.1 dX8_feed_2 (by decide) ?_
    refine q_ldc2 C k_94 dX8_feed_3 ?_
    refine q_pSi C w [.long (x1.toInt64), .long 0, .long 127] (c_X8_in  h) ks_X8_in k_95  rfl hl.1 (Nat.le_of_ble_eq_true rfl) ⟨Nat.le_of_ble_eq_true rfl, Nat.le_of_ble_eq_true rfl⟩ dX8_feed_6 (fun r1 H locs h w => ?_)
    refine lv_if_ne (tgt := 14) C.1.1 C.1.2.1 dX8_feed_9 (by decide) (fun hc2 => ?_) (fun hc2 => ?_)
    · replace h := h.2 hc2
      refine lv_aload_n C.1.1 C.1.2.1 dX8_feed_14 rfl (lv_at hl 0 rfl) ?_
      refine gi_RX8_50 C w hm_0 lm_0 rfl dX8_feed_15 ?_
      refine lv_sipush (v := 160) C.1.1 C.1.2.1 dX8_feed_18 (by decide) ?_
      refine lv_icmp_ne (tgt := 27) C.1.1 C.1.2.1 dX8_feed_21 (by decide) (fun hc3 => ?_) (fun hc3 => ?_)
      · replace h := h.2 hc3
        refine lv_aload_n C.1.1 C.1.2.1 dX8_feed_27 rfl (lv_at hl 0 rfl) ?_
        refine gr_RX8_16 C w hm_0 lm_0 rfl dX8_feed_28 ?_
        refine lv_aload_n C.1.1 C.1.2.1 dX8_feed_31 rfl (lv_at hl 0 rfl) ?_
        refine gi_RX8_50 C w hm_0 lm_0 rfl dX8_feed_32 ?_
        refine lv_iload_n C.1.1 C.1.2.1 dX8_feed_35 rfl (lv_at hl 1 rfl) ?_
        refine q_ias C w hm_3 lm_3 h.1 dX8_feed_36 (fun M4 H locs eM4 w => ?_)
        replace h := h.2 M4 eM4
        refine lv_aload_n C.1.1 C.1.2.1 dX8_feed_37 rfl (lv_at hl 0 rfl) ?_
        refine lv_dup C.1.1 C.1.2.1 dX8_feed_38 rfl ?_
        refine gi_RX8_50 C w hm_0 lm_0 rfl dX8_feed_39 ?_
        refine lv_iconst (v := 1) C.1.1 C.1.2.1 dX8_feed_42 (by decide) ?_
        refine lv_iadd C.1.1 C.1.2.1 dX8_feed_43 ?_
        refine pi_RX8_50 C w hm_0 lm_0 rfl dX8_feed_44 (fun M5 H locs eM5 w => ?_)
        replace h := h M5 eM5
        refine lv_aload_n C.1.1 C.1.2.1 dX8_feed_47 rfl (lv_at hl 0 rfl) ?_
        refine gi_RX8_50 C w hm_0 lm_0 rfl dX8_feed_48 ?_
        exact q_iret C hr hk w rfl h dX8_feed_51
      · replace h := h.1 hc3
        refine lv_bipush (v := (-3)) C.1.1 C.1.2.1 dX8_feed_24 (by decide) ?_
        exact q_iret C hr hk w rfl h dX8_feed_26
    · replace h := h.1 hc2
      refine lv_iconst (v := (-1)) C.1.1 C.1.2.1 dX8_feed_12 (by decide) ?_
      exact q_iret C hr hk w rfl h dX8_feed_13)
-- end
set_option maxHeartbeats 4000000 in
set_option maxRecDepth 100000 in
theorem c_X8_end {l : Launch} {g : Gt} {x1 : Int32} {M : Mem} {Q : Int32 → Mem → Prop} (h : w_X8_end x1 M Q) : MI l yX8_end cX8_end 3 (some .int) 1 25 g layM 12 [.ref (ga g 0), .int x1] M Q :=
  m_of (by decide +kernel) (Nat.le_of_ble_eq_true rfl) (fun p e s m args below meth c ls C hr hk w hl => by
    have C : Cx p s m args c cX8_end 3 RX8 g := C
    have hl : lv_has ls 3 [(0, .ref (ga g 0)), (1, .int x1)] := hl
    unfold w_X8_end at h
    obtain ⟨H, eH⟩ : ∃ H : Heap, H = s.heap := ⟨_, rfl⟩
    obtain ⟨locs, el⟩ : ∃ locs : List Loc, locs = [] := ⟨_, rfl⟩
    have w : Wd g layM 12 s.heap M H locs := by rw [eH, el]; exact w
    suffices hw : W p l e (rmOf 1 25) s m args below meth c H locs 0 0 (MQ below (va_Qi Q (PostW g layM 12) (gF g)) args s 0 0 (gF g)) (F0 m 0 ls []) by rw [eH, el] at hw; exact hw
    clear eH el
    refine lv_iload_n C.1.1 C.1.2.1 dX8_end_0 rfl (lv_at hl 1 rfl) ?_
    refine lv_i2l C.1.1 C.1.2.1 dX8_end_1 rfl ?_
    refine lv_lconst (v := 0) C.1.1 C.1.2.1 dX8_end_2 (by decide) ?_
    refine lv_aload_n C.1.1 C.1.2.1 dX8_end_3 rfl (lv_at hl 0 rfl) ?_
    refine gi_RX8_50 C w hm_0 lm_0 rfl dX8_end_4 ?_
    refine lv_i2l C.1.1 C.1.2.1 dX8_end_7 rfl ?_
    refine q_pSi C w [.long (x1.toInt64), .long 0, .long ((M 0 6).toInt64)] (c_X8_in  h) ks_X8_in k_95  rfl hl.1 (Nat.le_of_ble_eq_true rfl) ⟨Nat.le_of_ble_eq_true rfl, Nat.le_of_ble_eq_true rfl⟩ dX8_end_8 (fun r1 H locs h w => ?_)
    refine lv_if_ne (tgt := 16) C.1.1 C.1.2.1 dX8_end_11 (by decide) (fun hc2 => ?_) (fun hc2 => ?_)
    · replace h := h.2 hc2
      refine lv_aload_n C.1.1 C.1.2.1 dX8_end_16 rfl (lv_at hl 0 rfl) ?_
      refine gi_RX8_50 C w hm_0 lm_0 rfl dX8_end_17 ?_
      refine lv_istore_n (lv' := [(2, .int (M 0 6)), (0, .ref (ga g 0)), (1, .int x1)]) C.1.1 C.1.2.1 dX8_end_20 rfl hl (by decide) rfl (fun ls hl => ?_)
      refine lv_aload_n C.1.1 C.1.2.1 dX8_end_21 rfl (lv_at hl 1 rfl) ?_
      refine lv_iload_n C.1.1 C.1.2.1 dX8_end_22 rfl (lv_at hl 2 rfl) ?_
      refine pi_RX8_50 C w hm_0 lm_0 rfl dX8_end_23 (fun M3 H locs eM3 w => ?_)
      replace h := h M3 eM3
      refine lv_iload_n C.1.1 C.1.2.1 dX8_end_26 rfl (lv_at hl 0 rfl) ?_
      exact q_iret C hr hk w rfl h dX8_end_27
    · replace h := h.1 hc2
      refine lv_iconst (v := (-1)) C.1.1 C.1.2.1 dX8_end_14 (by decide) ?_
      exact q_iret C hr hk w rfl h dX8_end_15)
-- byteAt
set_option maxHeartbeats 4000000 in
set_option maxRecDepth 100000 in
theorem c_X8_byteAt {l : Launch} {g : Gt} {x1 : Int32} {M : Mem} {Q : Int32 → Prop} (h : w_X8_byteAt x1 M Q) : MI l yX8_byteAt cX8_byteAt 2 (some .int) 0 0 g layM 12 [.ref (ga g 0), .int x1] M (fun r M9 => M9 = M ∧ Q r) :=
  m_of (by decide +kernel) (Nat.le_of_ble_eq_true rfl) (fun p e s m args below meth c ls C hr hk w hl => by
    have C : Cx p s m args c cX8_byteAt 2 RX8 g := C
    have hl : lv_has ls 2 [(0, .ref (ga g 0)), (1, .int x1)] := hl
    unfold w_X8_byteAt at h
    obtain ⟨H, eH⟩ : ∃ H : Heap, H = s.heap := ⟨_, rfl⟩
    obtain ⟨locs, el⟩ : ∃ locs : List Loc, locs = [] := ⟨_, rfl⟩
    have w : Wd g layM 12 s.heap M H locs := by rw [eH, el]; exact w
    suffices hw : W p l e (rmOf 0 0) s m args below meth c H locs 0 0 (MQ below (va_Qi (fun r M9 => M9 = M ∧ Q r) (PostW g layM 12) (gF g)) args s 0 0 (gF g)) (F0 m 0 ls []) by rw [eH, el] at hw; exact hw
    clear eH el
    refine lv_iload_n C.1.1 C.1.2.1 dX8_byteAt_0 rfl (lv_at hl 1 rfl) ?_
    refine lv_aload_n C.1.1 C.1.2.1 dX8_byteAt_1 rfl (lv_at hl 0 rfl) ?_
    refine gi_RX8_50 C w hm_0 lm_0 rfl dX8_byteAt_2 ?_
    refine lv_icmp_ge (tgt := 17) C.1.1 C.1.2.1 dX8_byteAt_5 (by decide) (fun hc1 => ?_) (fun hc1 => ?_)
    · replace h := h.1 hc1
      refine lv_bipush (v := (-4)) C.1.1 C.1.2.1 dX8_byteAt_17 (by decide) ?_
      exact q_iret C hr hk w rfl ⟨rfl, h⟩ dX8_byteAt_19
    · replace h := h.2 hc1
      refine lv_aload_n C.1.1 C.1.2.1 dX8_byteAt_8 rfl (lv_at hl 0 rfl) ?_
      refine gr_RX8_16 C w hm_0 lm_0 rfl dX8_byteAt_9 ?_
      refine lv_iload_n C.1.1 C.1.2.1 dX8_byteAt_12 rfl (lv_at hl 1 rfl) ?_
      refine q_ial C w hm_3 lm_3 h.1 dX8_byteAt_13 ?_
      replace h := h.2
      refine lv_goto (tgt := 19) C.1.1 C.1.2.1 dX8_byteAt_14 (by decide) ?_
      exact q_iret C hr hk w rfl ⟨rfl, h⟩ dX8_byteAt_19)
-- fails
set_option maxHeartbeats 4000000 in
set_option maxRecDepth 100000 in
theorem c_X8_fails {l : Launch} {g : Gt} {x1 : Int32} {M : Mem} {Q : Mem → Prop} (h : w_X8_fails x1 M Q) : MV l yX8_fails cX8_fails 2 none 0 0 g layM 12 [.ref (ga g 0), .int x1] M Q :=
  m_of (by decide +kernel) (Nat.le_of_ble_eq_true rfl) (fun p e s m args below meth c ls C hr hk w hl => by
    have C : Cx p s m args c cX8_fails 2 RX8 g := C
    have hl : lv_has ls 2 [(0, .ref (ga g 0)), (1, .int x1)] := hl
    unfold w_X8_fails at h
    obtain ⟨H, eH⟩ : ∃ H : Heap, H = s.heap := ⟨_, rfl⟩
    obtain ⟨locs, el⟩ : ∃ locs : List Loc, locs = [] := ⟨_, rfl⟩
    have w : Wd g layM 12 s.heap M H locs := by rw [eH, el]; exact w
    suffices hw : W p l e (rmOf 0 0) s m args below meth c H locs 0 0 (MQ below (va_Qv Q (PostW g layM 12) (gF g)) args s 0 0 (gF g)) (F0 m 0 ls []) by rw [eH, el] at hw; exact hw
    clear eH el
    refine lv_aload_n C.1.1 C.1.2.1 dX8_fails_0 rfl (lv_at hl 0 rfl) ?_
    refine gi_RX8_54 C w hm_0 lm_0 rfl dX8_fails_1 ?_
    refine lv_if_ne (tgt := 20) C.1.1 C.1.2.1 dX8_fails_4 (by decide) (fun hc1 => ?_) (fun hc1 => ?_)
    · replace h := h.2 hc1
      exact q_vret C hr hk w h dX8_fails_20
    · replace h := h.1 hc1
      refine lv_aload_n C.1.1 C.1.2.1 dX8_fails_7 rfl (lv_at hl 0 rfl) ?_
      refine lv_iload_n C.1.1 C.1.2.1 dX8_fails_8 rfl (lv_at hl 1 rfl) ?_
      refine pi_RX8_54 C w hm_0 lm_0 rfl dX8_fails_9 (fun M2 H locs eM2 w => ?_)
      replace h := h M2 eM2
      refine lv_aload_n C.1.1 C.1.2.1 dX8_fails_12 rfl (lv_at hl 0 rfl) ?_
      refine lv_aload_n C.1.1 C.1.2.1 dX8_fails_13 rfl (lv_at hl 0 rfl) ?_
      refine gi_RX8_57 C w hm_0 lm_0 rfl dX8_fails_14 ?_
      refine pi_RX8_60 C w hm_0 lm_0 rfl dX8_fails_17 (fun M3 H locs eM3 w => ?_)
      replace h := h M3 eM3
      exact q_vret C hr hk w h dX8_fails_20)
-- nameHere
set_option maxHeartbeats 4000000 in
set_option maxRecDepth 100000 in
theorem v_X8_nameHere_106 {x1 : Int32} {x2 : Int32} {M : Mem} {K2 : Int32 → Prop} {Q : Int32 → Prop} {H : Heap} {locs : List Loc} {ls : Array Slot} (C : Cx p s m args c cX8_nameHere 4 RX8 g) (hr : meth.sig.returnType = (some .int)) (hk : meth.locks = false) (hK2 : ∀ (x1 : Int32) (H : Heap) (locs : List Loc) (ls : Array Slot), K2 x1 → Wd g layM 12 s.heap M H locs → lv_has ls 4 [(0, .ref (ga g 0)), (1, .int x1)] → W p l e (rmOf 1 21) s m args below meth c H locs 0 0 (MQ below (va_Qi (fun r M9 => M9 = M ∧ Q r) (PostW g layM 12) (gF g)) args s 0 0 (gF g)) (F0 m 2 ls [])) (h : w_X8_nameHere_106 x1 x2 M K2 Q) (w : Wd g layM 12 s.heap M H locs) (hl : lv_has ls 4 [(0, .ref (ga g 0)), (1, .int x1), (2, .int x2)]) : W p l e (rmOf 1 21) s m args below meth c H locs 0 0 (MQ below (va_Qi (fun r M9 => M9 = M ∧ Q r) (PostW g layM 12) (gF g)) args s 0 0 (gF g)) (F0 m 106 ls []) := by
  unfold w_X8_nameHere_106 at h
  refine lv_iload_n C.1.1 C.1.2.1 dX8_nameHere_106 rfl (lv_at hl 2 rfl) ?_
  refine lv_if_eq (tgt := 112) C.1.1 C.1.2.1 dX8_nameHere_107 (by decide) (fun hc6 => ?_) (fun hc6 => ?_)
  · replace h := h.1 hc6
    refine lv_iinc (v := x1 + 1) (lv' := [(1, .int (x1 + 1)), (0, .ref (ga g 0)), (2, .int x2)]) C.1.1 C.1.2.1 dX8_nameHere_112 hl (k := 1) rfl rfl (by decide) rfl (fun ls hl => ?_)
    refine lv_goto (tgt := 2) C.1.1 C.1.2.1 dX8_nameHere_115 (by decide) ?_
    exact hK2 _ _ _ _ h w (lv_sub hl [1, 0] rfl)
  · replace h := h.2 hc6
    refine lv_iload_n C.1.1 C.1.2.1 dX8_nameHere_110 rfl (lv_at hl 1 rfl) ?_
    exact q_iret C hr hk w rfl ⟨rfl, h⟩ dX8_nameHere_111
set_option maxHeartbeats 4000000 in
set_option maxRecDepth 100000 in
theorem v_X8_nameHere_51 {x1 : Int32} {x2 : Int32} {x3 : Int32} {M : Mem} {K2 : Int32 → Prop} {K51 : Int32 → Int32 → Prop} {Q : Int32 → Prop} {H : Heap} {locs : List Loc} {ls : Array Slot} (C : Cx p s m args c cX8_nameHere 4 RX8 g) (hr : meth.sig.returnType = (some .int)) (hk : meth.locks = false) (hK2 : ∀ (x1 : Int32) (H : Heap) (locs : List Loc) (ls : Array Slot), K2 x1 → Wd g layM 12 s.heap M H locs → lv_has ls 4 [(0, .ref (ga g 0)), (1, .int x1)] → W p l e (rmOf 1 21) s m args below meth c H locs 0 0 (MQ below (va_Qi (fun r M9 => M9 = M ∧ Q r) (PostW g layM 12) (gF g)) args s 0 0 (gF g)) (F0 m 2 ls [])) (hK51 : ∀ (x2 : Int32) (x3 : Int32) (H : Heap) (locs : List Loc) (ls : Array Slot), K51 x2 x3 → Wd g layM 12 s.heap M H locs → lv_has ls 4 [(0, .ref (ga g 0)), (1, .int x1), (2, .int x2), (3, .int x3)] → W p l e (rmOf 1 21) s m args below meth c H locs 0 0 (MQ below (va_Qi (fun r M9 => M9 = M ∧ Q r) (PostW g layM 12) (gF g)) args s 0 0 (gF g)) (F0 m 51 ls [])) (h : w_X8_nameHere_51 x1 M K2 Q K51 x2 x3) (w : Wd g layM 12 s.heap M H locs) (hl : lv_has ls 4 [(0, .ref (ga g 0)), (1, .int x1), (2, .int x2), (3, .int x3)]) : W p l e (rmOf 1 21) s m args below meth c H locs 0 0 (MQ below (va_Qi (fun r M9 => M9 = M ∧ Q r) (PostW g layM 12) (gF g)) args s 0 0 (gF g)) (F0 m 51 ls []) := by
  unfold w_X8_nameHere_51 at h
  refine lv_iload_n C.1.1 C.1.2.1 dX8_nameHere_51 rfl (lv_at hl 2 rfl) ?_
  refine lv_if_eq (tgt := 106) C.1.1 C.1.2.1 dX8_nameHere_52 (by decide) (fun hc5 => ?_) (fun hc5 => ?_)
  · replace h := h.1 hc5
    exact v_X8_nameHere_106 C hr hk  hK2 h w (lv_sub hl [0, 1, 2] rfl)
  · replace h := h.2 hc5
    refine lv_iload_n C.1.1 C.1.2.1 dX8_nameHere_55 rfl (lv_at hl 3 rfl) ?_
    refine lv_aload_n C.1.1 C.1.2.1 dX8_nameHere_56 rfl (lv_at hl 0 rfl) ?_
    refine gi_RX8_66 C w hm_0 lm_0 rfl dX8_nameHere_57 ?_
    refine lv_aload_n C.1.1 C.1.2.1 dX8_nameHere_60 rfl (lv_at hl 0 rfl) ?_
    refine gi_RX8_57 C w hm_0 lm_0 rfl dX8_nameHere_61 ?_
    refine lv_isub C.1.1 C.1.2.1 dX8_nameHere_64 ?_
    refine lv_icmp_ge (tgt := 106) C.1.1 C.1.2.1 dX8_nameHere_65 (by decide) (fun hc7 => ?_) (fun hc7 => ?_)
    · replace h := h.1 hc7
      exact v_X8_nameHere_106 C hr hk  hK2 h w (lv_sub hl [0, 1, 2] rfl)
    · replace h := h.2 hc7
      refine lv_aload_n C.1.1 C.1.2.1 dX8_nameHere_68 rfl (lv_at hl 0 rfl) ?_
      refine lv_aload_n C.1.1 C.1.2.1 dX8_nameHere_69 rfl (lv_at hl 0 rfl) ?_
      refine gi_RX8_57 C w hm_0 lm_0 rfl dX8_nameHere_70 ?_
      refine lv_iload_n C.1.1 C.1.2.1 dX8_nameHere_73 rfl (lv_at hl 3 rfl) ?_
      refine lv_iadd C.1.1 C.1.2.1 dX8_nameHere_74 ?_
      refine q_pVi C w [.int ((M 0 11) + x3)] (c_X8_byteAt  h) kv_X8_byteAt k_96 (rcv C w kc_X8 hm_0 lm_0) rfl hl.1 (Nat.le_of_ble_eq_true rfl) ⟨Nat.le_of_ble_eq_true rfl, Nat.le_of_ble_eq_true rfl⟩ dX8_nameHere_75 (fun r8 H locs h w => ?_)
      refine lv_aload_n C.1.1 C.1.2.1 dX8_nameHere_78 rfl (lv_at hl 0 rfl) ?_
      refine gr_RX8_22 C w hm_0 lm_0 rfl dX8_nameHere_79 ?_
      refine lv_aload_n C.1.1 C.1.2.1 dX8_nameHere_82 rfl (lv_at hl 0 rfl) ?_
      refine gr_RX8_19 C w hm_0 lm_0 rfl dX8_nameHere_83 ?_
      refine lv_iload_n C.1.1 C.1.2.1 dX8_nameHere_86 rfl (lv_at hl 1 rfl) ?_
      refine q_ial C w hm_4 lm_4 h.1 dX8_nameHere_87 ?_
      replace h := h.2
      refine lv_iload_n C.1.1 C.1.2.1 dX8_nameHere_88 rfl (lv_at hl 3 rfl) ?_
      refine lv_iadd C.1.1 C.1.2.1 dX8_nameHere_89 ?_
      refine q_ial C w hm_5 lm_5 h.1 dX8_nameHere_90 ?_
      replace h := h.2
      have J : ∀ ls : Array Slot, lv_has ls 4 [(0, .ref (ga g 0)), (1, .int x1), (3, .int x3)] → W p l e (rmOf 1 21) s m args below meth c H locs 0 0 (MQ below (va_Qi (fun r M9 => M9 = M ∧ Q r) (PostW g layM 12) (gF g)) args s 0 0 (gF g)) (F0 m 99 ls [.int (if r8 = (M 5 ((M 4 x1.toNatClampNeg) + x3).toNatClampNeg) then (1 : Int32) else 0)]) := by
        intro ls hl
        refine lv_topi (fun v10 ev10 => ?_)
        replace h := h v10 ev10
        refine lv_istore_n (lv' := [(2, .int v10), (0, .ref (ga g 0)), (1, .int x1), (3, .int x3)]) C.1.1 C.1.2.1 dX8_nameHere_99 rfl hl (by decide) rfl (fun ls hl => ?_)
        refine lv_iinc (v := x3 + 1) (lv' := [(3, .int (x3 + 1)), (2, .int v10), (0, .ref (ga g 0)), (1, .int x1)]) C.1.1 C.1.2.1 dX8_nameHere_100 hl (k := 3) rfl rfl (by decide) rfl (fun ls hl => ?_)
        refine lv_goto (tgt := 51) C.1.1 C.1.2.1 dX8_nameHere_103 (by decide) ?_
        exact hK51 _ _ _ _ _ h w (lv_sub hl [2, 3, 1, 0] rfl)
      refine lv_icmp_ne (tgt := 98) C.1.1 C.1.2.1 dX8_nameHere_91 (by decide) (fun hc9 => ?_) (fun hc9 => ?_)
      · refine lv_iconst (v := 0) C.1.1 C.1.2.1 dX8_nameHere_98 (by decide) ?_
        simp only [if_neg hc9] at J hl
        exact J ls (lv_sub hl [0, 1, 3] rfl)
      · refine lv_iconst (v := 1) C.1.1 C.1.2.1 dX8_nameHere_94 (by decide) ?_
        refine lv_goto (tgt := 99) C.1.1 C.1.2.1 dX8_nameHere_95 (by decide) ?_
        simp only [if_pos hc9] at J hl
        exact J ls (lv_sub hl [0, 1, 3] rfl)
set_option maxHeartbeats 4000000 in
set_option maxRecDepth 100000 in
theorem l_X8_nameHere_51 {x1 : Int32} {M : Mem} {K2 : Int32 → Prop} {Q : Int32 → Prop} (C : Cx p s m args c cX8_nameHere 4 RX8 g) (hr : meth.sig.returnType = (some .int)) (hk : meth.locks = false) (hK2 : ∀ (x1 : Int32) (H : Heap) (locs : List Loc) (ls : Array Slot), K2 x1 → Wd g layM 12 s.heap M H locs → lv_has ls 4 [(0, .ref (ga g 0)), (1, .int x1)] → W p l e (rmOf 1 21) s m args below meth c H locs 0 0 (MQ below (va_Qi (fun r M9 => M9 = M ∧ Q r) (PostW g layM 12) (gF g)) args s 0 0 (gF g)) (F0 m 2 ls [])) : ∀ (n : Nat) (x2 : Int32) (x3 : Int32) (H : Heap) (locs : List Loc) (ls : Array Slot), fu2 (w_X8_nameHere_51 x1 M K2 Q) n x2 x3 → Wd g layM 12 s.heap M H locs → lv_has ls 4 [(0, .ref (ga g 0)), (1, .int x1), (2, .int x2), (3, .int x3)] → W p l e (rmOf 1 21) s m args below meth c H locs 0 0 (MQ below (va_Qi (fun r M9 => M9 = M ∧ Q r) (PostW g layM 12) (gF g)) args s 0 0 (gF g)) (F0 m 51 ls []) := by
  intro n
  induction n with
  | zero => intro x2 x3 H locs ls h; exact h.elim
  | succ n ih => intro x2 x3 H locs ls h w hl; exact v_X8_nameHere_51 C hr hk  hK2 ih h w hl
set_option maxHeartbeats 4000000 in
set_option maxRecDepth 100000 in
theorem v_X8_nameHere_2 {x1 : Int32} {M : Mem} {K2 : Int32 → Prop} {Q : Int32 → Prop} {H : Heap} {locs : List Loc} {ls : Array Slot} (C : Cx p s m args c cX8_nameHere 4 RX8 g) (hr : meth.sig.returnType = (some .int)) (hk : meth.locks = false) (hK2 : ∀ (x1 : Int32) (H : Heap) (locs : List Loc) (ls : Array Slot), K2 x1 → Wd g layM 12 s.heap M H locs → lv_has ls 4 [(0, .ref (ga g 0)), (1, .int x1)] → W p l e (rmOf 1 21) s m args below meth c H locs 0 0 (MQ below (va_Qi (fun r M9 => M9 = M ∧ Q r) (PostW g layM 12) (gF g)) args s 0 0 (gF g)) (F0 m 2 ls [])) (h : w_X8_nameHere_2 M Q K2 x1) (w : Wd g layM 12 s.heap M H locs) (hl : lv_has ls 4 [(0, .ref (ga g 0)), (1, .int x1)]) : W p l e (rmOf 1 21) s m args below meth c H locs 0 0 (MQ below (va_Qi (fun r M9 => M9 = M ∧ Q r) (PostW g layM 12) (gF g)) args s 0 0 (gF g)) (F0 m 2 ls []) := by
  unfold w_X8_nameHere_2 at h
  refine lv_iload_n C.1.1 C.1.2.1 dX8_nameHere_2 rfl (lv_at hl 1 rfl) ?_
  refine lv_bipush (v := 6) C.1.1 C.1.2.1 dX8_nameHere_3 (by decide) ?_
  refine lv_icmp_ge (tgt := 118) C.1.1 C.1.2.1 dX8_nameHere_5 (by decide) (fun hc1 => ?_) (fun hc1 => ?_)
  · replace h := h.1 hc1
    refine lv_bipush (v := (-4)) C.1.1 C.1.2.1 dX8_nameHere_118 (by decide) ?_
    exact q_iret C hr hk w rfl ⟨rfl, h⟩ dX8_nameHere_120
  · replace h := h.2 hc1
    refine lv_aload_n C.1.1 C.1.2.1 dX8_nameHere_8 rfl (lv_at hl 0 rfl) ?_
    refine gi_RX8_63 C w hm_0 lm_0 rfl dX8_nameHere_9 ?_
    refine lv_iconst (v := 1) C.1.1 C.1.2.1 dX8_nameHere_12 (by decide) ?_
    refine lv_icmp_ne (tgt := 118) C.1.1 C.1.2.1 dX8_nameHere_13 (by decide) (fun hc2 => ?_) (fun hc2 => ?_)
    · replace h := h.2 hc2
      refine lv_bipush (v := (-4)) C.1.1 C.1.2.1 dX8_nameHere_118 (by decide) ?_
      exact q_iret C hr hk w rfl ⟨rfl, h⟩ dX8_nameHere_120
    · replace h := h.1 hc2
      refine lv_aload_n C.1.1 C.1.2.1 dX8_nameHere_16 rfl (lv_at hl 0 rfl) ?_
      refine gi_RX8_66 C w hm_0 lm_0 rfl dX8_nameHere_17 ?_
      refine lv_aload_n C.1.1 C.1.2.1 dX8_nameHere_20 rfl (lv_at hl 0 rfl) ?_
      refine gi_RX8_57 C w hm_0 lm_0 rfl dX8_nameHere_21 ?_
      refine lv_isub C.1.1 C.1.2.1 dX8_nameHere_24 ?_
      refine lv_aload_n C.1.1 C.1.2.1 dX8_nameHere_25 rfl (lv_at hl 0 rfl) ?_
      refine gr_RX8_19 C w hm_0 lm_0 rfl dX8_nameHere_26 ?_
      refine lv_iload_n C.1.1 C.1.2.1 dX8_nameHere_29 rfl (lv_at hl 1 rfl) ?_
      refine lv_iconst (v := 1) C.1.1 C.1.2.1 dX8_nameHere_30 (by decide) ?_
      refine lv_iadd C.1.1 C.1.2.1 dX8_nameHere_31 ?_
      refine q_ial C w hm_4 lm_4 h.1 dX8_nameHere_32 ?_
      replace h := h.2
      refine lv_aload_n C.1.1 C.1.2.1 dX8_nameHere_33 rfl (lv_at hl 0 rfl) ?_
      refine gr_RX8_19 C w hm_0 lm_0 rfl dX8_nameHere_34 ?_
      refine lv_iload_n C.1.1 C.1.2.1 dX8_nameHere_37 rfl (lv_at hl 1 rfl) ?_
      refine q_ial C w hm_4 lm_4 h.1 dX8_nameHere_38 ?_
      replace h := h.2
      refine lv_isub C.1.1 C.1.2.1 dX8_nameHere_39 ?_
      have J : ∀ ls : Array Slot, lv_has ls 4 [(0, .ref (ga g 0)), (1, .int x1)] → W p l e (rmOf 1 21) s m args below meth c H locs 0 0 (MQ below (va_Qi (fun r M9 => M9 = M ∧ Q r) (PostW g layM 12) (gF g)) args s 0 0 (gF g)) (F0 m 48 ls [.int (if ((M 0 10) - (M 0 11)) = ((M 4 (x1 + 1).toNatClampNeg) - (M 4 x1.toNatClampNeg)) then (1 : Int32) else 0)]) := by
        intro ls hl
        refine lv_topi (fun v4 ev4 => ?_)
        replace h := h v4 ev4
        refine lv_istore_n (lv' := [(2, .int v4), (0, .ref (ga g 0)), (1, .int x1)]) C.1.1 C.1.2.1 dX8_nameHere_48 rfl hl (by decide) rfl (fun ls hl => ?_)
        refine lv_iconst (v := 0) C.1.1 C.1.2.1 dX8_nameHere_49 (by decide) ?_
        refine lv_istore_n (lv' := [(3, .int 0), (2, .int v4), (0, .ref (ga g 0)), (1, .int x1)]) C.1.1 C.1.2.1 dX8_nameHere_50 rfl hl (by decide) rfl (fun ls hl => ?_)
        obtain ⟨n, h⟩ := h
        exact l_X8_nameHere_51 C hr hk  hK2 n _ _ _ _ _ h w (lv_sub hl [2, 3, 1, 0] rfl)
      refine lv_icmp_ne (tgt := 47) C.1.1 C.1.2.1 dX8_nameHere_40 (by decide) (fun hc3 => ?_) (fun hc3 => ?_)
      · refine lv_iconst (v := 0) C.1.1 C.1.2.1 dX8_nameHere_47 (by decide) ?_
        simp only [if_neg hc3] at J hl
        exact J ls (lv_sub hl [0, 1] rfl)
      · refine lv_iconst (v := 1) C.1.1 C.1.2.1 dX8_nameHere_43 (by decide) ?_
        refine lv_goto (tgt := 48) C.1.1 C.1.2.1 dX8_nameHere_44 (by decide) ?_
        simp only [if_pos hc3] at J hl
        exact J ls (lv_sub hl [0, 1] rfl)
set_option maxHeartbeats 4000000 in
set_option maxRecDepth 100000 in
theorem l_X8_nameHere_2 {M : Mem} {Q : Int32 → Prop} (C : Cx p s m args c cX8_nameHere 4 RX8 g) (hr : meth.sig.returnType = (some .int)) (hk : meth.locks = false)  : ∀ (n : Nat) (x1 : Int32) (H : Heap) (locs : List Loc) (ls : Array Slot), fu1 (w_X8_nameHere_2 M Q) n x1 → Wd g layM 12 s.heap M H locs → lv_has ls 4 [(0, .ref (ga g 0)), (1, .int x1)] → W p l e (rmOf 1 21) s m args below meth c H locs 0 0 (MQ below (va_Qi (fun r M9 => M9 = M ∧ Q r) (PostW g layM 12) (gF g)) args s 0 0 (gF g)) (F0 m 2 ls []) := by
  intro n
  induction n with
  | zero => intro x1 H locs ls h; exact h.elim
  | succ n ih => intro x1 H locs ls h w hl; exact v_X8_nameHere_2 C hr hk   ih h w hl
set_option maxHeartbeats 4000000 in
set_option maxRecDepth 100000 in
theorem c_X8_nameHere {l : Launch} {g : Gt} {M : Mem} {Q : Int32 → Prop} (h : w_X8_nameHere M Q) : MI l yX8_nameHere cX8_nameHere 4 (some .int) 1 21 g layM 12 [.ref (ga g 0)] M (fun r M9 => M9 = M ∧ Q r) :=
  m_of (by decide +kernel) (Nat.le_of_ble_eq_true rfl) (fun p e s m args below meth c ls C hr hk w hl => by
    have C : Cx p s m args c cX8_nameHere 4 RX8 g := C
    have hl : lv_has ls 4 [(0, .ref (ga g 0))] := hl
    unfold w_X8_nameHere at h
    obtain ⟨H, eH⟩ : ∃ H : Heap, H = s.heap := ⟨_, rfl⟩
    obtain ⟨locs, el⟩ : ∃ locs : List Loc, locs = [] := ⟨_, rfl⟩
    have w : Wd g layM 12 s.heap M H locs := by rw [eH, el]; exact w
    suffices hw : W p l e (rmOf 1 21) s m args below meth c H locs 0 0 (MQ below (va_Qi (fun r M9 => M9 = M ∧ Q r) (PostW g layM 12) (gF g)) args s 0 0 (gF g)) (F0 m 0 ls []) by rw [eH, el] at hw; exact hw
    clear eH el
    refine lv_iconst (v := 0) C.1.1 C.1.2.1 dX8_nameHere_0 (by decide) ?_
    refine lv_istore_n (lv' := [(1, .int 0), (0, .ref (ga g 0))]) C.1.1 C.1.2.1 dX8_nameHere_1 rfl hl (by decide) rfl (fun ls hl => ?_)
    obtain ⟨n, h⟩ := h
    exact l_X8_nameHere_2 C hr hk   n _ _ _ _ h w (lv_sub hl [1, 0] rfl))
-- step
set_option maxHeartbeats 4000000 in
set_option maxRecDepth 100000 in
theorem v_X8_step_217 {M : Mem} {Q : Mem → Prop} {H : Heap} {locs : List Loc} {ls : Array Slot} (C : Cx p s m args c cX8_step 2 RX8 g) (hr : meth.sig.returnType = none) (hk : meth.locks = false)  (h : w_X8_step_217 M Q) (w : Wd g layM 12 s.heap M H locs) (hl : lv_has ls 2 [(0, .ref (ga g 0))]) : W p l e (rmOf 1 25) s m args below meth c H locs 0 0 (MQ below (va_Qv Q (PostW g layM 12) (gF g)) args s 0 0 (gF g)) (F0 m 217 ls []) := by
  unfold w_X8_step_217 at h
  refine lv_aload_n C.1.1 C.1.2.1 dX8_step_217 rfl (lv_at hl 0 rfl) ?_
  refine lv_iconst (v := 2) C.1.1 C.1.2.1 dX8_step_218 (by decide) ?_
  refine pi_RX8_63 C w hm_0 lm_0 rfl dX8_step_219 (fun M20 H locs eM20 w => ?_)
  replace h := h M20 eM20
  refine lv_aload_n C.1.1 C.1.2.1 dX8_step_222 rfl (lv_at hl 0 rfl) ?_
  refine gi_RX8_66 C w hm_0 lm_0 rfl dX8_step_223 ?_
  refine lv_aload_n C.1.1 C.1.2.1 dX8_step_226 rfl (lv_at hl 0 rfl) ?_
  refine gi_RX8_57 C w hm_0 lm_0 rfl dX8_step_227 ?_
  refine lv_isub C.1.1 C.1.2.1 dX8_step_230 ?_
  refine lv_iconst (v := 2) C.1.1 C.1.2.1 dX8_step_231 (by decide) ?_
  refine lv_icmp_le (tgt := 269) C.1.1 C.1.2.1 dX8_step_232 (by decide) (fun hc21 => ?_) (fun hc21 => ?_)
  · replace h := h.1 hc21
    exact q_vret C hr hk w h dX8_step_269
  · replace h := h.2 hc21
    refine lv_aload_n C.1.1 C.1.2.1 dX8_step_235 rfl (lv_at hl 0 rfl) ?_
    refine lv_iconst (v := 1) C.1.1 C.1.2.1 dX8_step_236 (by decide) ?_
    refine q_cVv C w [.int 1] (c_X8_fails  h) kv_X8_fails k_101 (rcv C w kc_X8 hm_0 lm_0) rfl hl.1 (Nat.le_of_ble_eq_true rfl) ⟨Nat.le_of_ble_eq_true rfl, Nat.le_of_ble_eq_true rfl⟩ dX8_step_237 (fun M23 H locs h w => ?_)
    refine lv_goto (tgt := 269) C.1.1 C.1.2.1 dX8_step_240 (by decide) ?_
    exact q_vret C hr hk w h dX8_step_269
set_option maxHeartbeats 4000000 in
set_option maxRecDepth 100000 in
theorem v_X8_step_201 {t0 : Int32} {M : Mem} {K140 : Mem → Prop} {Q : Mem → Prop} {H : Heap} {locs : List Loc} {ls : Array Slot} (C : Cx p s m args c cX8_step 2 RX8 g) (hr : meth.sig.returnType = none) (hk : meth.locks = false) (hK140 : ∀  (M : Mem) (H : Heap) (locs : List Loc) (ls : Array Slot), K140 M → Wd g layM 12 s.heap M H locs → lv_has ls 2 [(0, .ref (ga g 0))] → W p l e (rmOf 1 25) s m args below meth c H locs 0 0 (MQ below (va_Qv Q (PostW g layM 12) (gF g)) args s 0 0 (gF g)) (F0 m 140 ls [])) (h : w_X8_step_201 t0 M K140 Q) (w : Wd g layM 12 s.heap M H locs) (hl : lv_has ls 2 [(0, .ref (ga g 0))]) : W p l e (rmOf 1 25) s m args below meth c H locs 0 0 (MQ below (va_Qv Q (PostW g layM 12) (gF g)) args s 0 0 (gF g)) (F0 m 201 ls [.int t0, .ref (ga g 0)]) := by
  unfold w_X8_step_201 at h
  refine pi_RX8_73 C w hm_0 lm_0 rfl dX8_step_201 (fun M25 H locs eM25 w => ?_)
  replace h := h M25 eM25
  refine lv_aload_n C.1.1 C.1.2.1 dX8_step_204 rfl (lv_at hl 0 rfl) ?_
  refine lv_dup C.1.1 C.1.2.1 dX8_step_205 rfl ?_
  refine gi_RX8_66 C w hm_0 lm_0 rfl dX8_step_206 ?_
  refine lv_iconst (v := 1) C.1.1 C.1.2.1 dX8_step_209 (by decide) ?_
  refine lv_iadd C.1.1 C.1.2.1 dX8_step_210 ?_
  refine pi_RX8_66 C w hm_0 lm_0 rfl dX8_step_211 (fun M26 H locs eM26 w => ?_)
  replace h := h M26 eM26
  refine lv_goto (tgt := 140) C.1.1 C.1.2.1 dX8_step_214 (by decide) ?_
  exact hK140 _ _ _ _ h w (lv_sub hl [0] rfl)
set_option maxHeartbeats 4000000 in
set_option maxRecDepth 100000 in
theorem v_X8_step_140 {M : Mem} {K140 : Mem → Prop} {Q : Mem → Prop} {H : Heap} {locs : List Loc} {ls : Array Slot} (C : Cx p s m args c cX8_step 2 RX8 g) (hr : meth.sig.returnType = none) (hk : meth.locks = false) (hK140 : ∀  (M : Mem) (H : Heap) (locs : List Loc) (ls : Array Slot), K140 M → Wd g layM 12 s.heap M H locs → lv_has ls 2 [(0, .ref (ga g 0))] → W p l e (rmOf 1 25) s m args below meth c H locs 0 0 (MQ below (va_Qv Q (PostW g layM 12) (gF g)) args s 0 0 (gF g)) (F0 m 140 ls [])) (h : w_X8_step_140 Q K140 M) (w : Wd g layM 12 s.heap M H locs) (hl : lv_has ls 2 [(0, .ref (ga g 0))]) : W p l e (rmOf 1 25) s m args below meth c H locs 0 0 (MQ below (va_Qv Q (PostW g layM 12) (gF g)) args s 0 0 (gF g)) (F0 m 140 ls []) := by
  unfold w_X8_step_140 at h
  refine lv_aload_n C.1.1 C.1.2.1 dX8_step_140 rfl (lv_at hl 0 rfl) ?_
  refine lv_aload_n C.1.1 C.1.2.1 dX8_step_141 rfl (lv_at hl 0 rfl) ?_
  refine gi_RX8_66 C w hm_0 lm_0 rfl dX8_step_142 ?_
  refine q_pVi C w [.int (M 0 10)] (c_X8_byteAt  h) kv_X8_byteAt k_96 (rcv C w kc_X8 hm_0 lm_0) rfl hl.1 (Nat.le_of_ble_eq_true rfl) ⟨Nat.le_of_ble_eq_true rfl, Nat.le_of_ble_eq_true rfl⟩ dX8_step_145 (fun r17 H locs h w => ?_)
  refine lv_i2l C.1.1 C.1.2.1 dX8_step_148 rfl ?_
  refine q_ldc2 C k_99 dX8_step_149 ?_
  refine q_ldc2 C k_100 dX8_step_152 ?_
  refine q_pSi C w [.long (r17.toInt64), .long 48, .long 57] (c_X8_in  h) ks_X8_in k_95  rfl hl.1 (Nat.le_of_ble_eq_true rfl) ⟨Nat.le_of_ble_eq_true rfl, Nat.le_of_ble_eq_true rfl⟩ dX8_step_155 (fun r18 H locs h w => ?_)
  refine lv_if_eq (tgt := 217) C.1.1 C.1.2.1 dX8_step_158 (by decide) (fun hc19 => ?_) (fun hc19 => ?_)
  · replace h := h.1 hc19
    exact v_X8_step_217 C hr hk   h w (lv_sub hl [0] rfl)
  · replace h := h.2 hc19
    refine lv_aload_n C.1.1 C.1.2.1 dX8_step_161 rfl (lv_at hl 0 rfl) ?_
    refine lv_aload_n C.1.1 C.1.2.1 dX8_step_162 rfl (lv_at hl 0 rfl) ?_
    refine gi_RX8_66 C w hm_0 lm_0 rfl dX8_step_163 ?_
    refine lv_aload_n C.1.1 C.1.2.1 dX8_step_166 rfl (lv_at hl 0 rfl) ?_
    refine gi_RX8_57 C w hm_0 lm_0 rfl dX8_step_167 ?_
    refine lv_isub C.1.1 C.1.2.1 dX8_step_170 ?_
    refine lv_iconst (v := 2) C.1.1 C.1.2.1 dX8_step_171 (by decide) ?_
    refine lv_icmp_ge (tgt := 197) C.1.1 C.1.2.1 dX8_step_172 (by decide) (fun hc24 => ?_) (fun hc24 => ?_)
    · replace h := h.1 hc24
      refine lv_aload_n C.1.1 C.1.2.1 dX8_step_197 rfl (lv_at hl 0 rfl) ?_
      refine gi_RX8_73 C w hm_0 lm_0 rfl dX8_step_198 ?_
      exact v_X8_step_201 C hr hk  hK140 h w (lv_sub hl [0] rfl)
    · replace h := h.2 hc24
      refine lv_bipush (v := 10) C.1.1 C.1.2.1 dX8_step_175 (by decide) ?_
      refine lv_aload_n C.1.1 C.1.2.1 dX8_step_177 rfl (lv_at hl 0 rfl) ?_
      refine gi_RX8_73 C w hm_0 lm_0 rfl dX8_step_178 ?_
      refine lv_imul C.1.1 C.1.2.1 dX8_step_181 ?_
      refine lv_aload_n C.1.1 C.1.2.1 dX8_step_182 rfl (lv_at hl 0 rfl) ?_
      refine lv_aload_n C.1.1 C.1.2.1 dX8_step_183 rfl (lv_at hl 0 rfl) ?_
      refine gi_RX8_66 C w hm_0 lm_0 rfl dX8_step_184 ?_
      refine q_pVi C w [.int (M 0 10)] (c_X8_byteAt  h) kv_X8_byteAt k_96 (rcv C w kc_X8 hm_0 lm_0) rfl hl.1 (Nat.le_of_ble_eq_true rfl) ⟨Nat.le_of_ble_eq_true rfl, Nat.le_of_ble_eq_true rfl⟩ dX8_step_187 (fun r27 H locs h w => ?_)
      refine lv_iadd C.1.1 C.1.2.1 dX8_step_190 ?_
      refine lv_bipush (v := 48) C.1.1 C.1.2.1 dX8_step_191 (by decide) ?_
      refine lv_isub C.1.1 C.1.2.1 dX8_step_193 ?_
      refine lv_goto (tgt := 201) C.1.1 C.1.2.1 dX8_step_194 (by decide) ?_
      exact v_X8_step_201 C hr hk  hK140 h w (lv_sub hl [0] rfl)
set_option maxHeartbeats 4000000 in
set_option maxRecDepth 100000 in
theorem l_X8_step_140 {Q : Mem → Prop} (C : Cx p s m args c cX8_step 2 RX8 g) (hr : meth.sig.returnType = none) (hk : meth.locks = false)  : ∀ (n : Nat)  (M : Mem) (H : Heap) (locs : List Loc) (ls : Array Slot), fu1 (w_X8_step_140 Q) n M → Wd g layM 12 s.heap M H locs → lv_has ls 2 [(0, .ref (ga g 0))] → W p l e (rmOf 1 25) s m args below meth c H locs 0 0 (MQ below (va_Qv Q (PostW g layM 12) (gF g)) args s 0 0 (gF g)) (F0 m 140 ls []) := by
  intro n
  induction n with
  | zero => intro M H locs ls h; exact h.elim
  | succ n ih => intro M H locs ls h w hl; exact v_X8_step_140 C hr hk   ih h w hl
set_option maxHeartbeats 4000000 in
set_option maxRecDepth 100000 in
theorem v_X8_step_118 {M : Mem} {Q : Mem → Prop} {H : Heap} {locs : List Loc} {ls : Array Slot} (C : Cx p s m args c cX8_step 2 RX8 g) (hr : meth.sig.returnType = none) (hk : meth.locks = false)  (h : w_X8_step_118 M Q) (w : Wd g layM 12 s.heap M H locs) (hl : lv_has ls 2 [(0, .ref (ga g 0))]) : W p l e (rmOf 1 25) s m args below meth c H locs 0 0 (MQ below (va_Qv Q (PostW g layM 12) (gF g)) args s 0 0 (gF g)) (F0 m 118 ls []) := by
  unfold w_X8_step_118 at h
  refine lv_aload_n C.1.1 C.1.2.1 dX8_step_118 rfl (lv_at hl 0 rfl) ?_
  refine lv_iconst (v := 1) C.1.1 C.1.2.1 dX8_step_119 (by decide) ?_
  refine pi_RX8_63 C w hm_0 lm_0 rfl dX8_step_120 (fun M31 H locs eM31 w => ?_)
  replace h := h M31 eM31
  refine lv_goto (tgt := 269) C.1.1 C.1.2.1 dX8_step_123 (by decide) ?_
  exact q_vret C hr hk w h dX8_step_269
set_option maxHeartbeats 4000000 in
set_option maxRecDepth 100000 in
theorem v_X8_step_84 {M : Mem} {K84 : Mem → Prop} {Q : Mem → Prop} {H : Heap} {locs : List Loc} {ls : Array Slot} (C : Cx p s m args c cX8_step 2 RX8 g) (hr : meth.sig.returnType = none) (hk : meth.locks = false) (hK84 : ∀  (M : Mem) (H : Heap) (locs : List Loc) (ls : Array Slot), K84 M → Wd g layM 12 s.heap M H locs → lv_has ls 2 [(0, .ref (ga g 0))] → W p l e (rmOf 1 25) s m args below meth c H locs 0 0 (MQ below (va_Qv Q (PostW g layM 12) (gF g)) args s 0 0 (gF g)) (F0 m 84 ls [])) (h : w_X8_step_84 Q K84 M) (w : Wd g layM 12 s.heap M H locs) (hl : lv_has ls 2 [(0, .ref (ga g 0))]) : W p l e (rmOf 1 25) s m args below meth c H locs 0 0 (MQ below (va_Qv Q (PostW g layM 12) (gF g)) args s 0 0 (gF g)) (F0 m 84 ls []) := by
  unfold w_X8_step_84 at h
  refine lv_aload_n C.1.1 C.1.2.1 dX8_step_84 rfl (lv_at hl 0 rfl) ?_
  refine lv_aload_n C.1.1 C.1.2.1 dX8_step_85 rfl (lv_at hl 0 rfl) ?_
  refine gi_RX8_66 C w hm_0 lm_0 rfl dX8_step_86 ?_
  refine q_pVi C w [.int (M 0 10)] (c_X8_byteAt  h) kv_X8_byteAt k_96 (rcv C w kc_X8 hm_0 lm_0) rfl hl.1 (Nat.le_of_ble_eq_true rfl) ⟨Nat.le_of_ble_eq_true rfl, Nat.le_of_ble_eq_true rfl⟩ dX8_step_89 (fun r28 H locs h w => ?_)
  refine lv_i2l C.1.1 C.1.2.1 dX8_step_92 rfl ?_
  refine q_ldc2 C k_97 dX8_step_93 ?_
  refine q_ldc2 C k_98 dX8_step_96 ?_
  refine q_pSi C w [.long (r28.toInt64), .long 97, .long 122] (c_X8_in  h) ks_X8_in k_95  rfl hl.1 (Nat.le_of_ble_eq_true rfl) ⟨Nat.le_of_ble_eq_true rfl, Nat.le_of_ble_eq_true rfl⟩ dX8_step_99 (fun r29 H locs h w => ?_)
  refine lv_if_eq (tgt := 118) C.1.1 C.1.2.1 dX8_step_102 (by decide) (fun hc30 => ?_) (fun hc30 => ?_)
  · replace h := h.1 hc30
    exact v_X8_step_118 C hr hk   h w (lv_sub hl [0] rfl)
  · replace h := h.2 hc30
    refine lv_aload_n C.1.1 C.1.2.1 dX8_step_105 rfl (lv_at hl 0 rfl) ?_
    refine lv_dup C.1.1 C.1.2.1 dX8_step_106 rfl ?_
    refine gi_RX8_66 C w hm_0 lm_0 rfl dX8_step_107 ?_
    refine lv_iconst (v := 1) C.1.1 C.1.2.1 dX8_step_110 (by decide) ?_
    refine lv_iadd C.1.1 C.1.2.1 dX8_step_111 ?_
    refine pi_RX8_66 C w hm_0 lm_0 rfl dX8_step_112 (fun M32 H locs eM32 w => ?_)
    replace h := h M32 eM32
    refine lv_goto (tgt := 84) C.1.1 C.1.2.1 dX8_step_115 (by decide) ?_
    exact hK84 _ _ _ _ h w (lv_sub hl [0] rfl)
set_option maxHeartbeats 4000000 in
set_option maxRecDepth 100000 in
theorem l_X8_step_84 {Q : Mem → Prop} (C : Cx p s m args c cX8_step 2 RX8 g) (hr : meth.sig.returnType = none) (hk : meth.locks = false)  : ∀ (n : Nat)  (M : Mem) (H : Heap) (locs : List Loc) (ls : Array Slot), fu1 (w_X8_step_84 Q) n M → Wd g layM 12 s.heap M H locs → lv_has ls 2 [(0, .ref (ga g 0))] → W p l e (rmOf 1 25) s m args below meth c H locs 0 0 (MQ below (va_Qv Q (PostW g layM 12) (gF g)) args s 0 0 (gF g)) (F0 m 84 ls []) := by
  intro n
  induction n with
  | zero => intro M H locs ls h; exact h.elim
  | succ n ih => intro M H locs ls h w hl; exact v_X8_step_84 C hr hk   ih h w hl
set_option maxHeartbeats 4000000 in
set_option maxRecDepth 100000 in
theorem v_X8_step_34 {M : Mem} {Q : Mem → Prop} {H : Heap} {locs : List Loc} {ls : Array Slot} (C : Cx p s m args c cX8_step 2 RX8 g) (hr : meth.sig.returnType = none) (hk : meth.locks = false)  (h : w_X8_step_34 M Q) (w : Wd g layM 12 s.heap M H locs) (hl : lv_has ls 2 [(0, .ref (ga g 0))]) : W p l e (rmOf 1 25) s m args below meth c H locs 0 0 (MQ below (va_Qv Q (PostW g layM 12) (gF g)) args s 0 0 (gF g)) (F0 m 34 ls []) := by
  unfold w_X8_step_34 at h
  refine lv_aload_n C.1.1 C.1.2.1 dX8_step_34 rfl (lv_at hl 0 rfl) ?_
  refine lv_aload_n C.1.1 C.1.2.1 dX8_step_35 rfl (lv_at hl 0 rfl) ?_
  refine gi_RX8_66 C w hm_0 lm_0 rfl dX8_step_36 ?_
  refine pi_RX8_57 C w hm_0 lm_0 rfl dX8_step_39 (fun M4 H locs eM4 w => ?_)
  replace h := h M4 eM4
  refine lv_aload_n C.1.1 C.1.2.1 dX8_step_42 rfl (lv_at hl 0 rfl) ?_
  refine lv_aload_n C.1.1 C.1.2.1 dX8_step_43 rfl (lv_at hl 0 rfl) ?_
  refine gi_RX8_66 C w hm_0 lm_0 rfl dX8_step_44 ?_
  refine q_pVi C w [.int (M4 0 10)] (c_X8_byteAt  h) kv_X8_byteAt k_96 (rcv C w kc_X8 hm_0 lm_0) rfl hl.1 (Nat.le_of_ble_eq_true rfl) ⟨Nat.le_of_ble_eq_true rfl, Nat.le_of_ble_eq_true rfl⟩ dX8_step_47 (fun r5 H locs h w => ?_)
  refine lv_istore_n (lv' := [(1, .int r5), (0, .ref (ga g 0))]) C.1.1 C.1.2.1 dX8_step_50 rfl hl (by decide) rfl (fun ls hl => ?_)
  refine lv_aload_n C.1.1 C.1.2.1 dX8_step_51 rfl (lv_at hl 1 rfl) ?_
  refine lv_iconst (v := 0) C.1.1 C.1.2.1 dX8_step_52 (by decide) ?_
  refine pi_RX8_73 C w hm_0 lm_0 rfl dX8_step_53 (fun M6 H locs eM6 w => ?_)
  replace h := h M6 eM6
  refine lv_iload_n C.1.1 C.1.2.1 dX8_step_56 rfl (lv_at hl 0 rfl) ?_
  refine lv_bipush (v := (-4)) C.1.1 C.1.2.1 dX8_step_57 (by decide) ?_
  refine lv_icmp_ne (tgt := 70) C.1.1 C.1.2.1 dX8_step_59 (by decide) (fun hc7 => ?_) (fun hc7 => ?_)
  · replace h := h.2 hc7
    refine lv_iload_n C.1.1 C.1.2.1 dX8_step_70 rfl (lv_at hl 0 rfl) ?_
    refine lv_i2l C.1.1 C.1.2.1 dX8_step_71 rfl ?_
    refine q_ldc2 C k_97 dX8_step_72 ?_
    refine q_ldc2 C k_98 dX8_step_75 ?_
    refine q_pSi C w [.long (r5.toInt64), .long 97, .long 122] (c_X8_in  h) ks_X8_in k_95  rfl hl.1 (Nat.le_of_ble_eq_true rfl) ⟨Nat.le_of_ble_eq_true rfl, Nat.le_of_ble_eq_true rfl⟩ dX8_step_78 (fun r8 H locs h w => ?_)
    refine lv_if_eq (tgt := 126) C.1.1 C.1.2.1 dX8_step_81 (by decide) (fun hc9 => ?_) (fun hc9 => ?_)
    · replace h := h.1 hc9
      refine lv_iload_n C.1.1 C.1.2.1 dX8_step_126 rfl (lv_at hl 0 rfl) ?_
      refine lv_i2l C.1.1 C.1.2.1 dX8_step_127 rfl ?_
      refine q_ldc2 C k_99 dX8_step_128 ?_
      refine q_ldc2 C k_100 dX8_step_131 ?_
      refine q_pSi C w [.long (r5.toInt64), .long 48, .long 57] (c_X8_in  h) ks_X8_in k_95  rfl hl.1 (Nat.le_of_ble_eq_true rfl) ⟨Nat.le_of_ble_eq_true rfl, Nat.le_of_ble_eq_true rfl⟩ dX8_step_134 (fun r10 H locs h w => ?_)
      refine lv_if_eq (tgt := 243) C.1.1 C.1.2.1 dX8_step_137 (by decide) (fun hc11 => ?_) (fun hc11 => ?_)
      · replace h := h.1 hc11
        refine lv_aload_n C.1.1 C.1.2.1 dX8_step_243 rfl (lv_at hl 1 rfl) ?_
        refine lv_iconst (v := 3) C.1.1 C.1.2.1 dX8_step_244 (by decide) ?_
        refine pi_RX8_63 C w hm_0 lm_0 rfl dX8_step_245 (fun M12 H locs eM12 w => ?_)
        replace h := h M12 eM12
        refine lv_aload_n C.1.1 C.1.2.1 dX8_step_248 rfl (lv_at hl 1 rfl) ?_
        refine lv_dup C.1.1 C.1.2.1 dX8_step_249 rfl ?_
        refine gi_RX8_66 C w hm_0 lm_0 rfl dX8_step_250 ?_
        refine lv_iconst (v := 1) C.1.1 C.1.2.1 dX8_step_253 (by decide) ?_
        refine lv_iadd C.1.1 C.1.2.1 dX8_step_254 ?_
        refine pi_RX8_66 C w hm_0 lm_0 rfl dX8_step_255 (fun M13 H locs eM13 w => ?_)
        replace h := h M13 eM13
        refine lv_iload_n C.1.1 C.1.2.1 dX8_step_258 rfl (lv_at hl 0 rfl) ?_
        refine lv_bipush (v := 59) C.1.1 C.1.2.1 dX8_step_259 (by decide) ?_
        refine lv_icmp_eq (tgt := 269) C.1.1 C.1.2.1 dX8_step_261 (by decide) (fun hc14 => ?_) (fun hc14 => ?_)
        · replace h := h.1 hc14
          exact q_vret C hr hk w h dX8_step_269
        · replace h := h.2 hc14
          refine lv_aload_n C.1.1 C.1.2.1 dX8_step_264 rfl (lv_at hl 1 rfl) ?_
          refine lv_iconst (v := 1) C.1.1 C.1.2.1 dX8_step_265 (by decide) ?_
          refine q_cVv C w [.int 1] (c_X8_fails  h) kv_X8_fails k_101 (rcv C w kc_X8 hm_0 lm_0) rfl hl.1 (Nat.le_of_ble_eq_true rfl) ⟨Nat.le_of_ble_eq_true rfl, Nat.le_of_ble_eq_true rfl⟩ dX8_step_266 (fun M16 H locs h w => ?_)
          exact q_vret C hr hk w h dX8_step_269
      · replace h := h.2 hc11
        obtain ⟨n, h⟩ := h
        exact l_X8_step_140 C hr hk   n _ _ _ _ h w (lv_sub hl [1] rfl)
    · replace h := h.2 hc9
      obtain ⟨n, h⟩ := h
      exact l_X8_step_84 C hr hk   n _ _ _ _ h w (lv_sub hl [1] rfl)
  · replace h := h.1 hc7
    refine lv_aload_n C.1.1 C.1.2.1 dX8_step_62 rfl (lv_at hl 1 rfl) ?_
    refine lv_iconst (v := 0) C.1.1 C.1.2.1 dX8_step_63 (by decide) ?_
    refine pi_RX8_63 C w hm_0 lm_0 rfl dX8_step_64 (fun M33 H locs eM33 w => ?_)
    replace h := h M33 eM33
    refine lv_goto (tgt := 269) C.1.1 C.1.2.1 dX8_step_67 (by decide) ?_
    exact q_vret C hr hk w h dX8_step_269
set_option maxHeartbeats 4000000 in
set_option maxRecDepth 100000 in
theorem v_X8_step_8 {M : Mem} {K8 : Mem → Prop} {Q : Mem → Prop} {H : Heap} {locs : List Loc} {ls : Array Slot} (C : Cx p s m args c cX8_step 2 RX8 g) (hr : meth.sig.returnType = none) (hk : meth.locks = false) (hK8 : ∀  (M : Mem) (H : Heap) (locs : List Loc) (ls : Array Slot), K8 M → Wd g layM 12 s.heap M H locs → lv_has ls 2 [(0, .ref (ga g 0))] → W p l e (rmOf 1 25) s m args below meth c H locs 0 0 (MQ below (va_Qv Q (PostW g layM 12) (gF g)) args s 0 0 (gF g)) (F0 m 8 ls [])) (h : w_X8_step_8 Q K8 M) (w : Wd g layM 12 s.heap M H locs) (hl : lv_has ls 2 [(0, .ref (ga g 0))]) : W p l e (rmOf 1 25) s m args below meth c H locs 0 0 (MQ below (va_Qv Q (PostW g layM 12) (gF g)) args s 0 0 (gF g)) (F0 m 8 ls []) := by
  unfold w_X8_step_8 at h
  refine lv_aload_n C.1.1 C.1.2.1 dX8_step_8 rfl (lv_at hl 0 rfl) ?_
  refine lv_aload_n C.1.1 C.1.2.1 dX8_step_9 rfl (lv_at hl 0 rfl) ?_
  refine gi_RX8_66 C w hm_0 lm_0 rfl dX8_step_10 ?_
  refine q_pVi C w [.int (M 0 10)] (c_X8_byteAt  h) kv_X8_byteAt k_96 (rcv C w kc_X8 hm_0 lm_0) rfl hl.1 (Nat.le_of_ble_eq_true rfl) ⟨Nat.le_of_ble_eq_true rfl, Nat.le_of_ble_eq_true rfl⟩ dX8_step_13 (fun r2 H locs h w => ?_)
  refine lv_bipush (v := 32) C.1.1 C.1.2.1 dX8_step_16 (by decide) ?_
  refine lv_icmp_ne (tgt := 34) C.1.1 C.1.2.1 dX8_step_18 (by decide) (fun hc3 => ?_) (fun hc3 => ?_)
  · replace h := h.2 hc3
    exact v_X8_step_34 C hr hk   h w (lv_sub hl [0] rfl)
  · replace h := h.1 hc3
    refine lv_aload_n C.1.1 C.1.2.1 dX8_step_21 rfl (lv_at hl 0 rfl) ?_
    refine lv_dup C.1.1 C.1.2.1 dX8_step_22 rfl ?_
    refine gi_RX8_66 C w hm_0 lm_0 rfl dX8_step_23 ?_
    refine lv_iconst (v := 1) C.1.1 C.1.2.1 dX8_step_26 (by decide) ?_
    refine lv_iadd C.1.1 C.1.2.1 dX8_step_27 ?_
    refine pi_RX8_66 C w hm_0 lm_0 rfl dX8_step_28 (fun M34 H locs eM34 w => ?_)
    replace h := h M34 eM34
    refine lv_goto (tgt := 8) C.1.1 C.1.2.1 dX8_step_31 (by decide) ?_
    exact hK8 _ _ _ _ h w (lv_sub hl [0] rfl)
set_option maxHeartbeats 4000000 in
set_option maxRecDepth 100000 in
theorem l_X8_step_8 {Q : Mem → Prop} (C : Cx p s m args c cX8_step 2 RX8 g) (hr : meth.sig.returnType = none) (hk : meth.locks = false)  : ∀ (n : Nat)  (M : Mem) (H : Heap) (locs : List Loc) (ls : Array Slot), fu1 (w_X8_step_8 Q) n M → Wd g layM 12 s.heap M H locs → lv_has ls 2 [(0, .ref (ga g 0))] → W p l e (rmOf 1 25) s m args below meth c H locs 0 0 (MQ below (va_Qv Q (PostW g layM 12) (gF g)) args s 0 0 (gF g)) (F0 m 8 ls []) := by
  intro n
  induction n with
  | zero => intro M H locs ls h; exact h.elim
  | succ n ih => intro M H locs ls h w hl; exact v_X8_step_8 C hr hk   ih h w hl
set_option maxHeartbeats 4000000 in
set_option maxRecDepth 100000 in
theorem c_X8_step {l : Launch} {g : Gt} {M : Mem} {Q : Mem → Prop} (h : w_X8_step M Q) : MV l yX8_step cX8_step 2 none 1 25 g layM 12 [.ref (ga g 0)] M Q :=
  m_of (by decide +kernel) (Nat.le_of_ble_eq_true rfl) (fun p e s m args below meth c ls C hr hk w hl => by
    have C : Cx p s m args c cX8_step 2 RX8 g := C
    have hl : lv_has ls 2 [(0, .ref (ga g 0))] := hl
    unfold w_X8_step at h
    obtain ⟨H, eH⟩ : ∃ H : Heap, H = s.heap := ⟨_, rfl⟩
    obtain ⟨locs, el⟩ : ∃ locs : List Loc, locs = [] := ⟨_, rfl⟩
    have w : Wd g layM 12 s.heap M H locs := by rw [eH, el]; exact w
    suffices hw : W p l e (rmOf 1 25) s m args below meth c H locs 0 0 (MQ below (va_Qv Q (PostW g layM 12) (gF g)) args s 0 0 (gF g)) (F0 m 0 ls []) by rw [eH, el] at hw; exact hw
    clear eH el
    refine lv_aload_n C.1.1 C.1.2.1 dX8_step_0 rfl (lv_at hl 0 rfl) ?_
    refine gi_RX8_54 C w hm_0 lm_0 rfl dX8_step_1 ?_
    refine lv_if_le (tgt := 8) C.1.1 C.1.2.1 dX8_step_4 (by decide) (fun hc1 => ?_) (fun hc1 => ?_)
    · replace h := h.1 hc1
      obtain ⟨n, h⟩ := h
      exact l_X8_step_8 C hr hk   n _ _ _ _ h w (lv_sub hl [0] rfl)
    · replace h := h.2 hc1
      exact q_vret C hr hk w h dX8_step_7)
-- number
set_option maxHeartbeats 4000000 in
set_option maxRecDepth 100000 in
theorem v_X8_number_47 {x1 : Int32} {M : Mem} {Q : Int32 → Mem → Prop} {H : Heap} {locs : List Loc} {ls : Array Slot} (C : Cx p s m args c cX8_number 4 RX8 g) (hr : meth.sig.returnType = (some .int)) (hk : meth.locks = false)  (h : w_X8_number_47 x1 M Q) (w : Wd g layM 12 s.heap M H locs) (hl : lv_has ls 4 [(0, .ref (ga g 0)), (1, .int x1)]) : W p l e (rmOf 2 46) s m args below meth c H locs 0 0 (MQ below (va_Qi Q (PostW g layM 12) (gF g)) args s 0 0 (gF g)) (F0 m 47 ls []) := by
  unfold w_X8_number_47 at h
  refine lv_aload_n C.1.1 C.1.2.1 dX8_number_47 rfl (lv_at hl 0 rfl) ?_
  refine gi_RX8_54 C w hm_0 lm_0 rfl dX8_number_48 ?_
  have J : ∀ ls : Array Slot, lv_has ls 4 [(0, .ref (ga g 0))] → W p l e (rmOf 2 46) s m args below meth c H locs 0 0 (MQ below (va_Qi Q (PostW g layM 12) (gF g)) args s 0 0 (gF g)) (F0 m 62 ls [.int (if (M 0 8) = 0 then (M 0 13) else x1)]) := by
    intro ls hl
    refine lv_istore_n (lv' := [(3, .int (if (M 0 8) = 0 then (M 0 13) else x1)), (0, .ref (ga g 0))]) C.1.1 C.1.2.1 dX8_number_62 rfl hl (by decide) rfl (fun ls hl => ?_)
    refine lv_aload_n C.1.1 C.1.2.1 dX8_number_63 rfl (lv_at hl 1 rfl) ?_
    refine q_cVv C w [] (c_X8_step  h) kv_X8_step k_102 (rcv C w kc_X8 hm_0 lm_0) rfl hl.1 (Nat.le_of_ble_eq_true rfl) ⟨Nat.le_of_ble_eq_true rfl, Nat.le_of_ble_eq_true rfl⟩ dX8_number_64 (fun M5 H locs h w => ?_)
    refine lv_iload_n C.1.1 C.1.2.1 dX8_number_67 rfl (lv_at hl 0 rfl) ?_
    exact q_iret C hr hk w rfl h dX8_number_68
  refine lv_if_ne (tgt := 61) C.1.1 C.1.2.1 dX8_number_51 (by decide) (fun hc3 => ?_) (fun hc3 => ?_)
  · refine lv_iload_n C.1.1 C.1.2.1 dX8_number_61 rfl (lv_at hl 1 rfl) ?_
    simp only [if_neg hc3] at J hl
    exact J ls (lv_sub hl [0] rfl)
  · refine lv_aload_n C.1.1 C.1.2.1 dX8_number_54 rfl (lv_at hl 0 rfl) ?_
    refine gi_RX8_73 C w hm_0 lm_0 rfl dX8_number_55 ?_
    refine lv_goto (tgt := 62) C.1.1 C.1.2.1 dX8_number_58 (by decide) ?_
    simp only [if_pos hc3] at J hl
    exact J ls (lv_sub hl [0] rfl)
set_option maxHeartbeats 4000000 in
set_option maxRecDepth 100000 in
theorem v_X8_number_20 {x1 : Int32} {x2 : Int32} {M : Mem} {Q : Int32 → Mem → Prop} {H : Heap} {locs : List Loc} {ls : Array Slot} (C : Cx p s m args c cX8_number 4 RX8 g) (hr : meth.sig.returnType = (some .int)) (hk : meth.locks = false)  (h : w_X8_number_20 x1 x2 M Q) (w : Wd g layM 12 s.heap M H locs) (hl : lv_has ls 4 [(0, .ref (ga g 0)), (1, .int x1), (2, .int x2)]) : W p l e (rmOf 2 46) s m args below meth c H locs 0 0 (MQ below (va_Qi Q (PostW g layM 12) (gF g)) args s 0 0 (gF g)) (F0 m 20 ls []) := by
  unfold w_X8_number_20 at h
  refine lv_aload_n C.1.1 C.1.2.1 dX8_number_20 rfl (lv_at hl 0 rfl) ?_
  refine gi_RX8_54 C w hm_0 lm_0 rfl dX8_number_21 ?_
  refine lv_if_ne (tgt := 47) C.1.1 C.1.2.1 dX8_number_24 (by decide) (fun hc2 => ?_) (fun hc2 => ?_)
  · replace h := h.2 hc2
    exact v_X8_number_47 C hr hk   h w (lv_sub hl [0, 1] rfl)
  · replace h := h.1 hc2
    refine lv_aload_n C.1.1 C.1.2.1 dX8_number_27 rfl (lv_at hl 0 rfl) ?_
    refine gi_RX8_73 C w hm_0 lm_0 rfl dX8_number_28 ?_
    refine lv_i2l C.1.1 C.1.2.1 dX8_number_31 rfl ?_
    refine lv_iload_n C.1.1 C.1.2.1 dX8_number_32 rfl (lv_at hl 1 rfl) ?_
    refine lv_i2l C.1.1 C.1.2.1 dX8_number_33 rfl ?_
    refine lv_iload_n C.1.1 C.1.2.1 dX8_number_34 rfl (lv_at hl 2 rfl) ?_
    refine lv_i2l C.1.1 C.1.2.1 dX8_number_35 rfl ?_
    refine q_pSi C w [.long ((M 0 13).toInt64), .long (x1.toInt64), .long (x2.toInt64)] (c_X8_in  h) ks_X8_in k_95  rfl hl.1 (Nat.le_of_ble_eq_true rfl) ⟨Nat.le_of_ble_eq_true rfl, Nat.le_of_ble_eq_true rfl⟩ dX8_number_36 (fun r6 H locs h w => ?_)
    refine lv_if_ne (tgt := 47) C.1.1 C.1.2.1 dX8_number_39 (by decide) (fun hc7 => ?_) (fun hc7 => ?_)
    · replace h := h.2 hc7
      exact v_X8_number_47 C hr hk   h w (lv_sub hl [0, 1] rfl)
    · replace h := h.1 hc7
      refine lv_aload_n C.1.1 C.1.2.1 dX8_number_42 rfl (lv_at hl 0 rfl) ?_
      refine lv_iconst (v := 3) C.1.1 C.1.2.1 dX8_number_43 (by decide) ?_
      refine q_cVv C w [.int 3] (c_X8_fails  h) kv_X8_fails k_101 (rcv C w kc_X8 hm_0 lm_0) rfl hl.1 (Nat.le_of_ble_eq_true rfl) ⟨Nat.le_of_ble_eq_true rfl, Nat.le_of_ble_eq_true rfl⟩ dX8_number_44 (fun M9 H locs h w => ?_)
      exact v_X8_number_47 C hr hk   h w (lv_sub hl [0, 1] rfl)
set_option maxHeartbeats 4000000 in
set_option maxRecDepth 100000 in
theorem c_X8_number {l : Launch} {g : Gt} {x1 : Int32} {x2 : Int32} {M : Mem} {Q : Int32 → Mem → Prop} (h : w_X8_number x1 x2 M Q) : MI l yX8_number cX8_number 4 (some .int) 2 46 g layM 12 [.ref (ga g 0), .int x1, .int x2] M Q :=
  m_of (by decide +kernel) (Nat.le_of_ble_eq_true rfl) (fun p e s m args below meth c ls C hr hk w hl => by
    have C : Cx p s m args c cX8_number 4 RX8 g := C
    have hl : lv_has ls 4 [(0, .ref (ga g 0)), (1, .int x1), (2, .int x2)] := hl
    unfold w_X8_number at h
    obtain ⟨H, eH⟩ : ∃ H : Heap, H = s.heap := ⟨_, rfl⟩
    obtain ⟨locs, el⟩ : ∃ locs : List Loc, locs = [] := ⟨_, rfl⟩
    have w : Wd g layM 12 s.heap M H locs := by rw [eH, el]; exact w
    suffices hw : W p l e (rmOf 2 46) s m args below meth c H locs 0 0 (MQ below (va_Qi Q (PostW g layM 12) (gF g)) args s 0 0 (gF g)) (F0 m 0 ls []) by rw [eH, el] at hw; exact hw
    clear eH el
    refine lv_aload_n C.1.1 C.1.2.1 dX8_number_0 rfl (lv_at hl 0 rfl) ?_
    refine gi_RX8_54 C w hm_0 lm_0 rfl dX8_number_1 ?_
    refine lv_if_ne (tgt := 20) C.1.1 C.1.2.1 dX8_number_4 (by decide) (fun hc1 => ?_) (fun hc1 => ?_)
    · replace h := h.2 hc1
      exact v_X8_number_20 C hr hk   h w (lv_sub hl [0, 1, 2] rfl)
    · replace h := h.1 hc1
      refine lv_aload_n C.1.1 C.1.2.1 dX8_number_7 rfl (lv_at hl 0 rfl) ?_
      refine gi_RX8_63 C w hm_0 lm_0 rfl dX8_number_8 ?_
      refine lv_iconst (v := 2) C.1.1 C.1.2.1 dX8_number_11 (by decide) ?_
      refine lv_icmp_eq (tgt := 20) C.1.1 C.1.2.1 dX8_number_12 (by decide) (fun hc10 => ?_) (fun hc10 => ?_)
      · replace h := h.1 hc10
        exact v_X8_number_20 C hr hk   h w (lv_sub hl [0, 1, 2] rfl)
      · replace h := h.2 hc10
        refine lv_aload_n C.1.1 C.1.2.1 dX8_number_15 rfl (lv_at hl 0 rfl) ?_
        refine lv_iconst (v := 2) C.1.1 C.1.2.1 dX8_number_16 (by decide) ?_
        refine q_cVv C w [.int 2] (c_X8_fails  h) kv_X8_fails k_101 (rcv C w kc_X8 hm_0 lm_0) rfl hl.1 (Nat.le_of_ble_eq_true rfl) ⟨Nat.le_of_ble_eq_true rfl, Nat.le_of_ble_eq_true rfl⟩ dX8_number_17 (fun M12 H locs h w => ?_)
        exact v_X8_number_20 C hr hk   h w (lv_sub hl [0, 1, 2] rfl))
-- readMore
set_option maxHeartbeats 4000000 in
set_option maxRecDepth 100000 in
theorem v_X8_readMore_172 {M : Mem} {Q : Mem → Prop} {H : Heap} {locs : List Loc} {ls : Array Slot} (C : Cx p s m args c cX8_readMore 3 RX8 g) (hr : meth.sig.returnType = none) (hk : meth.locks = false)  (h : w_X8_readMore_172 M Q) (w : Wd g layM 12 s.heap M H locs) (hl : lv_has ls 3 [(0, .ref (ga g 0))]) : W p l e (rmOf 3 69) s m args below meth c H locs 0 0 (MQ below (va_Qv Q (PostW g layM 12) (gF g)) args s 0 0 (gF g)) (F0 m 172 ls []) := by
  unfold w_X8_readMore_172 at h
  refine lv_aload_n C.1.1 C.1.2.1 dX8_readMore_172 rfl (lv_at hl 0 rfl) ?_
  refine lv_iconst (v := 0) C.1.1 C.1.2.1 dX8_readMore_173 (by decide) ?_
  refine lv_iconst (v := 5) C.1.1 C.1.2.1 dX8_readMore_174 (by decide) ?_
  refine q_cVi C w [.int 0, .int 5] (c_X8_number  h) kv_X8_number k_103 (rcv C w kc_X8 hm_0 lm_0) rfl hl.1 (Nat.le_of_ble_eq_true rfl) ⟨Nat.le_of_ble_eq_true rfl, Nat.le_of_ble_eq_true rfl⟩ dX8_readMore_175 (fun r4 M5 H locs h w => ?_)
  refine lv_istore_n (lv' := [(2, .int r4), (0, .ref (ga g 0))]) C.1.1 C.1.2.1 dX8_readMore_178 rfl hl (by decide) rfl (fun ls hl => ?_)
  refine lv_aload_n C.1.1 C.1.2.1 dX8_readMore_179 rfl (lv_at hl 1 rfl) ?_
  refine lv_dup C.1.1 C.1.2.1 dX8_readMore_180 rfl ?_
  refine gi_RX8_100 C w hm_0 lm_0 rfl dX8_readMore_181 ?_
  refine lv_iconst (v := 1) C.1.1 C.1.2.1 dX8_readMore_184 (by decide) ?_
  refine lv_iload_n C.1.1 C.1.2.1 dX8_readMore_185 rfl (lv_at hl 0 rfl) ?_
  refine q_ishl C dX8_readMore_186 ?_
  refine lv_ior C.1.1 C.1.2.1 dX8_readMore_187 ?_
  refine pi_RX8_100 C w hm_0 lm_0 rfl dX8_readMore_188 (fun M6 H locs eM6 w => ?_)
  replace h := h M6 eM6
  refine lv_aload_n C.1.1 C.1.2.1 dX8_readMore_191 rfl (lv_at hl 1 rfl) ?_
  refine gr_RX8_13 C w hm_0 lm_0 rfl dX8_readMore_192 ?_
  refine lv_iload_n C.1.1 C.1.2.1 dX8_readMore_195 rfl (lv_at hl 0 rfl) ?_
  refine lv_aload_n C.1.1 C.1.2.1 dX8_readMore_196 rfl (lv_at hl 1 rfl) ?_
  refine lv_iconst (v := 0) C.1.1 C.1.2.1 dX8_readMore_197 (by decide) ?_
  refine lv_bipush (v := 60) C.1.1 C.1.2.1 dX8_readMore_198 (by decide) ?_
  refine q_cVi C w [.int 0, .int 60] (c_X8_number  h) kv_X8_number k_103 (rcv C w kc_X8 hm_0 lm_0) rfl hl.1 (Nat.le_of_ble_eq_true rfl) ⟨Nat.le_of_ble_eq_true rfl, Nat.le_of_ble_eq_true rfl⟩ dX8_readMore_200 (fun r7 M8 H locs h w => ?_)
  refine lv_bipush (v := 30) C.1.1 C.1.2.1 dX8_readMore_203 (by decide) ?_
  refine lv_isub C.1.1 C.1.2.1 dX8_readMore_205 ?_
  refine q_ias C w hm_2 lm_2 h.1 dX8_readMore_206 (fun M9 H locs eM9 w => ?_)
  replace h := h.2 M9 eM9
  refine lv_aload_n C.1.1 C.1.2.1 dX8_readMore_207 rfl (lv_at hl 1 rfl) ?_
  refine gr_RX8_13 C w hm_0 lm_0 rfl dX8_readMore_208 ?_
  refine lv_bipush (v := 6) C.1.1 C.1.2.1 dX8_readMore_211 (by decide) ?_
  refine lv_iload_n C.1.1 C.1.2.1 dX8_readMore_213 rfl (lv_at hl 0 rfl) ?_
  refine lv_iadd C.1.1 C.1.2.1 dX8_readMore_214 ?_
  refine lv_aload_n C.1.1 C.1.2.1 dX8_readMore_215 rfl (lv_at hl 1 rfl) ?_
  refine lv_iconst (v := 0) C.1.1 C.1.2.1 dX8_readMore_216 (by decide) ?_
  refine lv_bipush (v := 9) C.1.1 C.1.2.1 dX8_readMore_217 (by decide) ?_
  refine q_cVi C w [.int 0, .int 9] (c_X8_number  h) kv_X8_number k_103 (rcv C w kc_X8 hm_0 lm_0) rfl hl.1 (Nat.le_of_ble_eq_true rfl) ⟨Nat.le_of_ble_eq_true rfl, Nat.le_of_ble_eq_true rfl⟩ dX8_readMore_219 (fun r10 M11 H locs h w => ?_)
  refine lv_iconst (v := 2) C.1.1 C.1.2.1 dX8_readMore_222 (by decide) ?_
  refine lv_isub C.1.1 C.1.2.1 dX8_readMore_223 ?_
  refine q_ias C w hm_2 lm_2 h.1 dX8_readMore_224 (fun M12 H locs eM12 w => ?_)
  replace h := h.2 M12 eM12
  exact q_vret C hr hk w h dX8_readMore_225
set_option maxHeartbeats 4000000 in
set_option maxRecDepth 100000 in
theorem c_X8_readMore {l : Launch} {g : Gt} {x1 : Int32} {M : Mem} {Q : Mem → Prop} (h : w_X8_readMore x1 M Q) : MV l yX8_readMore cX8_readMore 3 none 3 69 g layM 12 [.ref (ga g 0), .int x1] M Q :=
  m_of (by decide +kernel) (Nat.le_of_ble_eq_true rfl) (fun p e s m args below meth c ls C hr hk w hl => by
    have C : Cx p s m args c cX8_readMore 3 RX8 g := C
    have hl : lv_has ls 3 [(0, .ref (ga g 0)), (1, .int x1)] := hl
    unfold w_X8_readMore at h
    obtain ⟨H, eH⟩ : ∃ H : Heap, H = s.heap := ⟨_, rfl⟩
    obtain ⟨locs, el⟩ : ∃ locs : List Loc, locs = [] := ⟨_, rfl⟩
    have w : Wd g layM 12 s.heap M H locs := by rw [eH, el]; exact w
    suffices hw : W p l e (rmOf 3 69) s m args below meth c H locs 0 0 (MQ below (va_Qv Q (PostW g layM 12) (gF g)) args s 0 0 (gF g)) (F0 m 0 ls []) by rw [eH, el] at hw; exact hw
    clear eH el
    refine lv_iload_n C.1.1 C.1.2.1 dX8_readMore_0 rfl (lv_at hl 1 rfl) ?_
    refine lv_iconst (v := 3) C.1.1 C.1.2.1 dX8_readMore_1 (by decide) ?_
    refine lv_icmp_gt (tgt := 49) C.1.1 C.1.2.1 dX8_readMore_2 (by decide) (fun hc1 => ?_) (fun hc1 => ?_)
    · replace h := h.1 hc1
      refine lv_iload_n C.1.1 C.1.2.1 dX8_readMore_49 rfl (lv_at hl 1 rfl) ?_
      refine lv_iconst (v := 4) C.1.1 C.1.2.1 dX8_readMore_50 (by decide) ?_
      refine lv_icmp_ne (tgt := 122) C.1.1 C.1.2.1 dX8_readMore_51 (by decide) (fun hc2 => ?_) (fun hc2 => ?_)
      · replace h := h.2 hc2
        refine lv_aload_n C.1.1 C.1.2.1 dX8_readMore_122 rfl (lv_at hl 0 rfl) ?_
        refine gi_RX8_54 C w hm_0 lm_0 rfl dX8_readMore_123 ?_
        refine lv_if_ne (tgt := 172) C.1.1 C.1.2.1 dX8_readMore_126 (by decide) (fun hc3 => ?_) (fun hc3 => ?_)
        · replace h := h.2 hc3
          exact v_X8_readMore_172 C hr hk   h w (lv_sub hl [0] rfl)
        · replace h := h.1 hc3
          refine lv_aload_n C.1.1 C.1.2.1 dX8_readMore_129 rfl (lv_at hl 0 rfl) ?_
          refine gi_RX8_63 C w hm_0 lm_0 rfl dX8_readMore_130 ?_
          refine lv_iconst (v := 2) C.1.1 C.1.2.1 dX8_readMore_133 (by decide) ?_
          refine lv_icmp_ne (tgt := 172) C.1.1 C.1.2.1 dX8_readMore_134 (by decide) (fun hc13 => ?_) (fun hc13 => ?_)
          · replace h := h.2 hc13
            exact v_X8_readMore_172 C hr hk   h w (lv_sub hl [0] rfl)
          · replace h := h.1 hc13
            refine lv_aload_n C.1.1 C.1.2.1 dX8_readMore_137 rfl (lv_at hl 0 rfl) ?_
            refine gi_RX8_73 C w hm_0 lm_0 rfl dX8_readMore_138 ?_
            refine lv_i2l C.1.1 C.1.2.1 dX8_readMore_141 rfl ?_
            refine lv_lconst (v := 0) C.1.1 C.1.2.1 dX8_readMore_142 (by decide) ?_
            refine q_ldc2 C k_104 dX8_readMore_143 ?_
            refine q_pSi C w [.long ((M 0 13).toInt64), .long 0, .long 5] (c_X8_in  h) ks_X8_in k_95  rfl hl.1 (Nat.le_of_ble_eq_true rfl) ⟨Nat.le_of_ble_eq_true rfl, Nat.le_of_ble_eq_true rfl⟩ dX8_readMore_146 (fun r14 H locs h w => ?_)
            refine lv_if_eq (tgt := 172) C.1.1 C.1.2.1 dX8_readMore_149 (by decide) (fun hc15 => ?_) (fun hc15 => ?_)
            · replace h := h.1 hc15
              exact v_X8_readMore_172 C hr hk   h w (lv_sub hl [0] rfl)
            · replace h := h.2 hc15
              refine lv_aload_n C.1.1 C.1.2.1 dX8_readMore_152 rfl (lv_at hl 0 rfl) ?_
              refine gi_RX8_100 C w hm_0 lm_0 rfl dX8_readMore_153 ?_
              refine lv_aload_n C.1.1 C.1.2.1 dX8_readMore_156 rfl (lv_at hl 0 rfl) ?_
              refine gi_RX8_73 C w hm_0 lm_0 rfl dX8_readMore_157 ?_
              refine q_ishr C dX8_readMore_160 ?_
              refine lv_iconst (v := 1) C.1.1 C.1.2.1 dX8_readMore_161 (by decide) ?_
              refine lv_iand C.1.1 C.1.2.1 dX8_readMore_162 ?_
              refine lv_iconst (v := 1) C.1.1 C.1.2.1 dX8_readMore_163 (by decide) ?_
              refine lv_icmp_ne (tgt := 172) C.1.1 C.1.2.1 dX8_readMore_164 (by decide) (fun hc16 => ?_) (fun hc16 => ?_)
              · replace h := h.2 hc16
                exact v_X8_readMore_172 C hr hk   h w (lv_sub hl [0] rfl)
              · replace h := h.1 hc16
                refine lv_aload_n C.1.1 C.1.2.1 dX8_readMore_167 rfl (lv_at hl 0 rfl) ?_
                refine lv_iconst (v := 4) C.1.1 C.1.2.1 dX8_readMore_168 (by decide) ?_
                refine q_cVv C w [.int 4] (c_X8_fails  h) kv_X8_fails k_101 (rcv C w kc_X8 hm_0 lm_0) rfl hl.1 (Nat.le_of_ble_eq_true rfl) ⟨Nat.le_of_ble_eq_true rfl, Nat.le_of_ble_eq_true rfl⟩ dX8_readMore_169 (fun M18 H locs h w => ?_)
                exact v_X8_readMore_172 C hr hk   h w (lv_sub hl [0] rfl)
      · replace h := h.1 hc2
        refine lv_aload_n C.1.1 C.1.2.1 dX8_readMore_54 rfl (lv_at hl 0 rfl) ?_
        refine gr_RX8_13 C w hm_0 lm_0 rfl dX8_readMore_55 ?_
        refine lv_bipush (v := 41) C.1.1 C.1.2.1 dX8_readMore_58 (by decide) ?_
        refine q_ial C w hm_2 lm_2 h.1 dX8_readMore_60 ?_
        replace h := h.2
        refine lv_istore_n (lv' := [(2, .int (M 2 (41 : Int32).toNatClampNeg)), (0, .ref (ga g 0)), (1, .int x1)]) C.1.1 C.1.2.1 dX8_readMore_61 rfl hl (by decide) rfl (fun ls hl => ?_)
        refine lv_aload_n C.1.1 C.1.2.1 dX8_readMore_62 rfl (lv_at hl 1 rfl) ?_
        refine gr_RX8_13 C w hm_0 lm_0 rfl dX8_readMore_63 ?_
        refine lv_bipush (v := 32) C.1.1 C.1.2.1 dX8_readMore_66 (by decide) ?_
        refine lv_iload_n C.1.1 C.1.2.1 dX8_readMore_68 rfl (lv_at hl 0 rfl) ?_
        refine lv_iadd C.1.1 C.1.2.1 dX8_readMore_69 ?_
        refine lv_aload_n C.1.1 C.1.2.1 dX8_readMore_70 rfl (lv_at hl 1 rfl) ?_
        refine lv_iconst (v := 0) C.1.1 C.1.2.1 dX8_readMore_71 (by decide) ?_
        refine lv_iconst (v := 5) C.1.1 C.1.2.1 dX8_readMore_72 (by decide) ?_
        refine q_cVi C w [.int 0, .int 5] (c_X8_number  h) kv_X8_number k_103 (rcv C w kc_X8 hm_0 lm_0) rfl hl.1 (Nat.le_of_ble_eq_true rfl) ⟨Nat.le_of_ble_eq_true rfl, Nat.le_of_ble_eq_true rfl⟩ dX8_readMore_73 (fun r19 M20 H locs h w => ?_)
        refine q_ias C w hm_2 lm_2 h.1 dX8_readMore_76 (fun M21 H locs eM21 w => ?_)
        replace h := h.2 M21 eM21
        refine lv_aload_n C.1.1 C.1.2.1 dX8_readMore_77 rfl (lv_at hl 1 rfl) ?_
        refine gr_RX8_13 C w hm_0 lm_0 rfl dX8_readMore_78 ?_
        refine lv_bipush (v := 35) C.1.1 C.1.2.1 dX8_readMore_81 (by decide) ?_
        refine lv_iload_n C.1.1 C.1.2.1 dX8_readMore_83 rfl (lv_at hl 0 rfl) ?_
        refine lv_iadd C.1.1 C.1.2.1 dX8_readMore_84 ?_
        refine lv_aload_n C.1.1 C.1.2.1 dX8_readMore_85 rfl (lv_at hl 1 rfl) ?_
        refine lv_iconst (v := 0) C.1.1 C.1.2.1 dX8_readMore_86 (by decide) ?_
        refine lv_iconst (v := 5) C.1.1 C.1.2.1 dX8_readMore_87 (by decide) ?_
        refine q_cVi C w [.int 0, .int 5] (c_X8_number  h) kv_X8_number k_103 (rcv C w kc_X8 hm_0 lm_0) rfl hl.1 (Nat.le_of_ble_eq_true rfl) ⟨Nat.le_of_ble_eq_true rfl, Nat.le_of_ble_eq_true rfl⟩ dX8_readMore_88 (fun r22 M23 H locs h w => ?_)
        refine q_ias C w hm_2 lm_2 h.1 dX8_readMore_91 (fun M24 H locs eM24 w => ?_)
        replace h := h.2 M24 eM24
        refine lv_aload_n C.1.1 C.1.2.1 dX8_readMore_92 rfl (lv_at hl 1 rfl) ?_
        refine gr_RX8_13 C w hm_0 lm_0 rfl dX8_readMore_93 ?_
        refine lv_bipush (v := 38) C.1.1 C.1.2.1 dX8_readMore_96 (by decide) ?_
        refine lv_iload_n C.1.1 C.1.2.1 dX8_readMore_98 rfl (lv_at hl 0 rfl) ?_
        refine lv_iadd C.1.1 C.1.2.1 dX8_readMore_99 ?_
        refine lv_aload_n C.1.1 C.1.2.1 dX8_readMore_100 rfl (lv_at hl 1 rfl) ?_
        refine lv_iconst (v := 1) C.1.1 C.1.2.1 dX8_readMore_101 (by decide) ?_
        refine lv_bipush (v := 9) C.1.1 C.1.2.1 dX8_readMore_102 (by decide) ?_
        refine q_cVi C w [.int 1, .int 9] (c_X8_number  h) kv_X8_number k_103 (rcv C w kc_X8 hm_0 lm_0) rfl hl.1 (Nat.le_of_ble_eq_true rfl) ⟨Nat.le_of_ble_eq_true rfl, Nat.le_of_ble_eq_true rfl⟩ dX8_readMore_104 (fun r25 M26 H locs h w => ?_)
        refine q_ias C w hm_2 lm_2 h.1 dX8_readMore_107 (fun M27 H locs eM27 w => ?_)
        replace h := h.2 M27 eM27
        refine lv_aload_n C.1.1 C.1.2.1 dX8_readMore_108 rfl (lv_at hl 1 rfl) ?_
        refine gr_RX8_13 C w hm_0 lm_0 rfl dX8_readMore_109 ?_
        refine lv_bipush (v := 41) C.1.1 C.1.2.1 dX8_readMore_112 (by decide) ?_
        refine lv_dup2_11 C.1.1 C.1.2.1 dX8_readMore_114 rfl rfl ?_
        refine q_ial C w hm_2 lm_2 h.1 dX8_readMore_115 ?_
        replace h := h.2
        refine lv_iconst (v := 1) C.1.1 C.1.2.1 dX8_readMore_116 (by decide) ?_
        refine lv_iadd C.1.1 C.1.2.1 dX8_readMore_117 ?_
        refine q_ias C w hm_2 lm_2 h.1 dX8_readMore_118 (fun M28 H locs eM28 w => ?_)
        replace h := h.2 M28 eM28
        refine lv_goto (tgt := 225) C.1.1 C.1.2.1 dX8_readMore_119 (by decide) ?_
        exact q_vret C hr hk w h dX8_readMore_225
    · replace h := h.2 hc1
      refine lv_aload_n C.1.1 C.1.2.1 dX8_readMore_5 rfl (lv_at hl 0 rfl) ?_
      refine gr_RX8_13 C w hm_0 lm_0 rfl dX8_readMore_6 ?_
      refine lv_bipush (v := 12) C.1.1 C.1.2.1 dX8_readMore_9 (by decide) ?_
      refine lv_aload_n C.1.1 C.1.2.1 dX8_readMore_11 rfl (lv_at hl 0 rfl) ?_
      refine gi_RX8_91 C w hm_0 lm_0 rfl dX8_readMore_12 ?_
      refine lv_iadd C.1.1 C.1.2.1 dX8_readMore_15 ?_
      refine lv_iload_n C.1.1 C.1.2.1 dX8_readMore_16 rfl (lv_at hl 1 rfl) ?_
      refine q_ias C w hm_2 lm_2 h.1 dX8_readMore_17 (fun M29 H locs eM29 w => ?_)
      replace h := h.2 M29 eM29
      refine lv_aload_n C.1.1 C.1.2.1 dX8_readMore_18 rfl (lv_at hl 0 rfl) ?_
      refine gr_RX8_13 C w hm_0 lm_0 rfl dX8_readMore_19 ?_
      refine lv_bipush (v := 17) C.1.1 C.1.2.1 dX8_readMore_22 (by decide) ?_
      refine lv_aload_n C.1.1 C.1.2.1 dX8_readMore_24 rfl (lv_at hl 0 rfl) ?_
      refine gi_RX8_91 C w hm_0 lm_0 rfl dX8_readMore_25 ?_
      refine lv_iadd C.1.1 C.1.2.1 dX8_readMore_28 ?_
      refine lv_aload_n C.1.1 C.1.2.1 dX8_readMore_29 rfl (lv_at hl 0 rfl) ?_
      refine lv_iconst (v := 0) C.1.1 C.1.2.1 dX8_readMore_30 (by decide) ?_
      refine lv_iconst (v := 5) C.1.1 C.1.2.1 dX8_readMore_31 (by decide) ?_
      refine q_cVi C w [.int 0, .int 5] (c_X8_number  h) kv_X8_number k_103 (rcv C w kc_X8 hm_0 lm_0) rfl hl.1 (Nat.le_of_ble_eq_true rfl) ⟨Nat.le_of_ble_eq_true rfl, Nat.le_of_ble_eq_true rfl⟩ dX8_readMore_32 (fun r30 M31 H locs h w => ?_)
      refine q_ias C w hm_2 lm_2 h.1 dX8_readMore_35 (fun M32 H locs eM32 w => ?_)
      replace h := h.2 M32 eM32
      refine lv_aload_n C.1.1 C.1.2.1 dX8_readMore_36 rfl (lv_at hl 0 rfl) ?_
      refine lv_dup C.1.1 C.1.2.1 dX8_readMore_37 rfl ?_
      refine gi_RX8_91 C w hm_0 lm_0 rfl dX8_readMore_38 ?_
      refine lv_iconst (v := 1) C.1.1 C.1.2.1 dX8_readMore_41 (by decide) ?_
      refine lv_iadd C.1.1 C.1.2.1 dX8_readMore_42 ?_
      refine pi_RX8_91 C w hm_0 lm_0 rfl dX8_readMore_43 (fun M33 H locs eM33 w => ?_)
      replace h := h M33 eM33
      refine lv_goto (tgt := 225) C.1.1 C.1.2.1 dX8_readMore_46 (by decide) ?_
      exact q_vret C hr hk w h dX8_readMore_225)
-- readLine
set_option maxHeartbeats 4000000 in
set_option maxRecDepth 100000 in
theorem v_X8_readLine_94 {M : Mem} {Q : Mem → Prop} {H : Heap} {locs : List Loc} {ls : Array Slot} (C : Cx p s m args c cX8_readLine 2 RX8 g) (hr : meth.sig.returnType = none) (hk : meth.locks = false)  (h : w_X8_readLine_94 M Q) (w : Wd g layM 12 s.heap M H locs) (hl : lv_has ls 2 [(0, .ref (ga g 0))]) : W p l e (rmOf 4 91) s m args below meth c H locs 0 0 (MQ below (va_Qv Q (PostW g layM 12) (gF g)) args s 0 0 (gF g)) (F0 m 94 ls []) := by
  unfold w_X8_readLine_94 at h
  refine lv_aload_n C.1.1 C.1.2.1 dX8_readLine_94 rfl (lv_at hl 0 rfl) ?_
  refine q_cVv C w [] (c_X8_step  h) kv_X8_step k_102 (rcv C w kc_X8 hm_0 lm_0) rfl hl.1 (Nat.le_of_ble_eq_true rfl) ⟨Nat.le_of_ble_eq_true rfl, Nat.le_of_ble_eq_true rfl⟩ dX8_readLine_95 (fun M13 H locs h w => ?_)
  exact q_vret C hr hk w h dX8_readLine_98
set_option maxHeartbeats 4000000 in
set_option maxRecDepth 100000 in
theorem v_X8_readLine_57 {x1 : Int32} {M : Mem} {Q : Mem → Prop} {H : Heap} {locs : List Loc} {ls : Array Slot} (C : Cx p s m args c cX8_readLine 2 RX8 g) (hr : meth.sig.returnType = none) (hk : meth.locks = false)  (h : w_X8_readLine_57 x1 M Q) (w : Wd g layM 12 s.heap M H locs) (hl : lv_has ls 2 [(0, .ref (ga g 0)), (1, .int x1)]) : W p l e (rmOf 4 91) s m args below meth c H locs 0 0 (MQ below (va_Qv Q (PostW g layM 12) (gF g)) args s 0 0 (gF g)) (F0 m 57 ls []) := by
  unfold w_X8_readLine_57 at h
  refine lv_aload_n C.1.1 C.1.2.1 dX8_readLine_57 rfl (lv_at hl 0 rfl) ?_
  refine q_cVv C w [] (c_X8_step  h) kv_X8_step k_102 (rcv C w kc_X8 hm_0 lm_0) rfl hl.1 (Nat.le_of_ble_eq_true rfl) ⟨Nat.le_of_ble_eq_true rfl, Nat.le_of_ble_eq_true rfl⟩ dX8_readLine_58 (fun M7 H locs h w => ?_)
  refine lv_aload_n C.1.1 C.1.2.1 dX8_readLine_61 rfl (lv_at hl 0 rfl) ?_
  refine gi_RX8_54 C w hm_0 lm_0 rfl dX8_readLine_62 ?_
  refine lv_if_le (tgt := 69) C.1.1 C.1.2.1 dX8_readLine_65 (by decide) (fun hc8 => ?_) (fun hc8 => ?_)
  · replace h := h.1 hc8
    refine lv_aload_n C.1.1 C.1.2.1 dX8_readLine_69 rfl (lv_at hl 0 rfl) ?_
    refine lv_iload_n C.1.1 C.1.2.1 dX8_readLine_70 rfl (lv_at hl 1 rfl) ?_
    refine q_cVv C w [.int x1] (c_X8_readMore  h) kv_X8_readMore k_106 (rcv C w kc_X8 hm_0 lm_0) rfl hl.1 (Nat.le_of_ble_eq_true rfl) ⟨Nat.le_of_ble_eq_true rfl, Nat.le_of_ble_eq_true rfl⟩ dX8_readLine_71 (fun M10 H locs h w => ?_)
    refine lv_aload_n C.1.1 C.1.2.1 dX8_readLine_74 rfl (lv_at hl 0 rfl) ?_
    refine gi_RX8_54 C w hm_0 lm_0 rfl dX8_readLine_75 ?_
    refine lv_if_ne (tgt := 94) C.1.1 C.1.2.1 dX8_readLine_78 (by decide) (fun hc11 => ?_) (fun hc11 => ?_)
    · replace h := h.2 hc11
      exact v_X8_readLine_94 C hr hk   h w (lv_sub hl [0] rfl)
    · replace h := h.1 hc11
      refine lv_aload_n C.1.1 C.1.2.1 dX8_readLine_81 rfl (lv_at hl 0 rfl) ?_
      refine gi_RX8_63 C w hm_0 lm_0 rfl dX8_readLine_82 ?_
      refine lv_iconst (v := 3) C.1.1 C.1.2.1 dX8_readLine_85 (by decide) ?_
      refine lv_icmp_eq (tgt := 94) C.1.1 C.1.2.1 dX8_readLine_86 (by decide) (fun hc14 => ?_) (fun hc14 => ?_)
      · replace h := h.1 hc14
        exact v_X8_readLine_94 C hr hk   h w (lv_sub hl [0] rfl)
      · replace h := h.2 hc14
        refine lv_aload_n C.1.1 C.1.2.1 dX8_readLine_89 rfl (lv_at hl 0 rfl) ?_
        refine lv_iconst (v := 2) C.1.1 C.1.2.1 dX8_readLine_90 (by decide) ?_
        refine q_cVv C w [.int 2] (c_X8_fails  h) kv_X8_fails k_101 (rcv C w kc_X8 hm_0 lm_0) rfl hl.1 (Nat.le_of_ble_eq_true rfl) ⟨Nat.le_of_ble_eq_true rfl, Nat.le_of_ble_eq_true rfl⟩ dX8_readLine_91 (fun M16 H locs h w => ?_)
        exact v_X8_readLine_94 C hr hk   h w (lv_sub hl [0] rfl)
  · replace h := h.2 hc8
    exact q_vret C hr hk w h dX8_readLine_68
set_option maxHeartbeats 4000000 in
set_option maxRecDepth 100000 in
theorem v_X8_readLine_52 {x1 : Int32} {M : Mem} {Q : Mem → Prop} {H : Heap} {locs : List Loc} {ls : Array Slot} (C : Cx p s m args c cX8_readLine 2 RX8 g) (hr : meth.sig.returnType = none) (hk : meth.locks = false)  (h : w_X8_readLine_52 x1 M Q) (w : Wd g layM 12 s.heap M H locs) (hl : lv_has ls 2 [(0, .ref (ga g 0)), (1, .int x1)]) : W p l e (rmOf 4 91) s m args below meth c H locs 0 0 (MQ below (va_Qv Q (PostW g layM 12) (gF g)) args s 0 0 (gF g)) (F0 m 52 ls []) := by
  unfold w_X8_readLine_52 at h
  refine lv_aload_n C.1.1 C.1.2.1 dX8_readLine_52 rfl (lv_at hl 0 rfl) ?_
  refine lv_iconst (v := 5) C.1.1 C.1.2.1 dX8_readLine_53 (by decide) ?_
  refine q_cVv C w [.int 5] (c_X8_fails  h) kv_X8_fails k_101 (rcv C w kc_X8 hm_0 lm_0) rfl hl.1 (Nat.le_of_ble_eq_true rfl) ⟨Nat.le_of_ble_eq_true rfl, Nat.le_of_ble_eq_true rfl⟩ dX8_readLine_54 (fun M19 H locs h w => ?_)
  exact v_X8_readLine_57 C hr hk   h w (lv_sub hl [0, 1] rfl)
set_option maxHeartbeats 4000000 in
set_option maxRecDepth 100000 in
theorem v_X8_readLine_36 {x1 : Int32} {M : Mem} {Q : Mem → Prop} {H : Heap} {locs : List Loc} {ls : Array Slot} (C : Cx p s m args c cX8_readLine 2 RX8 g) (hr : meth.sig.returnType = none) (hk : meth.locks = false)  (h : w_X8_readLine_36 x1 M Q) (w : Wd g layM 12 s.heap M H locs) (hl : lv_has ls 2 [(0, .ref (ga g 0)), (1, .int x1)]) : W p l e (rmOf 4 91) s m args below meth c H locs 0 0 (MQ below (va_Qv Q (PostW g layM 12) (gF g)) args s 0 0 (gF g)) (F0 m 36 ls []) := by
  unfold w_X8_readLine_36 at h
  refine lv_iload_n C.1.1 C.1.2.1 dX8_readLine_36 rfl (lv_at hl 1 rfl) ?_
  refine lv_iconst (v := 4) C.1.1 C.1.2.1 dX8_readLine_37 (by decide) ?_
  refine lv_icmp_ne (tgt := 57) C.1.1 C.1.2.1 dX8_readLine_38 (by decide) (fun hc5 => ?_) (fun hc5 => ?_)
  · replace h := h.2 hc5
    exact v_X8_readLine_57 C hr hk   h w (lv_sub hl [0, 1] rfl)
  · replace h := h.1 hc5
    refine lv_aload_n C.1.1 C.1.2.1 dX8_readLine_41 rfl (lv_at hl 0 rfl) ?_
    refine gr_RX8_13 C w hm_0 lm_0 rfl dX8_readLine_42 ?_
    refine lv_bipush (v := 41) C.1.1 C.1.2.1 dX8_readLine_45 (by decide) ?_
    refine q_ial C w hm_2 lm_2 h.1 dX8_readLine_47 ?_
    replace h := h.2
    refine lv_iconst (v := 3) C.1.1 C.1.2.1 dX8_readLine_48 (by decide) ?_
    refine lv_icmp_ne (tgt := 57) C.1.1 C.1.2.1 dX8_readLine_49 (by decide) (fun hc17 => ?_) (fun hc17 => ?_)
    · replace h := h.2 hc17
      exact v_X8_readLine_57 C hr hk   h w (lv_sub hl [0, 1] rfl)
    · replace h := h.1 hc17
      exact v_X8_readLine_52 C hr hk   h w (lv_sub hl [0, 1] rfl)
set_option maxHeartbeats 4000000 in
set_option maxRecDepth 100000 in
theorem c_X8_readLine {l : Launch} {g : Gt} {M : Mem} {Q : Mem → Prop} (h : w_X8_readLine M Q) : MV l yX8_readLine cX8_readLine 2 none 4 91 g layM 12 [.ref (ga g 0)] M Q :=
  m_of (by decide +kernel) (Nat.le_of_ble_eq_true rfl) (fun p e s m args below meth c ls C hr hk w hl => by
    have C : Cx p s m args c cX8_readLine 2 RX8 g := C
    have hl : lv_has ls 2 [(0, .ref (ga g 0))] := hl
    unfold w_X8_readLine at h
    obtain ⟨H, eH⟩ : ∃ H : Heap, H = s.heap := ⟨_, rfl⟩
    obtain ⟨locs, el⟩ : ∃ locs : List Loc, locs = [] := ⟨_, rfl⟩
    have w : Wd g layM 12 s.heap M H locs := by rw [eH, el]; exact w
    suffices hw : W p l e (rmOf 4 91) s m args below meth c H locs 0 0 (MQ below (va_Qv Q (PostW g layM 12) (gF g)) args s 0 0 (gF g)) (F0 m 0 ls []) by rw [eH, el] at hw; exact hw
    clear eH el
    refine lv_aload_n C.1.1 C.1.2.1 dX8_readLine_0 rfl (lv_at hl 0 rfl) ?_
    refine q_pVi C w [] (c_X8_nameHere  h) kv_X8_nameHere k_105 (rcv C w kc_X8 hm_0 lm_0) rfl hl.1 (Nat.le_of_ble_eq_true rfl) ⟨Nat.le_of_ble_eq_true rfl, Nat.le_of_ble_eq_true rfl⟩ dX8_readLine_1 (fun r1 H locs h w => ?_)
    refine lv_istore_n (lv' := [(1, .int r1), (0, .ref (ga g 0))]) C.1.1 C.1.2.1 dX8_readLine_4 rfl hl (by decide) rfl (fun ls hl => ?_)
    refine lv_iload_n C.1.1 C.1.2.1 dX8_readLine_5 rfl (lv_at hl 0 rfl) ?_
    refine lv_i2l C.1.1 C.1.2.1 dX8_readLine_6 rfl ?_
    refine lv_lconst (v := 0) C.1.1 C.1.2.1 dX8_readLine_7 (by decide) ?_
    refine q_ldc2 C k_104 dX8_readLine_8 ?_
    refine q_pSi C w [.long (r1.toInt64), .long 0, .long 5] (c_X8_in  h) ks_X8_in k_95  rfl hl.1 (Nat.le_of_ble_eq_true rfl) ⟨Nat.le_of_ble_eq_true rfl, Nat.le_of_ble_eq_true rfl⟩ dX8_readLine_11 (fun r2 H locs h w => ?_)
    refine lv_if_ne (tgt := 23) C.1.1 C.1.2.1 dX8_readLine_14 (by decide) (fun hc3 => ?_) (fun hc3 => ?_)
    · replace h := h.2 hc3
      refine lv_iload_n C.1.1 C.1.2.1 dX8_readLine_23 rfl (lv_at hl 0 rfl) ?_
      refine lv_iconst (v := 3) C.1.1 C.1.2.1 dX8_readLine_24 (by decide) ?_
      refine lv_icmp_gt (tgt := 36) C.1.1 C.1.2.1 dX8_readLine_25 (by decide) (fun hc4 => ?_) (fun hc4 => ?_)
      · replace h := h.1 hc4
        exact v_X8_readLine_36 C hr hk   h w (lv_sub hl [1, 0] rfl)
      · replace h := h.2 hc4
        refine lv_aload_n C.1.1 C.1.2.1 dX8_readLine_28 rfl (lv_at hl 1 rfl) ?_
        refine gi_RX8_91 C w hm_0 lm_0 rfl dX8_readLine_29 ?_
        refine lv_iconst (v := 5) C.1.1 C.1.2.1 dX8_readLine_32 (by decide) ?_
        refine lv_icmp_eq (tgt := 52) C.1.1 C.1.2.1 dX8_readLine_33 (by decide) (fun hc20 => ?_) (fun hc20 => ?_)
        · replace h := h.1 hc20
          exact v_X8_readLine_52 C hr hk   h w (lv_sub hl [1, 0] rfl)
        · replace h := h.2 hc20
          exact v_X8_readLine_36 C hr hk   h w (lv_sub hl [1, 0] rfl)
    · replace h := h.1 hc3
      refine lv_aload_n C.1.1 C.1.2.1 dX8_readLine_17 rfl (lv_at hl 1 rfl) ?_
      refine lv_iconst (v := 2) C.1.1 C.1.2.1 dX8_readLine_18 (by decide) ?_
      refine q_cVv C w [.int 2] (c_X8_fails  h) kv_X8_fails k_101 (rcv C w kc_X8 hm_0 lm_0) rfl hl.1 (Nat.le_of_ble_eq_true rfl) ⟨Nat.le_of_ble_eq_true rfl, Nat.le_of_ble_eq_true rfl⟩ dX8_readLine_19 (fun M22 H locs h w => ?_)
      exact q_vret C hr hk w h dX8_readLine_22)
-- text
set_option maxHeartbeats 4000000 in
set_option maxRecDepth 100000 in
theorem v_X8_text_125 {x1 : Int32} {M : Mem} {Q : Int32 → Mem → Prop} {H : Heap} {locs : List Loc} {ls : Array Slot} (C : Cx p s m args c cX8_text 3 RX8 g) (hr : meth.sig.returnType = (some .int)) (hk : meth.locks = false)  (h : w_X8_text_125 x1 M Q) (w : Wd g layM 12 s.heap M H locs) (hl : lv_has ls 3 [(0, .ref (ga g 0)), (1, .int x1)]) : W p l e (rmOf 5 112) s m args below meth c H locs 0 0 (MQ below (va_Qi Q (PostW g layM 12) (gF g)) args s 0 0 (gF g)) (F0 m 125 ls []) := by
  unfold w_X8_text_125 at h
  refine lv_aload_n C.1.1 C.1.2.1 dX8_text_125 rfl (lv_at hl 0 rfl) ?_
  refine lv_aload_n C.1.1 C.1.2.1 dX8_text_126 rfl (lv_at hl 0 rfl) ?_
  refine gi_RX8_91 C w hm_0 lm_0 rfl dX8_text_127 ?_
  refine pi_RX8_116 C w hm_0 lm_0 rfl dX8_text_130 (fun M13 H locs eM13 w => ?_)
  replace h := h M13 eM13
  refine lv_aload_n C.1.1 C.1.2.1 dX8_text_133 rfl (lv_at hl 0 rfl) ?_
  refine lv_iconst (v := 0) C.1.1 C.1.2.1 dX8_text_134 (by decide) ?_
  refine pi_RX8_119 C w hm_0 lm_0 rfl dX8_text_135 (fun M14 H locs eM14 w => ?_)
  replace h := h M14 eM14
  refine lv_aload_n C.1.1 C.1.2.1 dX8_text_138 rfl (lv_at hl 0 rfl) ?_
  refine gr_RX8_31 C w hm_0 lm_0 rfl dX8_text_139 ?_
  refine lv_iconst (v := 0) C.1.1 C.1.2.1 dX8_text_142 (by decide) ?_
  refine lv_iconst (v := 0) C.1.1 C.1.2.1 dX8_text_143 (by decide) ?_
  refine q_zas C w hm_8 lm_8 h.1 dX8_text_144 (fun M15 H locs eM15 w => ?_)
  replace h := h.2 M15 eM15
  refine lv_aload_n C.1.1 C.1.2.1 dX8_text_145 rfl (lv_at hl 0 rfl) ?_
  refine gr_RX8_31 C w hm_0 lm_0 rfl dX8_text_146 ?_
  refine lv_iconst (v := 1) C.1.1 C.1.2.1 dX8_text_149 (by decide) ?_
  refine lv_iconst (v := 0) C.1.1 C.1.2.1 dX8_text_150 (by decide) ?_
  refine q_zas C w hm_8 lm_8 h.1 dX8_text_151 (fun M16 H locs eM16 w => ?_)
  replace h := h.2 M16 eM16
  refine lv_iload_n C.1.1 C.1.2.1 dX8_text_152 rfl (lv_at hl 1 rfl) ?_
  exact q_iret C hr hk w rfl h dX8_text_153
set_option maxHeartbeats 4000000 in
set_option maxRecDepth 100000 in
theorem v_X8_text_101 {x1 : Int32} {x2 : Int32} {M : Mem} {K101 : Int32 → Mem → Prop} {Q : Int32 → Mem → Prop} {H : Heap} {locs : List Loc} {ls : Array Slot} (C : Cx p s m args c cX8_text 3 RX8 g) (hr : meth.sig.returnType = (some .int)) (hk : meth.locks = false) (hK101 : ∀ (x2 : Int32) (M : Mem) (H : Heap) (locs : List Loc) (ls : Array Slot), K101 x2 M → Wd g layM 12 s.heap M H locs → lv_has ls 3 [(0, .ref (ga g 0)), (1, .int x1), (2, .int x2)] → W p l e (rmOf 5 112) s m args below meth c H locs 0 0 (MQ below (va_Qi Q (PostW g layM 12) (gF g)) args s 0 0 (gF g)) (F0 m 101 ls [])) (h : w_X8_text_101 x1 Q K101 x2 M) (w : Wd g layM 12 s.heap M H locs) (hl : lv_has ls 3 [(0, .ref (ga g 0)), (1, .int x1), (2, .int x2)]) : W p l e (rmOf 5 112) s m args below meth c H locs 0 0 (MQ below (va_Qi Q (PostW g layM 12) (gF g)) args s 0 0 (gF g)) (F0 m 101 ls []) := by
  unfold w_X8_text_101 at h
  refine lv_iload_n C.1.1 C.1.2.1 dX8_text_101 rfl (lv_at hl 2 rfl) ?_
  refine lv_bipush (v := 44) C.1.1 C.1.2.1 dX8_text_102 (by decide) ?_
  refine lv_icmp_ge (tgt := 125) C.1.1 C.1.2.1 dX8_text_104 (by decide) (fun hc12 => ?_) (fun hc12 => ?_)
  · replace h := h.1 hc12
    exact v_X8_text_125 C hr hk   h w (lv_sub hl [0, 1] rfl)
  · replace h := h.2 hc12
    refine lv_aload_n C.1.1 C.1.2.1 dX8_text_107 rfl (lv_at hl 0 rfl) ?_
    refine gr_RX8_7 C w hm_0 lm_0 rfl dX8_text_108 ?_
    refine lv_iload_n C.1.1 C.1.2.1 dX8_text_111 rfl (lv_at hl 2 rfl) ?_
    refine lv_aload_n C.1.1 C.1.2.1 dX8_text_112 rfl (lv_at hl 0 rfl) ?_
    refine gr_RX8_13 C w hm_0 lm_0 rfl dX8_text_113 ?_
    refine lv_iload_n C.1.1 C.1.2.1 dX8_text_116 rfl (lv_at hl 2 rfl) ?_
    refine q_ial C w hm_2 lm_2 h.1 dX8_text_117 ?_
    replace h := h.2
    refine q_ias C w hm_1 lm_1 h.1 dX8_text_118 (fun M17 H locs eM17 w => ?_)
    replace h := h.2 M17 eM17
    refine lv_iinc (v := x2 + 1) (lv' := [(2, .int (x2 + 1)), (0, .ref (ga g 0)), (1, .int x1)]) C.1.1 C.1.2.1 dX8_text_119 hl (k := 2) rfl rfl (by decide) rfl (fun ls hl => ?_)
    refine lv_goto (tgt := 101) C.1.1 C.1.2.1 dX8_text_122 (by decide) ?_
    exact hK101 _ _ _ _ _ h w (lv_sub hl [1, 2, 0] rfl)
set_option maxHeartbeats 4000000 in
set_option maxRecDepth 100000 in
theorem l_X8_text_101 {x1 : Int32} {Q : Int32 → Mem → Prop} (C : Cx p s m args c cX8_text 3 RX8 g) (hr : meth.sig.returnType = (some .int)) (hk : meth.locks = false)  : ∀ (n : Nat) (x2 : Int32) (M : Mem) (H : Heap) (locs : List Loc) (ls : Array Slot), fu2 (w_X8_text_101 x1 Q) n x2 M → Wd g layM 12 s.heap M H locs → lv_has ls 3 [(0, .ref (ga g 0)), (1, .int x1), (2, .int x2)] → W p l e (rmOf 5 112) s m args below meth c H locs 0 0 (MQ below (va_Qi Q (PostW g layM 12) (gF g)) args s 0 0 (gF g)) (F0 m 101 ls []) := by
  intro n
  induction n with
  | zero => intro x2 M H locs ls h; exact h.elim
  | succ n ih => intro x2 M H locs ls h w hl; exact v_X8_text_101 C hr hk   ih h w hl
set_option maxHeartbeats 4000000 in
set_option maxRecDepth 100000 in
theorem v_X8_text_71 {x1 : Int32} {M : Mem} {Q : Int32 → Mem → Prop} {H : Heap} {locs : List Loc} {ls : Array Slot} (C : Cx p s m args c cX8_text 3 RX8 g) (hr : meth.sig.returnType = (some .int)) (hk : meth.locks = false)  (h : w_X8_text_71 x1 M Q) (w : Wd g layM 12 s.heap M H locs) (hl : lv_has ls 3 [(0, .ref (ga g 0)), (1, .int x1)]) : W p l e (rmOf 5 112) s m args below meth c H locs 0 0 (MQ below (va_Qi Q (PostW g layM 12) (gF g)) args s 0 0 (gF g)) (F0 m 71 ls []) := by
  unfold w_X8_text_71 at h
  refine lv_aload_n C.1.1 C.1.2.1 dX8_text_71 rfl (lv_at hl 0 rfl) ?_
  refine lv_iconst (v := 0) C.1.1 C.1.2.1 dX8_text_72 (by decide) ?_
  refine pi_RX8_50 C w hm_0 lm_0 rfl dX8_text_73 (fun M9 H locs eM9 w => ?_)
  replace h := h M9 eM9
  refine lv_aload_n C.1.1 C.1.2.1 dX8_text_76 rfl (lv_at hl 0 rfl) ?_
  refine lv_aload_n C.1.1 C.1.2.1 dX8_text_77 rfl (lv_at hl 0 rfl) ?_
  refine gi_RX8_54 C w hm_0 lm_0 rfl dX8_text_78 ?_
  refine pi_RX8_113 C w hm_0 lm_0 rfl dX8_text_81 (fun M10 H locs eM10 w => ?_)
  replace h := h M10 eM10
  refine lv_aload_n C.1.1 C.1.2.1 dX8_text_84 rfl (lv_at hl 0 rfl) ?_
  refine gi_RX8_54 C w hm_0 lm_0 rfl dX8_text_85 ?_
  refine lv_if_le (tgt := 99) C.1.1 C.1.2.1 dX8_text_88 (by decide) (fun hc11 => ?_) (fun hc11 => ?_)
  · replace h := h.1 hc11
    refine lv_iconst (v := 0) C.1.1 C.1.2.1 dX8_text_99 (by decide) ?_
    refine lv_istore_n (lv' := [(2, .int 0), (0, .ref (ga g 0)), (1, .int x1)]) C.1.1 C.1.2.1 dX8_text_100 rfl hl (by decide) rfl (fun ls hl => ?_)
    obtain ⟨n, h⟩ := h
    exact l_X8_text_101 C hr hk   n _ _ _ _ _ h w (lv_sub hl [1, 2, 0] rfl)
  · replace h := h.2 hc11
    refine lv_bipush (v := (-10)) C.1.1 C.1.2.1 dX8_text_91 (by decide) ?_
    refine lv_aload_n C.1.1 C.1.2.1 dX8_text_93 rfl (lv_at hl 0 rfl) ?_
    refine gi_RX8_60 C w hm_0 lm_0 rfl dX8_text_94 ?_
    refine lv_isub C.1.1 C.1.2.1 dX8_text_97 ?_
    exact q_iret C hr hk w rfl h dX8_text_98
set_option maxHeartbeats 4000000 in
set_option maxRecDepth 100000 in
theorem v_X8_text_47 {x1 : Int32} {M : Mem} {K47 : Int32 → Mem → Prop} {Q : Int32 → Mem → Prop} {H : Heap} {locs : List Loc} {ls : Array Slot} (C : Cx p s m args c cX8_text 3 RX8 g) (hr : meth.sig.returnType = (some .int)) (hk : meth.locks = false) (hK47 : ∀ (x1 : Int32) (M : Mem) (H : Heap) (locs : List Loc) (ls : Array Slot), K47 x1 M → Wd g layM 12 s.heap M H locs → lv_has ls 3 [(0, .ref (ga g 0)), (1, .int x1)] → W p l e (rmOf 5 112) s m args below meth c H locs 0 0 (MQ below (va_Qi Q (PostW g layM 12) (gF g)) args s 0 0 (gF g)) (F0 m 47 ls [])) (h : w_X8_text_47 Q K47 x1 M) (w : Wd g layM 12 s.heap M H locs) (hl : lv_has ls 3 [(0, .ref (ga g 0)), (1, .int x1)]) : W p l e (rmOf 5 112) s m args below meth c H locs 0 0 (MQ below (va_Qi Q (PostW g layM 12) (gF g)) args s 0 0 (gF g)) (F0 m 47 ls []) := by
  unfold w_X8_text_47 at h
  refine lv_aload_n C.1.1 C.1.2.1 dX8_text_47 rfl (lv_at hl 0 rfl) ?_
  refine gi_RX8_54 C w hm_0 lm_0 rfl dX8_text_48 ?_
  refine lv_if_ne (tgt := 71) C.1.1 C.1.2.1 dX8_text_51 (by decide) (fun hc8 => ?_) (fun hc8 => ?_)
  · replace h := h.2 hc8
    exact v_X8_text_71 C hr hk   h w (lv_sub hl [0, 1] rfl)
  · replace h := h.1 hc8
    refine lv_aload_n C.1.1 C.1.2.1 dX8_text_54 rfl (lv_at hl 0 rfl) ?_
    refine gi_RX8_63 C w hm_0 lm_0 rfl dX8_text_55 ?_
    refine lv_if_eq (tgt := 71) C.1.1 C.1.2.1 dX8_text_58 (by decide) (fun hc18 => ?_) (fun hc18 => ?_)
    · replace h := h.1 hc18
      exact v_X8_text_71 C hr hk   h w (lv_sub hl [0, 1] rfl)
    · replace h := h.2 hc18
      refine lv_aload_n C.1.1 C.1.2.1 dX8_text_61 rfl (lv_at hl 0 rfl) ?_
      refine q_cVv C w [] (c_X8_readLine  h) kv_X8_readLine k_107 (rcv C w kc_X8 hm_0 lm_0) rfl hl.1 (Nat.le_of_ble_eq_true rfl) ⟨Nat.le_of_ble_eq_true rfl, Nat.le_of_ble_eq_true rfl⟩ dX8_text_62 (fun M20 H locs h w => ?_)
      refine lv_iinc (v := x1 + 1) (lv' := [(1, .int (x1 + 1)), (0, .ref (ga g 0))]) C.1.1 C.1.2.1 dX8_text_65 hl (k := 1) rfl rfl (by decide) rfl (fun ls hl => ?_)
      refine lv_goto (tgt := 47) C.1.1 C.1.2.1 dX8_text_68 (by decide) ?_
      exact hK47 _ _ _ _ _ h w (lv_sub hl [1, 0] rfl)
set_option maxHeartbeats 4000000 in
set_option maxRecDepth 100000 in
theorem l_X8_text_47 {Q : Int32 → Mem → Prop} (C : Cx p s m args c cX8_text 3 RX8 g) (hr : meth.sig.returnType = (some .int)) (hk : meth.locks = false)  : ∀ (n : Nat) (x1 : Int32) (M : Mem) (H : Heap) (locs : List Loc) (ls : Array Slot), fu2 (w_X8_text_47 Q) n x1 M → Wd g layM 12 s.heap M H locs → lv_has ls 3 [(0, .ref (ga g 0)), (1, .int x1)] → W p l e (rmOf 5 112) s m args below meth c H locs 0 0 (MQ below (va_Qi Q (PostW g layM 12) (gF g)) args s 0 0 (gF g)) (F0 m 47 ls []) := by
  intro n
  induction n with
  | zero => intro x1 M H locs ls h; exact h.elim
  | succ n ih => intro x1 M H locs ls h w hl; exact v_X8_text_47 C hr hk   ih h w hl
set_option maxHeartbeats 4000000 in
set_option maxRecDepth 100000 in
theorem v_X8_text_43 {x1 : Int32} {M : Mem} {Q : Int32 → Mem → Prop} {H : Heap} {locs : List Loc} {ls : Array Slot} (C : Cx p s m args c cX8_text 3 RX8 g) (hr : meth.sig.returnType = (some .int)) (hk : meth.locks = false)  (h : w_X8_text_43 x1 M Q) (w : Wd g layM 12 s.heap M H locs) (hl : lv_has ls 3 [(0, .ref (ga g 0)), (1, .int x1)]) : W p l e (rmOf 5 112) s m args below meth c H locs 0 0 (MQ below (va_Qi Q (PostW g layM 12) (gF g)) args s 0 0 (gF g)) (F0 m 43 ls []) := by
  unfold w_X8_text_43 at h
  refine lv_aload_n C.1.1 C.1.2.1 dX8_text_43 rfl (lv_at hl 0 rfl) ?_
  refine q_cVv C w [] (c_X8_step  h) kv_X8_step k_102 (rcv C w kc_X8 hm_0 lm_0) rfl hl.1 (Nat.le_of_ble_eq_true rfl) ⟨Nat.le_of_ble_eq_true rfl, Nat.le_of_ble_eq_true rfl⟩ dX8_text_44 (fun M7 H locs h w => ?_)
  obtain ⟨n, h⟩ := h
  exact l_X8_text_47 C hr hk   n _ _ _ _ _ h w (lv_sub hl [0, 1] rfl)
set_option maxHeartbeats 4000000 in
set_option maxRecDepth 100000 in
theorem v_X8_text_24 {x1 : Int32} {x2 : Int32} {M : Mem} {K24 : Int32 → Mem → Prop} {Q : Int32 → Mem → Prop} {H : Heap} {locs : List Loc} {ls : Array Slot} (C : Cx p s m args c cX8_text 3 RX8 g) (hr : meth.sig.returnType = (some .int)) (hk : meth.locks = false) (hK24 : ∀ (x2 : Int32) (M : Mem) (H : Heap) (locs : List Loc) (ls : Array Slot), K24 x2 M → Wd g layM 12 s.heap M H locs → lv_has ls 3 [(0, .ref (ga g 0)), (1, .int x1), (2, .int x2)] → W p l e (rmOf 5 112) s m args below meth c H locs 0 0 (MQ below (va_Qi Q (PostW g layM 12) (gF g)) args s 0 0 (gF g)) (F0 m 24 ls [])) (h : w_X8_text_24 x1 Q K24 x2 M) (w : Wd g layM 12 s.heap M H locs) (hl : lv_has ls 3 [(0, .ref (ga g 0)), (1, .int x1), (2, .int x2)]) : W p l e (rmOf 5 112) s m args below meth c H locs 0 0 (MQ below (va_Qi Q (PostW g layM 12) (gF g)) args s 0 0 (gF g)) (F0 m 24 ls []) := by
  unfold w_X8_text_24 at h
  refine lv_iload_n C.1.1 C.1.2.1 dX8_text_24 rfl (lv_at hl 2 rfl) ?_
  refine lv_bipush (v := 44) C.1.1 C.1.2.1 dX8_text_25 (by decide) ?_
  refine lv_icmp_ge (tgt := 43) C.1.1 C.1.2.1 dX8_text_27 (by decide) (fun hc5 => ?_) (fun hc5 => ?_)
  · replace h := h.1 hc5
    exact v_X8_text_43 C hr hk   h w (lv_sub hl [0, 1] rfl)
  · replace h := h.2 hc5
    refine lv_aload_n C.1.1 C.1.2.1 dX8_text_30 rfl (lv_at hl 0 rfl) ?_
    refine gr_RX8_13 C w hm_0 lm_0 rfl dX8_text_31 ?_
    refine lv_iload_n C.1.1 C.1.2.1 dX8_text_34 rfl (lv_at hl 2 rfl) ?_
    refine lv_iconst (v := 0) C.1.1 C.1.2.1 dX8_text_35 (by decide) ?_
    refine q_ias C w hm_2 lm_2 h.1 dX8_text_36 (fun M21 H locs eM21 w => ?_)
    replace h := h.2 M21 eM21
    refine lv_iinc (v := x2 + 1) (lv' := [(2, .int (x2 + 1)), (0, .ref (ga g 0)), (1, .int x1)]) C.1.1 C.1.2.1 dX8_text_37 hl (k := 2) rfl rfl (by decide) rfl (fun ls hl => ?_)
    refine lv_goto (tgt := 24) C.1.1 C.1.2.1 dX8_text_40 (by decide) ?_
    exact hK24 _ _ _ _ _ h w (lv_sub hl [1, 2, 0] rfl)
set_option maxHeartbeats 4000000 in
set_option maxRecDepth 100000 in
theorem l_X8_text_24 {x1 : Int32} {Q : Int32 → Mem → Prop} (C : Cx p s m args c cX8_text 3 RX8 g) (hr : meth.sig.returnType = (some .int)) (hk : meth.locks = false)  : ∀ (n : Nat) (x2 : Int32) (M : Mem) (H : Heap) (locs : List Loc) (ls : Array Slot), fu2 (w_X8_text_24 x1 Q) n x2 M → Wd g layM 12 s.heap M H locs → lv_has ls 3 [(0, .ref (ga g 0)), (1, .int x1), (2, .int x2)] → W p l e (rmOf 5 112) s m args below meth c H locs 0 0 (MQ below (va_Qi Q (PostW g layM 12) (gF g)) args s 0 0 (gF g)) (F0 m 24 ls []) := by
  intro n
  induction n with
  | zero => intro x2 M H locs ls h; exact h.elim
  | succ n ih => intro x2 M H locs ls h w hl; exact v_X8_text_24 C hr hk   ih h w hl
set_option maxHeartbeats 4000000 in
set_option maxRecDepth 100000 in
theorem c_X8_text {l : Launch} {g : Gt} {M : Mem} {Q : Int32 → Mem → Prop} (h : w_X8_text M Q) : MI l yX8_text cX8_text 3 (some .int) 5 112 g layM 12 [.ref (ga g 0)] M Q :=
  m_of (by decide +kernel) (Nat.le_of_ble_eq_true rfl) (fun p e s m args below meth c ls C hr hk w hl => by
    have C : Cx p s m args c cX8_text 3 RX8 g := C
    have hl : lv_has ls 3 [(0, .ref (ga g 0))] := hl
    unfold w_X8_text at h
    obtain ⟨H, eH⟩ : ∃ H : Heap, H = s.heap := ⟨_, rfl⟩
    obtain ⟨locs, el⟩ : ∃ locs : List Loc, locs = [] := ⟨_, rfl⟩
    have w : Wd g layM 12 s.heap M H locs := by rw [eH, el]; exact w
    suffices hw : W p l e (rmOf 5 112) s m args below meth c H locs 0 0 (MQ below (va_Qi Q (PostW g layM 12) (gF g)) args s 0 0 (gF g)) (F0 m 0 ls []) by rw [eH, el] at hw; exact hw
    clear eH el
    refine lv_aload_n C.1.1 C.1.2.1 dX8_text_0 rfl (lv_at hl 0 rfl) ?_
    refine lv_iconst (v := 0) C.1.1 C.1.2.1 dX8_text_1 (by decide) ?_
    refine pi_RX8_54 C w hm_0 lm_0 rfl dX8_text_2 (fun M1 H locs eM1 w => ?_)
    replace h := h M1 eM1
    refine lv_aload_n C.1.1 C.1.2.1 dX8_text_5 rfl (lv_at hl 0 rfl) ?_
    refine lv_iconst (v := 0) C.1.1 C.1.2.1 dX8_text_6 (by decide) ?_
    refine pi_RX8_66 C w hm_0 lm_0 rfl dX8_text_7 (fun M2 H locs eM2 w => ?_)
    replace h := h M2 eM2
    refine lv_aload_n C.1.1 C.1.2.1 dX8_text_10 rfl (lv_at hl 0 rfl) ?_
    refine lv_iconst (v := 0) C.1.1 C.1.2.1 dX8_text_11 (by decide) ?_
    refine pi_RX8_91 C w hm_0 lm_0 rfl dX8_text_12 (fun M3 H locs eM3 w => ?_)
    replace h := h M3 eM3
    refine lv_aload_n C.1.1 C.1.2.1 dX8_text_15 rfl (lv_at hl 0 rfl) ?_
    refine lv_iconst (v := 0) C.1.1 C.1.2.1 dX8_text_16 (by decide) ?_
    refine pi_RX8_100 C w hm_0 lm_0 rfl dX8_text_17 (fun M4 H locs eM4 w => ?_)
    replace h := h M4 eM4
    refine lv_iconst (v := 0) C.1.1 C.1.2.1 dX8_text_20 (by decide) ?_
    refine lv_istore_n (lv' := [(1, .int 0), (0, .ref (ga g 0))]) C.1.1 C.1.2.1 dX8_text_21 rfl hl (by decide) rfl (fun ls hl => ?_)
    refine lv_iconst (v := 0) C.1.1 C.1.2.1 dX8_text_22 (by decide) ?_
    refine lv_istore_n (lv' := [(2, .int 0), (1, .int 0), (0, .ref (ga g 0))]) C.1.1 C.1.2.1 dX8_text_23 rfl hl (by decide) rfl (fun ls hl => ?_)
    obtain ⟨n, h⟩ := h
    exact l_X8_text_24 C hr hk   n _ _ _ _ _ h w (lv_sub hl [2, 1, 0] rfl))
-- fault
set_option maxHeartbeats 4000000 in
set_option maxRecDepth 100000 in
theorem c_X8_fault {l : Launch} {g : Gt} {M : Mem} {Q : Int32 → Prop} (h : w_X8_fault M Q) : MI l yX8_fault cX8_fault 1 (some .int) 0 0 g layM 12 [.ref (ga g 0)] M (fun r M9 => M9 = M ∧ Q r) :=
  m_of (by decide +kernel) (Nat.le_of_ble_eq_true rfl) (fun p e s m args below meth c ls C hr hk w hl => by
    have C : Cx p s m args c cX8_fault 1 RX8 g := C
    have hl : lv_has ls 1 [(0, .ref (ga g 0))] := hl
    unfold w_X8_fault at h
    obtain ⟨H, eH⟩ : ∃ H : Heap, H = s.heap := ⟨_, rfl⟩
    obtain ⟨locs, el⟩ : ∃ locs : List Loc, locs = [] := ⟨_, rfl⟩
    have w : Wd g layM 12 s.heap M H locs := by rw [eH, el]; exact w
    suffices hw : W p l e (rmOf 0 0) s m args below meth c H locs 0 0 (MQ below (va_Qi (fun r M9 => M9 = M ∧ Q r) (PostW g layM 12) (gF g)) args s 0 0 (gF g)) (F0 m 0 ls []) by rw [eH, el] at hw; exact hw
    clear eH el
    refine lv_aload_n C.1.1 C.1.2.1 dX8_fault_0 rfl (lv_at hl 0 rfl) ?_
    refine gi_RX8_113 C w hm_0 lm_0 rfl dX8_fault_1 ?_
    exact q_iret C hr hk w rfl ⟨rfl, h⟩ dX8_fault_4)
-- isGate
set_option maxHeartbeats 4000000 in
set_option maxRecDepth 100000 in
theorem c_X8_isGate {l : Launch} {g : Gt} {x0 : Int32} {M : Mem} {Q : Int32 → Prop} (h : w_X8_isGate x0 M Q) : MI l yX8_isGate cX8_isGate 1 (some .boolean) 1 25 g layM 12 [.int x0] M (fun r M9 => M9 = M ∧ Q r) :=
  m_of (by decide +kernel) (Nat.le_of_ble_eq_true rfl) (fun p e s m args below meth c ls C hr hk w hl => by
    have C : Cx p s m args c cX8_isGate 1 RX8 g := C
    have hl : lv_has ls 1 [(0, .int x0)] := hl
    unfold w_X8_isGate at h
    obtain ⟨H, eH⟩ : ∃ H : Heap, H = s.heap := ⟨_, rfl⟩
    obtain ⟨locs, el⟩ : ∃ locs : List Loc, locs = [] := ⟨_, rfl⟩
    have w : Wd g layM 12 s.heap M H locs := by rw [eH, el]; exact w
    suffices hw : W p l e (rmOf 1 25) s m args below meth c H locs 0 0 (MQ below (va_Qi (fun r M9 => M9 = M ∧ Q r) (PostW g layM 12) (gF g)) args s 0 0 (gF g)) (F0 m 0 ls []) by rw [eH, el] at hw; exact hw
    clear eH el
    refine lv_iload_n C.1.1 C.1.2.1 dX8_isGate_0 rfl (lv_at hl 0 rfl) ?_
    refine lv_i2l C.1.1 C.1.2.1 dX8_isGate_1 rfl ?_
    refine lv_lconst (v := 0) C.1.1 C.1.2.1 dX8_isGate_2 (by decide) ?_
    refine q_ldc2 C k_104 dX8_isGate_3 ?_
    refine q_pSi C w [.long (x0.toInt64), .long 0, .long 5] (c_X8_in  h) ks_X8_in k_95  rfl hl.1 (Nat.le_of_ble_eq_true rfl) ⟨Nat.le_of_ble_eq_true rfl, Nat.le_of_ble_eq_true rfl⟩ dX8_isGate_6 (fun r1 H locs h w => ?_)
    exact q_iret C hr hk w h.1 ⟨rfl, h.2⟩ dX8_isGate_9)
-- isTaker
set_option maxHeartbeats 4000000 in
set_option maxRecDepth 100000 in
theorem c_X8_isTaker {l : Launch} {g : Gt} {x1 : Int32} {M : Mem} {Q : Int32 → Prop} (h : w_X8_isTaker x1 M Q) : MI l yX8_isTaker cX8_isTaker 2 (some .boolean) 1 25 g layM 12 [.ref (ga g 0), .int x1] M (fun r M9 => M9 = M ∧ Q r) :=
  m_of (by decide +kernel) (Nat.le_of_ble_eq_true rfl) (fun p e s m args below meth c ls C hr hk w hl => by
    have C : Cx p s m args c cX8_isTaker 2 RX8 g := C
    have hl : lv_has ls 2 [(0, .ref (ga g 0)), (1, .int x1)] := hl
    unfold w_X8_isTaker at h
    obtain ⟨H, eH⟩ : ∃ H : Heap, H = s.heap := ⟨_, rfl⟩
    obtain ⟨locs, el⟩ : ∃ locs : List Loc, locs = [] := ⟨_, rfl⟩
    have w : Wd g layM 12 s.heap M H locs := by rw [eH, el]; exact w
    suffices hw : W p l e (rmOf 1 25) s m args below meth c H locs 0 0 (MQ below (va_Qi (fun r M9 => M9 = M ∧ Q r) (PostW g layM 12) (gF g)) args s 0 0 (gF g)) (F0 m 0 ls []) by rw [eH, el] at hw; exact hw
    clear eH el
    refine lv_iload_n C.1.1 C.1.2.1 dX8_isTaker_0 rfl (lv_at hl 1 rfl) ?_
    refine lv_i2l C.1.1 C.1.2.1 dX8_isTaker_1 rfl ?_
    refine lv_lconst (v := 0) C.1.1 C.1.2.1 dX8_isTaker_2 (by decide) ?_
    refine lv_aload_n C.1.1 C.1.2.1 dX8_isTaker_3 rfl (lv_at hl 0 rfl) ?_
    refine gi_RX8_116 C w hm_0 lm_0 rfl dX8_isTaker_4 ?_
    refine lv_iconst (v := 1) C.1.1 C.1.2.1 dX8_isTaker_7 (by decide) ?_
    refine lv_isub C.1.1 C.1.2.1 dX8_isTaker_8 ?_
    refine lv_i2l C.1.1 C.1.2.1 dX8_isTaker_9 rfl ?_
    refine q_pSi C w [.long (x1.toInt64), .long 0, .long (((M 0 1) - 1).toInt64)] (c_X8_in  h) ks_X8_in k_95  rfl hl.1 (Nat.le_of_ble_eq_true rfl) ⟨Nat.le_of_ble_eq_true rfl, Nat.le_of_ble_eq_true rfl⟩ dX8_isTaker_10 (fun r1 H locs h w => ?_)
    exact q_iret C hr hk w h.1 ⟨rfl, h.2⟩ dX8_isTaker_13)
-- isKeeper
set_option maxHeartbeats 4000000 in
set_option maxRecDepth 100000 in
theorem c_X8_isKeeper {l : Launch} {g : Gt} {x1 : Int32} {M : Mem} {Q : Int32 → Prop} (h : w_X8_isKeeper x1 M Q) : MI l yX8_isKeeper cX8_isKeeper 2 (some .boolean) 1 25 g layM 12 [.ref (ga g 0), .int x1] M (fun r M9 => M9 = M ∧ Q r) :=
  m_of (by decide +kernel) (Nat.le_of_ble_eq_true rfl) (fun p e s m args below meth c ls C hr hk w hl => by
    have C : Cx p s m args c cX8_isKeeper 2 RX8 g := C
    have hl : lv_has ls 2 [(0, .ref (ga g 0)), (1, .int x1)] := hl
    unfold w_X8_isKeeper at h
    obtain ⟨H, eH⟩ : ∃ H : Heap, H = s.heap := ⟨_, rfl⟩
    obtain ⟨locs, el⟩ : ∃ locs : List Loc, locs = [] := ⟨_, rfl⟩
    have w : Wd g layM 12 s.heap M H locs := by rw [eH, el]; exact w
    suffices hw : W p l e (rmOf 1 25) s m args below meth c H locs 0 0 (MQ below (va_Qi (fun r M9 => M9 = M ∧ Q r) (PostW g layM 12) (gF g)) args s 0 0 (gF g)) (F0 m 0 ls []) by rw [eH, el] at hw; exact hw
    clear eH el
    refine lv_iload_n C.1.1 C.1.2.1 dX8_isKeeper_0 rfl (lv_at hl 1 rfl) ?_
    refine lv_i2l C.1.1 C.1.2.1 dX8_isKeeper_1 rfl ?_
    refine lv_lconst (v := 0) C.1.1 C.1.2.1 dX8_isKeeper_2 (by decide) ?_
    refine lv_aload_n C.1.1 C.1.2.1 dX8_isKeeper_3 rfl (lv_at hl 0 rfl) ?_
    refine gr_RX8_7 C w hm_0 lm_0 rfl dX8_isKeeper_4 ?_
    refine lv_bipush (v := 41) C.1.1 C.1.2.1 dX8_isKeeper_7 (by decide) ?_
    refine q_ial C w hm_1 lm_1 h.1 dX8_isKeeper_9 ?_
    replace h := h.2
    refine lv_iconst (v := 1) C.1.1 C.1.2.1 dX8_isKeeper_10 (by decide) ?_
    refine lv_isub C.1.1 C.1.2.1 dX8_isKeeper_11 ?_
    refine lv_i2l C.1.1 C.1.2.1 dX8_isKeeper_12 rfl ?_
    refine q_pSi C w [.long (x1.toInt64), .long 0, .long (((M 1 (41 : Int32).toNatClampNeg) - 1).toInt64)] (c_X8_in  h) ks_X8_in k_95  rfl hl.1 (Nat.le_of_ble_eq_true rfl) ⟨Nat.le_of_ble_eq_true rfl, Nat.le_of_ble_eq_true rfl⟩ dX8_isKeeper_13 (fun r1 H locs h w => ?_)
    exact q_iret C hr hk w h.1 ⟨rfl, h.2⟩ dX8_isKeeper_16)
-- takesOn
set_option maxHeartbeats 4000000 in
set_option maxRecDepth 100000 in
theorem c_X8_takesOn {l : Launch} {g : Gt} {x1 : Int32} {x2 : Int32} {M : Mem} {Q : Int32 → Prop} (h : w_X8_takesOn x1 x2 M Q) : MI l yX8_takesOn cX8_takesOn 4 (some .int) 0 0 g layM 12 [.ref (ga g 0), .int x1, .int x2] M (fun r M9 => M9 = M ∧ Q r) :=
  m_of (by decide +kernel) (Nat.le_of_ble_eq_true rfl) (fun p e s m args below meth c ls C hr hk w hl => by
    have C : Cx p s m args c cX8_takesOn 4 RX8 g := C
    have hl : lv_has ls 4 [(0, .ref (ga g 0)), (1, .int x1), (2, .int x2)] := hl
    unfold w_X8_takesOn at h
    obtain ⟨H, eH⟩ : ∃ H : Heap, H = s.heap := ⟨_, rfl⟩
    obtain ⟨locs, el⟩ : ∃ locs : List Loc, locs = [] := ⟨_, rfl⟩
    have w : Wd g layM 12 s.heap M H locs := by rw [eH, el]; exact w
    suffices hw : W p l e (rmOf 0 0) s m args below meth c H locs 0 0 (MQ below (va_Qi (fun r M9 => M9 = M ∧ Q r) (PostW g layM 12) (gF g)) args s 0 0 (gF g)) (F0 m 0 ls []) by rw [eH, el] at hw; exact hw
    clear eH el
    refine lv_aload_n C.1.1 C.1.2.1 dX8_takesOn_0 rfl (lv_at hl 0 rfl) ?_
    refine gr_RX8_7 C w hm_0 lm_0 rfl dX8_takesOn_1 ?_
    refine lv_iload_n C.1.1 C.1.2.1 dX8_takesOn_4 rfl (lv_at hl 1 rfl) ?_
    refine lv_bipush (v := 12) C.1.1 C.1.2.1 dX8_takesOn_5 (by decide) ?_
    refine lv_iadd C.1.1 C.1.2.1 dX8_takesOn_7 ?_
    refine lv_iload_n C.1.1 C.1.2.1 dX8_takesOn_8 rfl (lv_at hl 2 rfl) ?_
    refine lv_iadd C.1.1 C.1.2.1 dX8_takesOn_9 ?_
    refine q_ial C w hm_1 lm_1 h.1 dX8_takesOn_10 ?_
    replace h := h.2
    refine lv_istore_n (lv' := [(3, .int (M 1 ((x1 + 12) + x2).toNatClampNeg)), (0, .ref (ga g 0)), (1, .int x1), (2, .int x2)]) C.1.1 C.1.2.1 dX8_takesOn_11 rfl hl (by decide) rfl (fun ls hl => ?_)
    refine lv_iload_n C.1.1 C.1.2.1 dX8_takesOn_12 rfl (lv_at hl 0 rfl) ?_
    refine lv_iconst (v := 3) C.1.1 C.1.2.1 dX8_takesOn_13 (by decide) ?_
    have J : ∀ ls : Array Slot, lv_has ls 4 [] → W p l e (rmOf 0 0) s m args below meth c H locs 0 0 (MQ below (va_Qi (fun r M9 => M9 = M ∧ Q r) (PostW g layM 12) (gF g)) args s 0 0 (gF g)) (F0 m 33 ls [.int (if (M 1 ((x1 + 12) + x2).toNatClampNeg) = 3 then (12 : Int32) else (if (M 1 ((x1 + 12) + x2).toNatClampNeg) = 2 then (3 : Int32) else 6))]) := by
      intro ls hl
      exact q_iret C hr hk w rfl ⟨rfl, h⟩ dX8_takesOn_33
    refine lv_icmp_ne (tgt := 22) C.1.1 C.1.2.1 dX8_takesOn_14 (by decide) (fun hc1 => ?_) (fun hc1 => ?_)
    · refine lv_iload_n C.1.1 C.1.2.1 dX8_takesOn_22 rfl (lv_at hl 0 rfl) ?_
      refine lv_iconst (v := 2) C.1.1 C.1.2.1 dX8_takesOn_23 (by decide) ?_
      refine lv_icmp_ne (tgt := 31) C.1.1 C.1.2.1 dX8_takesOn_24 (by decide) (fun hc2 => ?_) (fun hc2 => ?_)
      · refine lv_bipush (v := 6) C.1.1 C.1.2.1 dX8_takesOn_31 (by decide) ?_
        simp only [if_neg hc1, if_neg hc2] at J hl
        exact J ls (lv_sub hl [] rfl)
      · refine lv_iconst (v := 3) C.1.1 C.1.2.1 dX8_takesOn_27 (by decide) ?_
        refine lv_goto (tgt := 33) C.1.1 C.1.2.1 dX8_takesOn_28 (by decide) ?_
        simp only [if_neg hc1, if_pos hc2] at J hl
        exact J ls (lv_sub hl [] rfl)
    · refine lv_bipush (v := 12) C.1.1 C.1.2.1 dX8_takesOn_17 (by decide) ?_
      refine lv_goto (tgt := 33) C.1.1 C.1.2.1 dX8_takesOn_19 (by decide) ?_
      simp only [if_pos hc1] at J hl
      exact J ls (lv_sub hl [] rfl))
-- noiseOn
set_option maxHeartbeats 4000000 in
set_option maxRecDepth 100000 in
theorem c_X8_noiseOn {l : Launch} {g : Gt} {x1 : Int32} {x2 : Int32} {M : Mem} {Q : Int32 → Prop} (h : w_X8_noiseOn x1 x2 M Q) : MI l yX8_noiseOn cX8_noiseOn 4 (some .int) 0 0 g layM 12 [.ref (ga g 0), .int x1, .int x2] M (fun r M9 => M9 = M ∧ Q r) :=
  m_of (by decide +kernel) (Nat.le_of_ble_eq_true rfl) (fun p e s m args below meth c ls C hr hk w hl => by
    have C : Cx p s m args c cX8_noiseOn 4 RX8 g := C
    have hl : lv_has ls 4 [(0, .ref (ga g 0)), (1, .int x1), (2, .int x2)] := hl
    unfold w_X8_noiseOn at h
    obtain ⟨H, eH⟩ : ∃ H : Heap, H = s.heap := ⟨_, rfl⟩
    obtain ⟨locs, el⟩ : ∃ locs : List Loc, locs = [] := ⟨_, rfl⟩
    have w : Wd g layM 12 s.heap M H locs := by rw [eH, el]; exact w
    suffices hw : W p l e (rmOf 0 0) s m args below meth c H locs 0 0 (MQ below (va_Qi (fun r M9 => M9 = M ∧ Q r) (PostW g layM 12) (gF g)) args s 0 0 (gF g)) (F0 m 0 ls []) by rw [eH, el] at hw; exact hw
    clear eH el
    refine lv_aload_n C.1.1 C.1.2.1 dX8_noiseOn_0 rfl (lv_at hl 0 rfl) ?_
    refine gr_RX8_7 C w hm_0 lm_0 rfl dX8_noiseOn_1 ?_
    refine lv_iload_n C.1.1 C.1.2.1 dX8_noiseOn_4 rfl (lv_at hl 1 rfl) ?_
    refine lv_bipush (v := 12) C.1.1 C.1.2.1 dX8_noiseOn_5 (by decide) ?_
    refine lv_iadd C.1.1 C.1.2.1 dX8_noiseOn_7 ?_
    refine lv_iload_n C.1.1 C.1.2.1 dX8_noiseOn_8 rfl (lv_at hl 2 rfl) ?_
    refine lv_iadd C.1.1 C.1.2.1 dX8_noiseOn_9 ?_
    refine q_ial C w hm_1 lm_1 h.1 dX8_noiseOn_10 ?_
    replace h := h.2
    refine lv_istore_n (lv' := [(3, .int (M 1 ((x1 + 12) + x2).toNatClampNeg)), (0, .ref (ga g 0)), (1, .int x1), (2, .int x2)]) C.1.1 C.1.2.1 dX8_noiseOn_11 rfl hl (by decide) rfl (fun ls hl => ?_)
    refine lv_iload_n C.1.1 C.1.2.1 dX8_noiseOn_12 rfl (lv_at hl 0 rfl) ?_
    have J : ∀ ls : Array Slot, lv_has ls 4 [] → W p l e (rmOf 0 0) s m args below meth c H locs 0 0 (MQ below (va_Qi (fun r M9 => M9 = M ∧ Q r) (PostW g layM 12) (gF g)) args s 0 0 (gF g)) (F0 m 30 ls [.int (if (M 1 ((x1 + 12) + x2).toNatClampNeg) = 0 then (3 : Int32) else (if (M 1 ((x1 + 12) + x2).toNatClampNeg) = 1 then (1 : Int32) else 5))]) := by
      intro ls hl
      exact q_iret C hr hk w rfl ⟨rfl, h⟩ dX8_noiseOn_30
    refine lv_if_ne (tgt := 20) C.1.1 C.1.2.1 dX8_noiseOn_13 (by decide) (fun hc1 => ?_) (fun hc1 => ?_)
    · refine lv_iload_n C.1.1 C.1.2.1 dX8_noiseOn_20 rfl (lv_at hl 0 rfl) ?_
      refine lv_iconst (v := 1) C.1.1 C.1.2.1 dX8_noiseOn_21 (by decide) ?_
      refine lv_icmp_ne (tgt := 29) C.1.1 C.1.2.1 dX8_noiseOn_22 (by decide) (fun hc2 => ?_) (fun hc2 => ?_)
      · refine lv_iconst (v := 5) C.1.1 C.1.2.1 dX8_noiseOn_29 (by decide) ?_
        simp only [if_neg hc1, if_neg hc2] at J hl
        exact J ls (lv_sub hl [] rfl)
      · refine lv_iconst (v := 1) C.1.1 C.1.2.1 dX8_noiseOn_25 (by decide) ?_
        refine lv_goto (tgt := 30) C.1.1 C.1.2.1 dX8_noiseOn_26 (by decide) ?_
        simp only [if_neg hc1, if_pos hc2] at J hl
        exact J ls (lv_sub hl [] rfl)
    · refine lv_iconst (v := 3) C.1.1 C.1.2.1 dX8_noiseOn_16 (by decide) ?_
      refine lv_goto (tgt := 30) C.1.1 C.1.2.1 dX8_noiseOn_17 (by decide) ?_
      simp only [if_pos hc1] at J hl
      exact J ls (lv_sub hl [] rfl))
-- atOn
set_option maxHeartbeats 4000000 in
set_option maxRecDepth 100000 in
theorem c_X8_atOn {l : Launch} {g : Gt} {x1 : Int32} {x2 : Int32} {M : Mem} {Q : Int32 → Prop} (h : w_X8_atOn x1 x2 M Q) : MI l yX8_atOn cX8_atOn 3 (some .int) 0 0 g layM 12 [.ref (ga g 0), .int x1, .int x2] M (fun r M9 => M9 = M ∧ Q r) :=
  m_of (by decide +kernel) (Nat.le_of_ble_eq_true rfl) (fun p e s m args below meth c ls C hr hk w hl => by
    have C : Cx p s m args c cX8_atOn 3 RX8 g := C
    have hl : lv_has ls 3 [(0, .ref (ga g 0)), (1, .int x1), (2, .int x2)] := hl
    unfold w_X8_atOn at h
    obtain ⟨H, eH⟩ : ∃ H : Heap, H = s.heap := ⟨_, rfl⟩
    obtain ⟨locs, el⟩ : ∃ locs : List Loc, locs = [] := ⟨_, rfl⟩
    have w : Wd g layM 12 s.heap M H locs := by rw [eH, el]; exact w
    suffices hw : W p l e (rmOf 0 0) s m args below meth c H locs 0 0 (MQ below (va_Qi (fun r M9 => M9 = M ∧ Q r) (PostW g layM 12) (gF g)) args s 0 0 (gF g)) (F0 m 0 ls []) by rw [eH, el] at hw; exact hw
    clear eH el
    refine lv_aload_n C.1.1 C.1.2.1 dX8_atOn_0 rfl (lv_at hl 0 rfl) ?_
    refine gr_RX8_7 C w hm_0 lm_0 rfl dX8_atOn_1 ?_
    refine lv_iload_n C.1.1 C.1.2.1 dX8_atOn_4 rfl (lv_at hl 1 rfl) ?_
    refine lv_bipush (v := 32) C.1.1 C.1.2.1 dX8_atOn_5 (by decide) ?_
    refine lv_iadd C.1.1 C.1.2.1 dX8_atOn_7 ?_
    refine lv_iload_n C.1.1 C.1.2.1 dX8_atOn_8 rfl (lv_at hl 2 rfl) ?_
    refine lv_iadd C.1.1 C.1.2.1 dX8_atOn_9 ?_
    refine q_ial C w hm_1 lm_1 h.1 dX8_atOn_10 ?_
    replace h := h.2
    refine lv_aload_n C.1.1 C.1.2.1 dX8_atOn_11 rfl (lv_at hl 0 rfl) ?_
    refine gr_RX8_7 C w hm_0 lm_0 rfl dX8_atOn_12 ?_
    refine lv_iload_n C.1.1 C.1.2.1 dX8_atOn_15 rfl (lv_at hl 1 rfl) ?_
    refine lv_bipush (v := 42) C.1.1 C.1.2.1 dX8_atOn_16 (by decide) ?_
    refine lv_iadd C.1.1 C.1.2.1 dX8_atOn_18 ?_
    refine q_ial C w hm_1 lm_1 h.1 dX8_atOn_19 ?_
    replace h := h.2
    refine lv_aload_n C.1.1 C.1.2.1 dX8_atOn_20 rfl (lv_at hl 0 rfl) ?_
    refine gr_RX8_7 C w hm_0 lm_0 rfl dX8_atOn_21 ?_
    refine lv_iload_n C.1.1 C.1.2.1 dX8_atOn_24 rfl (lv_at hl 1 rfl) ?_
    refine lv_bipush (v := 35) C.1.1 C.1.2.1 dX8_atOn_25 (by decide) ?_
    refine lv_iadd C.1.1 C.1.2.1 dX8_atOn_27 ?_
    refine lv_iload_n C.1.1 C.1.2.1 dX8_atOn_28 rfl (lv_at hl 2 rfl) ?_
    refine lv_iadd C.1.1 C.1.2.1 dX8_atOn_29 ?_
    refine q_ial C w hm_1 lm_1 h.1 dX8_atOn_30 ?_
    replace h := h.2
    refine lv_imul C.1.1 C.1.2.1 dX8_atOn_31 ?_
    refine lv_iadd C.1.1 C.1.2.1 dX8_atOn_32 ?_
    refine lv_bipush (v := 6) C.1.1 C.1.2.1 dX8_atOn_33 (by decide) ?_
    refine q_irem C dX8_atOn_35 (by decide) ?_
    exact q_iret C hr hk w rfl ⟨rfl, h⟩ dX8_atOn_36)
-- isHeardOn
set_option maxHeartbeats 4000000 in
set_option maxRecDepth 100000 in
theorem v_X8_isHeardOn_70 {x1 : Int32} {x2 : Int32} {x4 : Int32} {t0 : Int32} {M : Mem} {K5 : Int32 → Int32 → Prop} {Q : Int32 → Prop} {H : Heap} {locs : List Loc} {ls : Array Slot} (C : Cx p s m args c cX8_isHeardOn 5 RX8 g) (hr : meth.sig.returnType = (some .boolean)) (hk : meth.locks = false) (hK5 : ∀ (x3 : Int32) (x4 : Int32) (H : Heap) (locs : List Loc) (ls : Array Slot), K5 x3 x4 → Wd g layM 12 s.heap M H locs → lv_has ls 5 [(0, .ref (ga g 0)), (1, .int x1), (2, .int x2), (3, .int x3), (4, .int x4)] → W p l e (rmOf 1 23) s m args below meth c H locs 0 0 (MQ below (va_Qi (fun r M9 => M9 = M ∧ Q r) (PostW g layM 12) (gF g)) args s 0 0 (gF g)) (F0 m 5 ls [])) (h : w_X8_isHeardOn_70 x1 x2 x4 t0 M K5 Q) (w : Wd g layM 12 s.heap M H locs) (hl : lv_has ls 5 [(0, .ref (ga g 0)), (1, .int x1), (2, .int x2), (4, .int x4)]) : W p l e (rmOf 1 23) s m args below meth c H locs 0 0 (MQ below (va_Qi (fun r M9 => M9 = M ∧ Q r) (PostW g layM 12) (gF g)) args s 0 0 (gF g)) (F0 m 70 ls [.int t0]) := by
  unfold w_X8_isHeardOn_70 at h
  refine lv_istore_n (lv' := [(3, .int t0), (0, .ref (ga g 0)), (1, .int x1), (2, .int x2), (4, .int x4)]) C.1.1 C.1.2.1 dX8_isHeardOn_70 rfl hl (by decide) rfl (fun ls hl => ?_)
  refine lv_iinc (v := x4 + 1) (lv' := [(4, .int (x4 + 1)), (3, .int t0), (0, .ref (ga g 0)), (1, .int x1), (2, .int x2)]) C.1.1 C.1.2.1 dX8_isHeardOn_71 hl (k := 4) rfl rfl (by decide) rfl (fun ls hl => ?_)
  refine lv_goto (tgt := 5) C.1.1 C.1.2.1 dX8_isHeardOn_74 (by decide) ?_
  exact hK5 _ _ _ _ _ h w (lv_sub hl [2, 3, 4, 1, 0] rfl)
set_option maxHeartbeats 4000000 in
set_option maxRecDepth 100000 in
theorem v_X8_isHeardOn_65 {x1 : Int32} {x2 : Int32} {x4 : Int32} {M : Mem} {K5 : Int32 → Int32 → Prop} {Q : Int32 → Prop} {H : Heap} {locs : List Loc} {ls : Array Slot} (C : Cx p s m args c cX8_isHeardOn 5 RX8 g) (hr : meth.sig.returnType = (some .boolean)) (hk : meth.locks = false) (hK5 : ∀ (x3 : Int32) (x4 : Int32) (H : Heap) (locs : List Loc) (ls : Array Slot), K5 x3 x4 → Wd g layM 12 s.heap M H locs → lv_has ls 5 [(0, .ref (ga g 0)), (1, .int x1), (2, .int x2), (3, .int x3), (4, .int x4)] → W p l e (rmOf 1 23) s m args below meth c H locs 0 0 (MQ below (va_Qi (fun r M9 => M9 = M ∧ Q r) (PostW g layM 12) (gF g)) args s 0 0 (gF g)) (F0 m 5 ls [])) (h : w_X8_isHeardOn_65 x1 x2 x4 M K5 Q) (w : Wd g layM 12 s.heap M H locs) (hl : lv_has ls 5 [(0, .ref (ga g 0)), (1, .int x1), (2, .int x2), (4, .int x4)]) : W p l e (rmOf 1 23) s m args below meth c H locs 0 0 (MQ below (va_Qi (fun r M9 => M9 = M ∧ Q r) (PostW g layM 12) (gF g)) args s 0 0 (gF g)) (F0 m 65 ls []) := by
  unfold w_X8_isHeardOn_65 at h
  refine lv_iconst (v := 1) C.1.1 C.1.2.1 dX8_isHeardOn_65 (by decide) ?_
  refine lv_goto (tgt := 70) C.1.1 C.1.2.1 dX8_isHeardOn_66 (by decide) ?_
  exact v_X8_isHeardOn_70 C hr hk  hK5 h w (lv_sub hl [0, 1, 2, 3] rfl)
set_option maxHeartbeats 4000000 in
set_option maxRecDepth 100000 in
theorem v_X8_isHeardOn_69 {x1 : Int32} {x2 : Int32} {x4 : Int32} {M : Mem} {K5 : Int32 → Int32 → Prop} {Q : Int32 → Prop} {H : Heap} {locs : List Loc} {ls : Array Slot} (C : Cx p s m args c cX8_isHeardOn 5 RX8 g) (hr : meth.sig.returnType = (some .boolean)) (hk : meth.locks = false) (hK5 : ∀ (x3 : Int32) (x4 : Int32) (H : Heap) (locs : List Loc) (ls : Array Slot), K5 x3 x4 → Wd g layM 12 s.heap M H locs → lv_has ls 5 [(0, .ref (ga g 0)), (1, .int x1), (2, .int x2), (3, .int x3), (4, .int x4)] → W p l e (rmOf 1 23) s m args below meth c H locs 0 0 (MQ below (va_Qi (fun r M9 => M9 = M ∧ Q r) (PostW g layM 12) (gF g)) args s 0 0 (gF g)) (F0 m 5 ls [])) (h : w_X8_isHeardOn_69 x1 x2 x4 M K5 Q) (w : Wd g layM 12 s.heap M H locs) (hl : lv_has ls 5 [(0, .ref (ga g 0)), (1, .int x1), (2, .int x2), (4, .int x4)]) : W p l e (rmOf 1 23) s m args below meth c H locs 0 0 (MQ below (va_Qi (fun r M9 => M9 = M ∧ Q r) (PostW g layM 12) (gF g)) args s 0 0 (gF g)) (F0 m 69 ls []) := by
  unfold w_X8_isHeardOn_69 at h
  refine lv_iconst (v := 0) C.1.1 C.1.2.1 dX8_isHeardOn_69 (by decide) ?_
  exact v_X8_isHeardOn_70 C hr hk  hK5 h w (lv_sub hl [0, 1, 2, 3] rfl)
set_option maxHeartbeats 4000000 in
set_option maxRecDepth 100000 in
theorem v_X8_isHeardOn_5 {x1 : Int32} {x2 : Int32} {x3 : Int32} {x4 : Int32} {M : Mem} {K5 : Int32 → Int32 → Prop} {Q : Int32 → Prop} {H : Heap} {locs : List Loc} {ls : Array Slot} (C : Cx p s m args c cX8_isHeardOn 5 RX8 g) (hr : meth.sig.returnType = (some .boolean)) (hk : meth.locks = false) (hK5 : ∀ (x3 : Int32) (x4 : Int32) (H : Heap) (locs : List Loc) (ls : Array Slot), K5 x3 x4 → Wd g layM 12 s.heap M H locs → lv_has ls 5 [(0, .ref (ga g 0)), (1, .int x1), (2, .int x2), (3, .int x3), (4, .int x4)] → W p l e (rmOf 1 23) s m args below meth c H locs 0 0 (MQ below (va_Qi (fun r M9 => M9 = M ∧ Q r) (PostW g layM 12) (gF g)) args s 0 0 (gF g)) (F0 m 5 ls [])) (h : w_X8_isHeardOn_5 x1 x2 M Q K5 x3 x4) (w : Wd g layM 12 s.heap M H locs) (hl : lv_has ls 5 [(0, .ref (ga g 0)), (1, .int x1), (2, .int x2), (3, .int x3), (4, .int x4)]) : W p l e (rmOf 1 23) s m args below meth c H locs 0 0 (MQ below (va_Qi (fun r M9 => M9 = M ∧ Q r) (PostW g layM 12) (gF g)) args s 0 0 (gF g)) (F0 m 5 ls []) := by
  unfold w_X8_isHeardOn_5 at h
  refine lv_iload C.1.1 C.1.2.1 dX8_isHeardOn_5 (lv_at hl 4 rfl) ?_
  refine lv_aload_n C.1.1 C.1.2.1 dX8_isHeardOn_7 rfl (lv_at hl 0 rfl) ?_
  refine gr_RX8_7 C w hm_0 lm_0 rfl dX8_isHeardOn_8 ?_
  refine lv_iload_n C.1.1 C.1.2.1 dX8_isHeardOn_11 rfl (lv_at hl 1 rfl) ?_
  refine lv_bipush (v := 41) C.1.1 C.1.2.1 dX8_isHeardOn_12 (by decide) ?_
  refine lv_iadd C.1.1 C.1.2.1 dX8_isHeardOn_14 ?_
  refine q_ial C w hm_1 lm_1 h.1 dX8_isHeardOn_15 ?_
  replace h := h.2
  refine lv_icmp_ge (tgt := 77) C.1.1 C.1.2.1 dX8_isHeardOn_16 (by decide) (fun hc1 => ?_) (fun hc1 => ?_)
  · replace h := h.1 hc1
    refine lv_iload_n C.1.1 C.1.2.1 dX8_isHeardOn_77 rfl (lv_at hl 3 rfl) ?_
    exact q_iret C hr hk w h.1 ⟨rfl, h.2⟩ dX8_isHeardOn_78
  · replace h := h.2 hc1
    refine lv_iload_n C.1.1 C.1.2.1 dX8_isHeardOn_19 rfl (lv_at hl 3 rfl) ?_
    refine lv_if_ne (tgt := 65) C.1.1 C.1.2.1 dX8_isHeardOn_20 (by decide) (fun hc2 => ?_) (fun hc2 => ?_)
    · replace h := h.2 hc2
      exact v_X8_isHeardOn_65 C hr hk  hK5 h w (lv_sub hl [0, 1, 2, 4] rfl)
    · replace h := h.1 hc2
      refine lv_aload_n C.1.1 C.1.2.1 dX8_isHeardOn_23 rfl (lv_at hl 0 rfl) ?_
      refine lv_iload_n C.1.1 C.1.2.1 dX8_isHeardOn_24 rfl (lv_at hl 1 rfl) ?_
      refine lv_iload C.1.1 C.1.2.1 dX8_isHeardOn_25 (lv_at hl 4 rfl) ?_
      refine q_pVi C w [.int x1, .int x4] (c_X8_atOn  h) kv_X8_atOn k_108 (rcv C w kc_X8 hm_0 lm_0) rfl hl.1 (Nat.le_of_ble_eq_true rfl) ⟨Nat.le_of_ble_eq_true rfl, Nat.le_of_ble_eq_true rfl⟩ dX8_isHeardOn_27 (fun r3 H locs h w => ?_)
      refine lv_aload_n C.1.1 C.1.2.1 dX8_isHeardOn_30 rfl (lv_at hl 0 rfl) ?_
      refine gr_RX8_7 C w hm_0 lm_0 rfl dX8_isHeardOn_31 ?_
      refine lv_iload_n C.1.1 C.1.2.1 dX8_isHeardOn_34 rfl (lv_at hl 1 rfl) ?_
      refine lv_bipush (v := 17) C.1.1 C.1.2.1 dX8_isHeardOn_35 (by decide) ?_
      refine lv_iadd C.1.1 C.1.2.1 dX8_isHeardOn_37 ?_
      refine lv_iload_n C.1.1 C.1.2.1 dX8_isHeardOn_38 rfl (lv_at hl 2 rfl) ?_
      refine lv_iadd C.1.1 C.1.2.1 dX8_isHeardOn_39 ?_
      refine q_ial C w hm_1 lm_1 h.1 dX8_isHeardOn_40 ?_
      replace h := h.2
      refine lv_icmp_ne (tgt := 69) C.1.1 C.1.2.1 dX8_isHeardOn_41 (by decide) (fun hc4 => ?_) (fun hc4 => ?_)
      · replace h := h.2 hc4
        exact v_X8_isHeardOn_69 C hr hk  hK5 h w (lv_sub hl [0, 1, 2, 4] rfl)
      · replace h := h.1 hc4
        refine lv_aload_n C.1.1 C.1.2.1 dX8_isHeardOn_44 rfl (lv_at hl 0 rfl) ?_
        refine lv_iload_n C.1.1 C.1.2.1 dX8_isHeardOn_45 rfl (lv_at hl 1 rfl) ?_
        refine lv_iload_n C.1.1 C.1.2.1 dX8_isHeardOn_46 rfl (lv_at hl 2 rfl) ?_
        refine q_pVi C w [.int x1, .int x2] (c_X8_noiseOn  h) kv_X8_noiseOn k_109 (rcv C w kc_X8 hm_0 lm_0) rfl hl.1 (Nat.le_of_ble_eq_true rfl) ⟨Nat.le_of_ble_eq_true rfl, Nat.le_of_ble_eq_true rfl⟩ dX8_isHeardOn_47 (fun r5 H locs h w => ?_)
        refine lv_aload_n C.1.1 C.1.2.1 dX8_isHeardOn_50 rfl (lv_at hl 0 rfl) ?_
        refine gr_RX8_7 C w hm_0 lm_0 rfl dX8_isHeardOn_51 ?_
        refine lv_iload_n C.1.1 C.1.2.1 dX8_isHeardOn_54 rfl (lv_at hl 1 rfl) ?_
        refine lv_bipush (v := 38) C.1.1 C.1.2.1 dX8_isHeardOn_55 (by decide) ?_
        refine lv_iadd C.1.1 C.1.2.1 dX8_isHeardOn_57 ?_
        refine lv_iload C.1.1 C.1.2.1 dX8_isHeardOn_58 (lv_at hl 4 rfl) ?_
        refine lv_iadd C.1.1 C.1.2.1 dX8_isHeardOn_60 ?_
        refine q_ial C w hm_1 lm_1 h.1 dX8_isHeardOn_61 ?_
        replace h := h.2
        refine lv_icmp_lt (tgt := 69) C.1.1 C.1.2.1 dX8_isHeardOn_62 (by decide) (fun hc6 => ?_) (fun hc6 => ?_)
        · replace h := h.1 hc6
          exact v_X8_isHeardOn_69 C hr hk  hK5 h w (lv_sub hl [0, 1, 2, 4] rfl)
        · replace h := h.2 hc6
          exact v_X8_isHeardOn_65 C hr hk  hK5 h w (lv_sub hl [0, 1, 2, 4] rfl)
set_option maxHeartbeats 4000000 in
set_option maxRecDepth 100000 in
theorem l_X8_isHeardOn_5 {x1 : Int32} {x2 : Int32} {M : Mem} {Q : Int32 → Prop} (C : Cx p s m args c cX8_isHeardOn 5 RX8 g) (hr : meth.sig.returnType = (some .boolean)) (hk : meth.locks = false)  : ∀ (n : Nat) (x3 : Int32) (x4 : Int32) (H : Heap) (locs : List Loc) (ls : Array Slot), fu2 (w_X8_isHeardOn_5 x1 x2 M Q) n x3 x4 → Wd g layM 12 s.heap M H locs → lv_has ls 5 [(0, .ref (ga g 0)), (1, .int x1), (2, .int x2), (3, .int x3), (4, .int x4)] → W p l e (rmOf 1 23) s m args below meth c H locs 0 0 (MQ below (va_Qi (fun r M9 => M9 = M ∧ Q r) (PostW g layM 12) (gF g)) args s 0 0 (gF g)) (F0 m 5 ls []) := by
  intro n
  induction n with
  | zero => intro x3 x4 H locs ls h; exact h.elim
  | succ n ih => intro x3 x4 H locs ls h w hl; exact v_X8_isHeardOn_5 C hr hk   ih h w hl
set_option maxHeartbeats 4000000 in
set_option maxRecDepth 100000 in
theorem c_X8_isHeardOn {l : Launch} {g : Gt} {x1 : Int32} {x2 : Int32} {M : Mem} {Q : Int32 → Prop} (h : w_X8_isHeardOn x1 x2 M Q) : MI l yX8_isHeardOn cX8_isHeardOn 5 (some .boolean) 1 23 g layM 12 [.ref (ga g 0), .int x1, .int x2] M (fun r M9 => M9 = M ∧ Q r) :=
  m_of (by decide +kernel) (Nat.le_of_ble_eq_true rfl) (fun p e s m args below meth c ls C hr hk w hl => by
    have C : Cx p s m args c cX8_isHeardOn 5 RX8 g := C
    have hl : lv_has ls 5 [(0, .ref (ga g 0)), (1, .int x1), (2, .int x2)] := hl
    unfold w_X8_isHeardOn at h
    obtain ⟨H, eH⟩ : ∃ H : Heap, H = s.heap := ⟨_, rfl⟩
    obtain ⟨locs, el⟩ : ∃ locs : List Loc, locs = [] := ⟨_, rfl⟩
    have w : Wd g layM 12 s.heap M H locs := by rw [eH, el]; exact w
    suffices hw : W p l e (rmOf 1 23) s m args below meth c H locs 0 0 (MQ below (va_Qi (fun r M9 => M9 = M ∧ Q r) (PostW g layM 12) (gF g)) args s 0 0 (gF g)) (F0 m 0 ls []) by rw [eH, el] at hw; exact hw
    clear eH el
    refine lv_iconst (v := 0) C.1.1 C.1.2.1 dX8_isHeardOn_0 (by decide) ?_
    refine lv_istore_n (lv' := [(3, .int 0), (0, .ref (ga g 0)), (1, .int x1), (2, .int x2)]) C.1.1 C.1.2.1 dX8_isHeardOn_1 rfl hl (by decide) rfl (fun ls hl => ?_)
    refine lv_iconst (v := 0) C.1.1 C.1.2.1 dX8_isHeardOn_2 (by decide) ?_
    refine lv_istore (lv' := [(4, .int 0), (3, .int 0), (0, .ref (ga g 0)), (1, .int x1), (2, .int x2)]) C.1.1 C.1.2.1 dX8_isHeardOn_3 hl (by decide) rfl (fun ls hl => ?_)
    obtain ⟨n, h⟩ := h
    exact l_X8_isHeardOn_5 C hr hk   n _ _ _ _ _ h w (lv_sub hl [2, 3, 4, 1, 0] rfl))
-- lightOn
set_option maxHeartbeats 4000000 in
set_option maxRecDepth 100000 in
theorem v_X8_lightOn_4 {x1 : Int32} {x2 : Int32} {x3 : Int32} {M : Mem} {K4 : Int32 → Int32 → Prop} {Q : Int32 → Prop} {H : Heap} {locs : List Loc} {ls : Array Slot} (C : Cx p s m args c cX8_lightOn 4 RX8 g) (hr : meth.sig.returnType = (some .int)) (hk : meth.locks = false) (hK4 : ∀ (x2 : Int32) (x3 : Int32) (H : Heap) (locs : List Loc) (ls : Array Slot), K4 x2 x3 → Wd g layM 12 s.heap M H locs → lv_has ls 4 [(0, .ref (ga g 0)), (1, .int x1), (2, .int x2), (3, .int x3)] → W p l e (rmOf 0 0) s m args below meth c H locs 0 0 (MQ below (va_Qi (fun r M9 => M9 = M ∧ Q r) (PostW g layM 12) (gF g)) args s 0 0 (gF g)) (F0 m 4 ls [])) (h : w_X8_lightOn_4 x1 M Q K4 x2 x3) (w : Wd g layM 12 s.heap M H locs) (hl : lv_has ls 4 [(0, .ref (ga g 0)), (1, .int x1), (2, .int x2), (3, .int x3)]) : W p l e (rmOf 0 0) s m args below meth c H locs 0 0 (MQ below (va_Qi (fun r M9 => M9 = M ∧ Q r) (PostW g layM 12) (gF g)) args s 0 0 (gF g)) (F0 m 4 ls []) := by
  unfold w_X8_lightOn_4 at h
  refine lv_iload_n C.1.1 C.1.2.1 dX8_lightOn_4 rfl (lv_at hl 3 rfl) ?_
  refine lv_bipush (v := 6) C.1.1 C.1.2.1 dX8_lightOn_5 (by decide) ?_
  refine lv_icmp_ge (tgt := 30) C.1.1 C.1.2.1 dX8_lightOn_7 (by decide) (fun hc1 => ?_) (fun hc1 => ?_)
  · replace h := h.1 hc1
    refine lv_iload_n C.1.1 C.1.2.1 dX8_lightOn_30 rfl (lv_at hl 2 rfl) ?_
    exact q_iret C hr hk w rfl ⟨rfl, h⟩ dX8_lightOn_31
  · replace h := h.2 hc1
    refine lv_iload_n C.1.1 C.1.2.1 dX8_lightOn_10 rfl (lv_at hl 2 rfl) ?_
    refine lv_aload_n C.1.1 C.1.2.1 dX8_lightOn_11 rfl (lv_at hl 0 rfl) ?_
    refine gr_RX8_7 C w hm_0 lm_0 rfl dX8_lightOn_12 ?_
    refine lv_iload_n C.1.1 C.1.2.1 dX8_lightOn_15 rfl (lv_at hl 1 rfl) ?_
    refine lv_iload_n C.1.1 C.1.2.1 dX8_lightOn_16 rfl (lv_at hl 3 rfl) ?_
    refine lv_iadd C.1.1 C.1.2.1 dX8_lightOn_17 ?_
    refine q_ial C w hm_1 lm_1 h.1 dX8_lightOn_18 ?_
    replace h := h.2
    refine lv_bipush (v := 30) C.1.1 C.1.2.1 dX8_lightOn_19 (by decide) ?_
    refine lv_iadd C.1.1 C.1.2.1 dX8_lightOn_21 ?_
    refine lv_iadd C.1.1 C.1.2.1 dX8_lightOn_22 ?_
    refine lv_istore_n (lv' := [(2, .int (x2 + ((M 1 (x1 + x3).toNatClampNeg) + 30))), (0, .ref (ga g 0)), (1, .int x1), (3, .int x3)]) C.1.1 C.1.2.1 dX8_lightOn_23 rfl hl (by decide) rfl (fun ls hl => ?_)
    refine lv_iinc (v := x3 + 1) (lv' := [(3, .int (x3 + 1)), (2, .int (x2 + ((M 1 (x1 + x3).toNatClampNeg) + 30))), (0, .ref (ga g 0)), (1, .int x1)]) C.1.1 C.1.2.1 dX8_lightOn_24 hl (k := 3) rfl rfl (by decide) rfl (fun ls hl => ?_)
    refine lv_goto (tgt := 4) C.1.1 C.1.2.1 dX8_lightOn_27 (by decide) ?_
    exact hK4 _ _ _ _ _ h w (lv_sub hl [2, 3, 1, 0] rfl)
set_option maxHeartbeats 4000000 in
set_option maxRecDepth 100000 in
theorem l_X8_lightOn_4 {x1 : Int32} {M : Mem} {Q : Int32 → Prop} (C : Cx p s m args c cX8_lightOn 4 RX8 g) (hr : meth.sig.returnType = (some .int)) (hk : meth.locks = false)  : ∀ (n : Nat) (x2 : Int32) (x3 : Int32) (H : Heap) (locs : List Loc) (ls : Array Slot), fu2 (w_X8_lightOn_4 x1 M Q) n x2 x3 → Wd g layM 12 s.heap M H locs → lv_has ls 4 [(0, .ref (ga g 0)), (1, .int x1), (2, .int x2), (3, .int x3)] → W p l e (rmOf 0 0) s m args below meth c H locs 0 0 (MQ below (va_Qi (fun r M9 => M9 = M ∧ Q r) (PostW g layM 12) (gF g)) args s 0 0 (gF g)) (F0 m 4 ls []) := by
  intro n
  induction n with
  | zero => intro x2 x3 H locs ls h; exact h.elim
  | succ n ih => intro x2 x3 H locs ls h w hl; exact v_X8_lightOn_4 C hr hk   ih h w hl
set_option maxHeartbeats 4000000 in
set_option maxRecDepth 100000 in
theorem c_X8_lightOn {l : Launch} {g : Gt} {x1 : Int32} {M : Mem} {Q : Int32 → Prop} (h : w_X8_lightOn x1 M Q) : MI l yX8_lightOn cX8_lightOn 4 (some .int) 0 0 g layM 12 [.ref (ga g 0), .int x1] M (fun r M9 => M9 = M ∧ Q r) :=
  m_of (by decide +kernel) (Nat.le_of_ble_eq_true rfl) (fun p e s m args below meth c ls C hr hk w hl => by
    have C : Cx p s m args c cX8_lightOn 4 RX8 g := C
    have hl : lv_has ls 4 [(0, .ref (ga g 0)), (1, .int x1)] := hl
    unfold w_X8_lightOn at h
    obtain ⟨H, eH⟩ : ∃ H : Heap, H = s.heap := ⟨_, rfl⟩
    obtain ⟨locs, el⟩ : ∃ locs : List Loc, locs = [] := ⟨_, rfl⟩
    have w : Wd g layM 12 s.heap M H locs := by rw [eH, el]; exact w
    suffices hw : W p l e (rmOf 0 0) s m args below meth c H locs 0 0 (MQ below (va_Qi (fun r M9 => M9 = M ∧ Q r) (PostW g layM 12) (gF g)) args s 0 0 (gF g)) (F0 m 0 ls []) by rw [eH, el] at hw; exact hw
    clear eH el
    refine lv_iconst (v := 0) C.1.1 C.1.2.1 dX8_lightOn_0 (by decide) ?_
    refine lv_istore_n (lv' := [(2, .int 0), (0, .ref (ga g 0)), (1, .int x1)]) C.1.1 C.1.2.1 dX8_lightOn_1 rfl hl (by decide) rfl (fun ls hl => ?_)
    refine lv_iconst (v := 0) C.1.1 C.1.2.1 dX8_lightOn_2 (by decide) ?_
    refine lv_istore_n (lv' := [(3, .int 0), (2, .int 0), (0, .ref (ga g 0)), (1, .int x1)]) C.1.1 C.1.2.1 dX8_lightOn_3 rfl hl (by decide) rfl (fun ls hl => ?_)
    obtain ⟨n, h⟩ := h
    exact l_X8_lightOn_4 C hr hk   n _ _ _ _ _ h w (lv_sub hl [2, 3, 1, 0] rfl))
-- startCounts
set_option maxHeartbeats 4000000 in
set_option maxRecDepth 100000 in
theorem c_X8_startCounts {l : Launch} {g : Gt} {M : Mem} {Q : Mem → Prop} (h : w_X8_startCounts M Q) : MV l yX8_startCounts cX8_startCounts 1 none 0 0 g layM 12 [.ref (ga g 0)] M Q :=
  m_of (by decide +kernel) (Nat.le_of_ble_eq_true rfl) (fun p e s m args below meth c ls C hr hk w hl => by
    have C : Cx p s m args c cX8_startCounts 1 RX8 g := C
    have hl : lv_has ls 1 [(0, .ref (ga g 0))] := hl
    unfold w_X8_startCounts at h
    obtain ⟨H, eH⟩ : ∃ H : Heap, H = s.heap := ⟨_, rfl⟩
    obtain ⟨locs, el⟩ : ∃ locs : List Loc, locs = [] := ⟨_, rfl⟩
    have w : Wd g layM 12 s.heap M H locs := by rw [eH, el]; exact w
    suffices hw : W p l e (rmOf 0 0) s m args below meth c H locs 0 0 (MQ below (va_Qv Q (PostW g layM 12) (gF g)) args s 0 0 (gF g)) (F0 m 0 ls []) by rw [eH, el] at hw; exact hw
    clear eH el
    refine lv_aload_n C.1.1 C.1.2.1 dX8_startCounts_0 rfl (lv_at hl 0 rfl) ?_
    refine lv_iconst (v := 0) C.1.1 C.1.2.1 dX8_startCounts_1 (by decide) ?_
    refine pi_RX8_128 C w hm_0 lm_0 rfl dX8_startCounts_2 (fun M1 H locs eM1 w => ?_)
    replace h := h M1 eM1
    refine lv_aload_n C.1.1 C.1.2.1 dX8_startCounts_5 rfl (lv_at hl 0 rfl) ?_
    refine lv_iconst (v := 0) C.1.1 C.1.2.1 dX8_startCounts_6 (by decide) ?_
    refine pi_RX8_131 C w hm_0 lm_0 rfl dX8_startCounts_7 (fun M2 H locs eM2 w => ?_)
    replace h := h M2 eM2
    refine lv_aload_n C.1.1 C.1.2.1 dX8_startCounts_10 rfl (lv_at hl 0 rfl) ?_
    refine lv_iconst (v := 0) C.1.1 C.1.2.1 dX8_startCounts_11 (by decide) ?_
    refine pi_RX8_134 C w hm_0 lm_0 rfl dX8_startCounts_12 (fun M3 H locs eM3 w => ?_)
    replace h := h M3 eM3
    exact q_vret C hr hk w h dX8_startCounts_15)
-- goesIn
set_option maxHeartbeats 4000000 in
set_option maxRecDepth 100000 in
theorem v_X8_goesIn_168 {x1 : Int32} {x2 : Int32} {x4 : Int32} {t0 : Int32} {M : Mem} {Q : Mem → Prop} {H : Heap} {locs : List Loc} {ls : Array Slot} (C : Cx p s m args c cX8_goesIn 7 RX8 g) (hr : meth.sig.returnType = none) (hk : meth.locks = false)  (h : w_X8_goesIn_168 x1 x2 x4 t0 M Q) (w : Wd g layM 12 s.heap M H locs) (hl : lv_has ls 7 [(0, .ref (ga g 0)), (1, .int x1), (2, .int x2), (4, .int x4)]) : W p l e (rmOf 2 47) s m args below meth c H locs 0 0 (MQ below (va_Qv Q (PostW g layM 12) (gF g)) args s 0 0 (gF g)) (F0 m 168 ls [.int t0]) := by
  unfold w_X8_goesIn_168 at h
  refine lv_istore (lv' := [(5, .int t0), (0, .ref (ga g 0)), (1, .int x1), (2, .int x2), (4, .int x4)]) C.1.1 C.1.2.1 dX8_goesIn_168 hl (by decide) rfl (fun ls hl => ?_)
  refine lv_aload_n C.1.1 C.1.2.1 dX8_goesIn_170 rfl (lv_at hl 1 rfl) ?_
  refine gr_RX8_7 C w hm_0 lm_0 rfl dX8_goesIn_171 ?_
  refine lv_iload_n C.1.1 C.1.2.1 dX8_goesIn_174 rfl (lv_at hl 2 rfl) ?_
  refine lv_bipush (v := 22) C.1.1 C.1.2.1 dX8_goesIn_175 (by decide) ?_
  refine lv_iadd C.1.1 C.1.2.1 dX8_goesIn_177 ?_
  refine lv_iload_n C.1.1 C.1.2.1 dX8_goesIn_178 rfl (lv_at hl 3 rfl) ?_
  refine lv_iadd C.1.1 C.1.2.1 dX8_goesIn_179 ?_
  refine q_ial C w hm_1 lm_1 h.1 dX8_goesIn_180 ?_
  replace h := h.2
  refine lv_iload C.1.1 C.1.2.1 dX8_goesIn_181 (lv_at hl 0 rfl) ?_
  refine lv_iadd C.1.1 C.1.2.1 dX8_goesIn_183 ?_
  refine lv_istore (lv' := [(6, .int ((M 1 ((x1 + 22) + x2).toNatClampNeg) + t0)), (5, .int t0), (0, .ref (ga g 0)), (1, .int x1), (2, .int x2), (4, .int x4)]) C.1.1 C.1.2.1 dX8_goesIn_184 hl (by decide) rfl (fun ls hl => ?_)
  refine lv_aload_n C.1.1 C.1.2.1 dX8_goesIn_186 rfl (lv_at hl 2 rfl) ?_
  refine gr_RX8_7 C w hm_0 lm_0 rfl dX8_goesIn_187 ?_
  refine lv_iload C.1.1 C.1.2.1 dX8_goesIn_190 (lv_at hl 5 rfl) ?_
  refine lv_dup2_11 C.1.1 C.1.2.1 dX8_goesIn_192 rfl rfl ?_
  refine q_ial C w hm_1 lm_1 h.1 dX8_goesIn_193 ?_
  replace h := h.2
  refine lv_iload C.1.1 C.1.2.1 dX8_goesIn_194 (lv_at hl 1 rfl) ?_
  refine lv_isub C.1.1 C.1.2.1 dX8_goesIn_196 ?_
  refine q_ias C w hm_1 lm_1 h.1 dX8_goesIn_197 (fun M5 H locs eM5 w => ?_)
  replace h := h.2 M5 eM5
  refine lv_aload_n C.1.1 C.1.2.1 dX8_goesIn_198 rfl (lv_at hl 2 rfl) ?_
  refine gr_RX8_7 C w hm_0 lm_0 rfl dX8_goesIn_199 ?_
  refine lv_iload_n C.1.1 C.1.2.1 dX8_goesIn_202 rfl (lv_at hl 3 rfl) ?_
  refine lv_bipush (v := 22) C.1.1 C.1.2.1 dX8_goesIn_203 (by decide) ?_
  refine lv_iadd C.1.1 C.1.2.1 dX8_goesIn_205 ?_
  refine lv_iload_n C.1.1 C.1.2.1 dX8_goesIn_206 rfl (lv_at hl 4 rfl) ?_
  refine lv_iadd C.1.1 C.1.2.1 dX8_goesIn_207 ?_
  refine lv_iload C.1.1 C.1.2.1 dX8_goesIn_208 (lv_at hl 0 rfl) ?_
  refine lv_sipush (v := 999) C.1.1 C.1.2.1 dX8_goesIn_210 (by decide) ?_
  have J : ∀ ls : Array Slot, lv_has ls 7 [(0, .ref (ga g 0)), (5, .int t0)] → W p l e (rmOf 2 47) s m args below meth c H locs 0 0 (MQ below (va_Qv Q (PostW g layM 12) (gF g)) args s 0 0 (gF g)) (F0 m 224 ls [.int (if ((M 1 ((x1 + 22) + x2).toNatClampNeg) + t0) ≤ 999 then ((M 1 ((x1 + 22) + x2).toNatClampNeg) + t0) else 999), .int ((x1 + 22) + x2), .ref (ga g 1)]) := by
    intro ls hl
    refine q_ias C w hm_1 lm_1 h.1 dX8_goesIn_224 (fun M7 H locs eM7 w => ?_)
    replace h := h.2 M7 eM7
    refine lv_aload_n C.1.1 C.1.2.1 dX8_goesIn_225 rfl (lv_at hl 0 rfl) ?_
    refine lv_dup C.1.1 C.1.2.1 dX8_goesIn_226 rfl ?_
    refine gi_RX8_128 C w hm_0 lm_0 rfl dX8_goesIn_227 ?_
    refine lv_iload C.1.1 C.1.2.1 dX8_goesIn_230 (lv_at hl 1 rfl) ?_
    refine lv_iadd C.1.1 C.1.2.1 dX8_goesIn_232 ?_
    refine pi_RX8_128 C w hm_0 lm_0 rfl dX8_goesIn_233 (fun M8 H locs eM8 w => ?_)
    replace h := h M8 eM8
    exact q_vret C hr hk w h dX8_goesIn_236
  refine lv_icmp_le (tgt := 222) C.1.1 C.1.2.1 dX8_goesIn_213 (by decide) (fun hc6 => ?_) (fun hc6 => ?_)
  · refine lv_iload C.1.1 C.1.2.1 dX8_goesIn_222 (lv_at hl 0 rfl) ?_
    simp only [if_pos hc6] at J hl
    exact J ls (lv_sub hl [2, 1] rfl)
  · refine lv_sipush (v := 999) C.1.1 C.1.2.1 dX8_goesIn_216 (by decide) ?_
    refine lv_goto (tgt := 224) C.1.1 C.1.2.1 dX8_goesIn_219 (by decide) ?_
    simp only [if_neg hc6] at J hl
    exact J ls (lv_sub hl [2, 1] rfl)
set_option maxHeartbeats 4000000 in
set_option maxRecDepth 100000 in
theorem v_X8_goesIn_115 {x1 : Int32} {x2 : Int32} {M : Mem} {Q : Mem → Prop} {H : Heap} {locs : List Loc} {ls : Array Slot} (C : Cx p s m args c cX8_goesIn 7 RX8 g) (hr : meth.sig.returnType = none) (hk : meth.locks = false)  (h : w_X8_goesIn_115 x1 x2 M Q) (w : Wd g layM 12 s.heap M H locs) (hl : lv_has ls 7 [(0, .ref (ga g 0)), (1, .int x1), (2, .int x2)]) : W p l e (rmOf 2 47) s m args below meth c H locs 0 0 (MQ below (va_Qv Q (PostW g layM 12) (gF g)) args s 0 0 (gF g)) (F0 m 115 ls []) := by
  unfold w_X8_goesIn_115 at h
  refine lv_iload_n C.1.1 C.1.2.1 dX8_goesIn_115 rfl (lv_at hl 1 rfl) ?_
  refine lv_aload_n C.1.1 C.1.2.1 dX8_goesIn_116 rfl (lv_at hl 0 rfl) ?_
  refine gr_RX8_7 C w hm_0 lm_0 rfl dX8_goesIn_117 ?_
  refine lv_iload_n C.1.1 C.1.2.1 dX8_goesIn_120 rfl (lv_at hl 1 rfl) ?_
  refine lv_bipush (v := 17) C.1.1 C.1.2.1 dX8_goesIn_121 (by decide) ?_
  refine lv_iadd C.1.1 C.1.2.1 dX8_goesIn_123 ?_
  refine lv_iload_n C.1.1 C.1.2.1 dX8_goesIn_124 rfl (lv_at hl 2 rfl) ?_
  refine lv_iadd C.1.1 C.1.2.1 dX8_goesIn_125 ?_
  refine q_ial C w hm_1 lm_1 h.1 dX8_goesIn_126 ?_
  replace h := h.2
  refine lv_iadd C.1.1 C.1.2.1 dX8_goesIn_127 ?_
  refine lv_istore (lv' := [(4, .int (x1 + (M 1 ((x1 + 17) + x2).toNatClampNeg))), (0, .ref (ga g 0)), (1, .int x1), (2, .int x2)]) C.1.1 C.1.2.1 dX8_goesIn_128 hl (by decide) rfl (fun ls hl => ?_)
  refine lv_aload_n C.1.1 C.1.2.1 dX8_goesIn_130 rfl (lv_at hl 1 rfl) ?_
  refine lv_iload_n C.1.1 C.1.2.1 dX8_goesIn_131 rfl (lv_at hl 2 rfl) ?_
  refine lv_iload_n C.1.1 C.1.2.1 dX8_goesIn_132 rfl (lv_at hl 3 rfl) ?_
  refine q_pVi C w [.int x1, .int x2] (c_X8_takesOn  h) kv_X8_takesOn k_110 (rcv C w kc_X8 hm_0 lm_0) rfl hl.1 (Nat.le_of_ble_eq_true rfl) ⟨Nat.le_of_ble_eq_true rfl, Nat.le_of_ble_eq_true rfl⟩ dX8_goesIn_133 (fun r3 H locs h w => ?_)
  refine lv_aload_n C.1.1 C.1.2.1 dX8_goesIn_136 rfl (lv_at hl 1 rfl) ?_
  refine gr_RX8_7 C w hm_0 lm_0 rfl dX8_goesIn_137 ?_
  refine lv_iload C.1.1 C.1.2.1 dX8_goesIn_140 (lv_at hl 0 rfl) ?_
  refine q_ial C w hm_1 lm_1 h.1 dX8_goesIn_142 ?_
  replace h := h.2
  refine lv_bipush (v := 30) C.1.1 C.1.2.1 dX8_goesIn_143 (by decide) ?_
  refine lv_iadd C.1.1 C.1.2.1 dX8_goesIn_145 ?_
  refine lv_icmp_ge (tgt := 158) C.1.1 C.1.2.1 dX8_goesIn_146 (by decide) (fun hc4 => ?_) (fun hc4 => ?_)
  · replace h := h.1 hc4
    refine lv_aload_n C.1.1 C.1.2.1 dX8_goesIn_158 rfl (lv_at hl 1 rfl) ?_
    refine gr_RX8_7 C w hm_0 lm_0 rfl dX8_goesIn_159 ?_
    refine lv_iload C.1.1 C.1.2.1 dX8_goesIn_162 (lv_at hl 0 rfl) ?_
    refine q_ial C w hm_1 lm_1 h.1 dX8_goesIn_164 ?_
    replace h := h.2
    refine lv_bipush (v := 30) C.1.1 C.1.2.1 dX8_goesIn_165 (by decide) ?_
    refine lv_iadd C.1.1 C.1.2.1 dX8_goesIn_167 ?_
    exact v_X8_goesIn_168 C hr hk   h w (lv_sub hl [1, 2, 3, 0] rfl)
  · replace h := h.2 hc4
    refine lv_aload_n C.1.1 C.1.2.1 dX8_goesIn_149 rfl (lv_at hl 1 rfl) ?_
    refine lv_iload_n C.1.1 C.1.2.1 dX8_goesIn_150 rfl (lv_at hl 2 rfl) ?_
    refine lv_iload_n C.1.1 C.1.2.1 dX8_goesIn_151 rfl (lv_at hl 3 rfl) ?_
    refine q_pVi C w [.int x1, .int x2] (c_X8_takesOn  h) kv_X8_takesOn k_110 (rcv C w kc_X8 hm_0 lm_0) rfl hl.1 (Nat.le_of_ble_eq_true rfl) ⟨Nat.le_of_ble_eq_true rfl, Nat.le_of_ble_eq_true rfl⟩ dX8_goesIn_152 (fun r9 H locs h w => ?_)
    refine lv_goto (tgt := 168) C.1.1 C.1.2.1 dX8_goesIn_155 (by decide) ?_
    exact v_X8_goesIn_168 C hr hk   h w (lv_sub hl [1, 2, 3, 0] rfl)
set_option maxHeartbeats 4000000 in
set_option maxRecDepth 100000 in
theorem c_X8_goesIn {l : Launch} {g : Gt} {x1 : Int32} {x2 : Int32} {x3 : Int32} {M : Mem} {Q : Mem → Prop} (h : w_X8_goesIn x1 x2 x3 M Q) : MV l yX8_goesIn cX8_goesIn 7 none 2 47 g layM 12 [.ref (ga g 0), .int x1, .int x2, .int x3] M Q :=
  m_of (by decide +kernel) (Nat.le_of_ble_eq_true rfl) (fun p e s m args below meth c ls C hr hk w hl => by
    have C : Cx p s m args c cX8_goesIn 7 RX8 g := C
    have hl : lv_has ls 7 [(0, .ref (ga g 0)), (1, .int x1), (2, .int x2), (3, .int x3)] := hl
    unfold w_X8_goesIn at h
    obtain ⟨H, eH⟩ : ∃ H : Heap, H = s.heap := ⟨_, rfl⟩
    obtain ⟨locs, el⟩ : ∃ locs : List Loc, locs = [] := ⟨_, rfl⟩
    have w : Wd g layM 12 s.heap M H locs := by rw [eH, el]; exact w
    suffices hw : W p l e (rmOf 2 47) s m args below meth c H locs 0 0 (MQ below (va_Qv Q (PostW g layM 12) (gF g)) args s 0 0 (gF g)) (F0 m 0 ls []) by rw [eH, el] at hw; exact hw
    clear eH el
    refine lv_aload_n C.1.1 C.1.2.1 dX8_goesIn_0 rfl (lv_at hl 0 rfl) ?_
    refine gr_RX8_7 C w hm_0 lm_0 rfl dX8_goesIn_1 ?_
    refine lv_iload_n C.1.1 C.1.2.1 dX8_goesIn_4 rfl (lv_at hl 1 rfl) ?_
    refine lv_bipush (v := 27) C.1.1 C.1.2.1 dX8_goesIn_5 (by decide) ?_
    refine lv_iadd C.1.1 C.1.2.1 dX8_goesIn_7 ?_
    refine lv_iload_n C.1.1 C.1.2.1 dX8_goesIn_8 rfl (lv_at hl 2 rfl) ?_
    refine lv_iadd C.1.1 C.1.2.1 dX8_goesIn_9 ?_
    refine q_ial C w hm_1 lm_1 h.1 dX8_goesIn_10 ?_
    replace h := h.2
    refine lv_if_le (tgt := 32) C.1.1 C.1.2.1 dX8_goesIn_11 (by decide) (fun hc1 => ?_) (fun hc1 => ?_)
    · replace h := h.1 hc1
      refine lv_iload_n C.1.1 C.1.2.1 dX8_goesIn_32 rfl (lv_at hl 3 rfl) ?_
      refine lv_if_ne (tgt := 115) C.1.1 C.1.2.1 dX8_goesIn_33 (by decide) (fun hc2 => ?_) (fun hc2 => ?_)
      · replace h := h.2 hc2
        exact v_X8_goesIn_115 C hr hk   h w (lv_sub hl [0, 1, 2] rfl)
      · replace h := h.1 hc2
        refine lv_aload_n C.1.1 C.1.2.1 dX8_goesIn_36 rfl (lv_at hl 0 rfl) ?_
        refine lv_iload_n C.1.1 C.1.2.1 dX8_goesIn_37 rfl (lv_at hl 1 rfl) ?_
        refine lv_iload_n C.1.1 C.1.2.1 dX8_goesIn_38 rfl (lv_at hl 2 rfl) ?_
        refine q_pVi C w [.int x1, .int x2] (c_X8_isHeardOn  h) kv_X8_isHeardOn k_111 (rcv C w kc_X8 hm_0 lm_0) rfl hl.1 (Nat.le_of_ble_eq_true rfl) ⟨Nat.le_of_ble_eq_true rfl, Nat.le_of_ble_eq_true rfl⟩ dX8_goesIn_39 (fun r10 H locs h w => ?_)
        refine lv_if_eq (tgt := 115) C.1.1 C.1.2.1 dX8_goesIn_42 (by decide) (fun hc11 => ?_) (fun hc11 => ?_)
        · replace h := h.1 hc11
          exact v_X8_goesIn_115 C hr hk   h w (lv_sub hl [0, 1, 2] rfl)
        · replace h := h.2 hc11
          refine lv_aload_n C.1.1 C.1.2.1 dX8_goesIn_45 rfl (lv_at hl 0 rfl) ?_
          refine gr_RX8_7 C w hm_0 lm_0 rfl dX8_goesIn_46 ?_
          refine lv_iload_n C.1.1 C.1.2.1 dX8_goesIn_49 rfl (lv_at hl 1 rfl) ?_
          refine lv_bipush (v := 27) C.1.1 C.1.2.1 dX8_goesIn_50 (by decide) ?_
          refine lv_iadd C.1.1 C.1.2.1 dX8_goesIn_52 ?_
          refine lv_iload_n C.1.1 C.1.2.1 dX8_goesIn_53 rfl (lv_at hl 2 rfl) ?_
          refine lv_iadd C.1.1 C.1.2.1 dX8_goesIn_54 ?_
          refine lv_bipush (v := 7) C.1.1 C.1.2.1 dX8_goesIn_55 (by decide) ?_
          refine q_ias C w hm_1 lm_1 h.1 dX8_goesIn_57 (fun M12 H locs eM12 w => ?_)
          replace h := h.2 M12 eM12
          refine lv_aload_n C.1.1 C.1.2.1 dX8_goesIn_58 rfl (lv_at hl 0 rfl) ?_
          refine gr_RX8_7 C w hm_0 lm_0 rfl dX8_goesIn_59 ?_
          refine lv_iload_n C.1.1 C.1.2.1 dX8_goesIn_62 rfl (lv_at hl 1 rfl) ?_
          refine lv_bipush (v := 43) C.1.1 C.1.2.1 dX8_goesIn_63 (by decide) ?_
          refine lv_iadd C.1.1 C.1.2.1 dX8_goesIn_65 ?_
          refine lv_dup2_11 C.1.1 C.1.2.1 dX8_goesIn_66 rfl rfl ?_
          refine q_ial C w hm_1 lm_1 h.1 dX8_goesIn_67 ?_
          replace h := h.2
          refine lv_aload_n C.1.1 C.1.2.1 dX8_goesIn_68 rfl (lv_at hl 0 rfl) ?_
          refine gr_RX8_7 C w hm_0 lm_0 rfl dX8_goesIn_69 ?_
          refine lv_iload_n C.1.1 C.1.2.1 dX8_goesIn_72 rfl (lv_at hl 1 rfl) ?_
          refine lv_bipush (v := 43) C.1.1 C.1.2.1 dX8_goesIn_73 (by decide) ?_
          refine lv_iadd C.1.1 C.1.2.1 dX8_goesIn_75 ?_
          refine q_ial C w hm_1 lm_1 h.1 dX8_goesIn_76 ?_
          replace h := h.2
          refine lv_sipush (v := 999) C.1.1 C.1.2.1 dX8_goesIn_77 (by decide) ?_
          have J : ∀ ls : Array Slot, lv_has ls 7 [(0, .ref (ga g 0)), (2, .int x2)] → W p l e (rmOf 2 47) s m args below meth c H locs 0 0 (MQ below (va_Qv Q (PostW g layM 12) (gF g)) args s 0 0 (gF g)) (F0 m 88 ls [.int (if 999 ≤ (M12 1 (x1 + 43).toNatClampNeg) then (0 : Int32) else 1), .int (M12 1 (x1 + 43).toNatClampNeg), .int (x1 + 43), .ref (ga g 1)]) := by
            intro ls hl
            refine lv_iadd C.1.1 C.1.2.1 dX8_goesIn_88 ?_
            refine q_ias C w hm_1 lm_1 h.1 dX8_goesIn_89 (fun M14 H locs eM14 w => ?_)
            replace h := h.2 M14 eM14
            refine lv_aload_n C.1.1 C.1.2.1 dX8_goesIn_90 rfl (lv_at hl 0 rfl) ?_
            refine lv_dup C.1.1 C.1.2.1 dX8_goesIn_91 rfl ?_
            refine gi_RX8_131 C w hm_0 lm_0 rfl dX8_goesIn_92 ?_
            refine lv_iconst (v := 1) C.1.1 C.1.2.1 dX8_goesIn_95 (by decide) ?_
            refine lv_iload_n C.1.1 C.1.2.1 dX8_goesIn_96 rfl (lv_at hl 1 rfl) ?_
            refine q_ishl C dX8_goesIn_97 ?_
            refine lv_ior C.1.1 C.1.2.1 dX8_goesIn_98 ?_
            refine pi_RX8_131 C w hm_0 lm_0 rfl dX8_goesIn_99 (fun M15 H locs eM15 w => ?_)
            replace h := h M15 eM15
            refine lv_aload_n C.1.1 C.1.2.1 dX8_goesIn_102 rfl (lv_at hl 0 rfl) ?_
            refine lv_dup C.1.1 C.1.2.1 dX8_goesIn_103 rfl ?_
            refine gi_RX8_134 C w hm_0 lm_0 rfl dX8_goesIn_104 ?_
            refine lv_iconst (v := 1) C.1.1 C.1.2.1 dX8_goesIn_107 (by decide) ?_
            refine lv_iadd C.1.1 C.1.2.1 dX8_goesIn_108 ?_
            refine pi_RX8_134 C w hm_0 lm_0 rfl dX8_goesIn_109 (fun M16 H locs eM16 w => ?_)
            replace h := h M16 eM16
            refine lv_goto (tgt := 236) C.1.1 C.1.2.1 dX8_goesIn_112 (by decide) ?_
            exact q_vret C hr hk w h dX8_goesIn_236
          refine lv_icmp_ge (tgt := 87) C.1.1 C.1.2.1 dX8_goesIn_80 (by decide) (fun hc13 => ?_) (fun hc13 => ?_)
          · refine lv_iconst (v := 0) C.1.1 C.1.2.1 dX8_goesIn_87 (by decide) ?_
            simp only [if_pos hc13] at J hl
            exact J ls (lv_sub hl [0, 2] rfl)
          · refine lv_iconst (v := 1) C.1.1 C.1.2.1 dX8_goesIn_83 (by decide) ?_
            refine lv_goto (tgt := 88) C.1.1 C.1.2.1 dX8_goesIn_84 (by decide) ?_
            simp only [if_neg hc13] at J hl
            exact J ls (lv_sub hl [0, 2] rfl)
    · replace h := h.2 hc1
      refine lv_aload_n C.1.1 C.1.2.1 dX8_goesIn_14 rfl (lv_at hl 0 rfl) ?_
      refine gr_RX8_7 C w hm_0 lm_0 rfl dX8_goesIn_15 ?_
      refine lv_iload_n C.1.1 C.1.2.1 dX8_goesIn_18 rfl (lv_at hl 1 rfl) ?_
      refine lv_bipush (v := 27) C.1.1 C.1.2.1 dX8_goesIn_19 (by decide) ?_
      refine lv_iadd C.1.1 C.1.2.1 dX8_goesIn_21 ?_
      refine lv_iload_n C.1.1 C.1.2.1 dX8_goesIn_22 rfl (lv_at hl 2 rfl) ?_
      refine lv_iadd C.1.1 C.1.2.1 dX8_goesIn_23 ?_
      refine lv_dup2_11 C.1.1 C.1.2.1 dX8_goesIn_24 rfl rfl ?_
      refine q_ial C w hm_1 lm_1 h.1 dX8_goesIn_25 ?_
      replace h := h.2
      refine lv_iconst (v := 1) C.1.1 C.1.2.1 dX8_goesIn_26 (by decide) ?_
      refine lv_isub C.1.1 C.1.2.1 dX8_goesIn_27 ?_
      refine q_ias C w hm_1 lm_1 h.1 dX8_goesIn_28 (fun M17 H locs eM17 w => ?_)
      replace h := h.2 M17 eM17
      refine lv_goto (tgt := 236) C.1.1 C.1.2.1 dX8_goesIn_29 (by decide) ?_
      exact q_vret C hr hk w h dX8_goesIn_236)
end
