-- nightOn
def w_X8_nightOn_83 (x1 : Int32) (M : Mem) (Q : Mem → Prop) : Prop :=
  vp_in (x1 + 42) 264 ∧ vp_in (x1 + 42) 264 ∧ ∀ M3, M3 = mu M 1 (x1 + 42).toNatClampNeg ((M 1 (x1 + 42).toNatClampNeg) + 1) → Q M3
def w_X8_nightOn_25 (x1 : Int32) (Q : Mem → Prop) (K25 : Int32 → Mem → Prop) (x3 : Int32) (M : Mem) : Prop :=
  (6 ≤ x3 → w_X8_nightOn_83 x1 M Q) ∧ (¬ 6 ≤ x3 → vp_in (x1 + x3) 264 ∧ vp_in ((x1 + 6) + x3) 264 ∧ ∀ v4 : Int32, v4 = (((M 1 (x1 + x3).toNatClampNeg) + (M 1 ((x1 + 6) + x3).toNatClampNeg)) + 2) → vp_in (x1 + x3) 264 ∧ ∀ M6, M6 = mu M 1 (x1 + x3).toNatClampNeg (if v4 ≤ 30 then v4 else 30) → K25 (x3 + 1) M6)
def w_X8_nightOn_23 (x1 : Int32) (M : Mem) (Q : Mem → Prop) : Prop :=
  ∃ n, fu2 (w_X8_nightOn_25 x1 Q) n 0 M
def w_X8_nightOn_2 (x1 : Int32) (x2 : Int32) (Q : Mem → Prop) (K2 : Int32 → Mem → Prop) (x3 : Int32) (M : Mem) : Prop :=
  ((M 0 1) ≤ x3 → w_X8_nightOn_23 x1 M Q) ∧ (¬ (M 0 1) ≤ x3 → w_X8_goesIn x1 x3 x2 M (fun M8 => K2 (x3 + 1) M8))
def w_X8_nightOn (x1 : Int32) (x2 : Int32) (M : Mem) (Q : Mem → Prop) : Prop :=
  ∃ n, fu2 (w_X8_nightOn_2 x1 x2 Q) n 0 M
-- rule
def w_X8_rule_102 (x1 : Int32) (x2 : Int32) (x3 : Int32) (x4 : Int32) (M : Mem) (Q : Int32 → Prop) : Prop :=
  (x1 = 0 → Q (M 0 1)) ∧ (¬ x1 = 0 → (x1 = 1 → vp_in 41 264 ∧ Q (M 1 (41 : Int32).toNatClampNeg)) ∧ (¬ x1 = 1 → (x1 = 2 → vp_in 42 264 ∧ Q (M 1 (42 : Int32).toNatClampNeg)) ∧ (¬ x1 = 2 → (x1 = 3 → vp_in 43 264 ∧ Q (M 1 (43 : Int32).toNatClampNeg)) ∧ (¬ x1 = 3 → (x1 = 4 → w_X8_lightOn 0 M (fun r7 => Q r7)) ∧ (¬ x1 = 4 → (x1 = 5 → Q x2) ∧ (¬ x1 = 5 → (x1 = 6 → Q x3) ∧ (¬ x1 = 6 → (x1 = 7 → Q x4) ∧ (¬ x1 = 7 → Q (-1)))))))))
def w_X8_rule_93 (x1 : Int32) (x2 : Int32) (x3 : Int32) (x5 : Int32) (t0 : Int32) (t1 : Int32) (M : Mem) (K10 : Int32 → Int32 → Int32 → Int32 → Prop) (Q : Int32 → Prop) : Prop :=
  K10 x2 x3 (t1 ||| t0) (x5 + 1)
def w_X8_rule_92 (x1 : Int32) (x2 : Int32) (x3 : Int32) (x5 : Int32) (t0 : Int32) (M : Mem) (K10 : Int32 → Int32 → Int32 → Int32 → Prop) (Q : Int32 → Prop) : Prop :=
  w_X8_rule_93 x1 x2 x3 x5 0 t0 M K10 Q
def w_X8_rule_10 (x1 : Int32) (M : Mem) (Q : Int32 → Prop) (K10 : Int32 → Int32 → Int32 → Int32 → Prop) (x2 : Int32) (x3 : Int32) (x4 : Int32) (x5 : Int32) : Prop :=
  ((M 0 1) ≤ x5 → w_X8_rule_102 x1 x2 x3 x4 M Q) ∧ (¬ (M 0 1) ≤ x5 → vp_in (27 + x5) 264 ∧ ∀ v12 : Int32, v12 = (if (M 1 (27 + x5).toNatClampNeg) ≤ 0 then (0 : Int32) else 1) → vp_in (22 + x5) 264 ∧ (v12 = 0 → w_X8_isHeardOn 0 x5 M (fun r15 => (r15 = 0 → w_X8_rule_92 x1 (x2 + (M 1 (22 + x5).toNatClampNeg)) (x3 ||| (if v12 = 0 then (0 : Int32) else (sl 1 x5))) x5 x4 M K10 Q) ∧ (¬ r15 = 0 → w_X8_rule_93 x1 (x2 + (M 1 (22 + x5).toNatClampNeg)) (x3 ||| (if v12 = 0 then (0 : Int32) else (sl 1 x5))) x5 (sl 1 x5) x4 M K10 Q))) ∧ (¬ v12 = 0 → w_X8_rule_92 x1 (x2 + (M 1 (22 + x5).toNatClampNeg)) (x3 ||| (if v12 = 0 then (0 : Int32) else (sl 1 x5))) x5 x4 M K10 Q))
def w_X8_rule (x1 : Int32) (M : Mem) (Q : Int32 → Prop) : Prop :=
  ∃ n, fu4 (w_X8_rule_10 x1 M Q) n 0 0 0 0
-- gate
def w_X8_gate_119 (x1 : Int32) (x2 : Int32) (x3 : Int32) (M : Mem) (Q : Int32 → Prop) : Prop :=
  (x2 = 0 → vp_in x1 264 ∧ Q ((M 1 x1.toNatClampNeg) + 30)) ∧ (¬ x2 = 0 → (x2 = 1 → vp_in (6 + x1) 264 ∧ Q ((M 1 (6 + x1).toNatClampNeg) + 2)) ∧ (¬ x2 = 1 → Q x3))
def w_X8_gate_74 (x1 : Int32) (x2 : Int32) (M : Mem) (Q : Int32 → Prop) (K74 : Int32 → Int32 → Prop) (x3 : Int32) (x4 : Int32) : Prop :=
  vp_in 41 264 ∧ ((M 1 (41 : Int32).toNatClampNeg) ≤ x4 → w_X8_gate_119 x1 x2 x3 M Q) ∧ (¬ (M 1 (41 : Int32).toNatClampNeg) ≤ x4 → (x2 = 3 → w_X8_atOn 0 x4 M (fun r10 => K74 (x3 ||| (if r10 = x1 then (sl 1 x4) else 0)) (x4 + 1))) ∧ (¬ x2 = 3 → w_X8_gate_119 x1 x2 x3 M Q))
def w_X8_gate_71 (x1 : Int32) (x2 : Int32) (x3 : Int32) (M : Mem) (Q : Int32 → Prop) : Prop :=
  ∃ n, fu2 (w_X8_gate_74 x1 x2 M Q) n x3 0
def w_X8_gate_26 (x1 : Int32) (x2 : Int32) (M : Mem) (Q : Int32 → Prop) (K26 : Int32 → Int32 → Prop) (x3 : Int32) (x4 : Int32) : Prop :=
  ((M 0 1) ≤ x4 → w_X8_gate_71 x1 x2 x3 M Q) ∧ (¬ (M 0 1) ≤ x4 → (x2 = 2 → vp_in (17 + x4) 264 ∧ ∀ v14 : Int32, v14 = (x3 ||| (if (M 1 (17 + x4).toNatClampNeg) = x1 then (sl 1 x4) else 0)) → K26 v14 (x4 + 1)) ∧ (¬ x2 = 2 → w_X8_gate_71 x1 x2 x3 M Q))
def w_X8_gate (x1 : Int32) (x2 : Int32) (M : Mem) (Q : Int32 → Prop) : Prop :=
  w_X8_isGate x1 M (fun r1 => (r1 = 0 → Q (-1)) ∧ (¬ r1 = 0 → w_X8_in (x2.toInt64) 0 3 M (fun r3 => (r3 = 0 → Q (-1)) ∧ (¬ r3 = 0 → ∃ n, fu2 (w_X8_gate_26 x1 x2 M Q) n 0 0))))
-- taker
def w_X8_taker (x1 : Int32) (x2 : Int32) (M : Mem) (Q : Int32 → Prop) : Prop :=
  w_X8_isTaker x1 M (fun r1 => (r1 = 0 → Q (-1)) ∧ (¬ r1 = 0 → w_X8_in (x2.toInt64) 0 5 M (fun r3 => (r3 = 0 → Q (-1)) ∧ (¬ r3 = 0 → (4 ≤ x2 → (x2 = 4 → w_X8_takesOn 0 x1 M (fun r8 => Q r8)) ∧ (¬ x2 = 4 → w_X8_noiseOn 0 x1 M (fun r7 => Q r7))) ∧ (¬ 4 ≤ x2 → vp_in ((12 + (5 * x2)) + x1) 264 ∧ Q (M 1 ((12 + (5 * x2)) + x1).toNatClampNeg))))))
-- keeper
def w_X8_keeper (x1 : Int32) (x2 : Int32) (M : Mem) (Q : Int32 → Prop) : Prop :=
  w_X8_isKeeper x1 M (fun r1 => (r1 = 0 → Q (-1)) ∧ (¬ r1 = 0 → w_X8_in (x2.toInt64) 0 3 M (fun r3 => (r3 = 0 → Q (-1)) ∧ (¬ r3 = 0 → (3 ≤ x2 → w_X8_atOn 0 x1 M (fun r6 => Q r6)) ∧ (¬ 3 ≤ x2 → vp_in ((32 + (3 * x2)) + x1) 264 ∧ Q (M 1 ((32 + (3 * x2)) + x1).toNatClampNeg))))))
-- puts
def w_X8_puts (x1 : Int32) (x2 : Int32) (x3 : Int32) (x4 : Int32) (M : Mem) (Q : Int32 → Mem → Prop) : Prop :=
  (x1 = 0 → Q (-1) M) ∧ (¬ x1 = 0 → vp_in x2 264 ∧ vp_in x2 264 ∧ ∀ M2, M2 = mu M 1 x2.toNatClampNeg (x3 - x4) → Q ((M 1 x2.toNatClampNeg) + x4) M2)
-- alters
def w_X8_alters_50 (x1 : Int32) (x2 : Int32) (x3 : Int32) (t0 : Int32) (M : Mem) (Q : Int32 → Mem → Prop) : Prop :=
  w_X8_isTaker x1 M (fun r4 => w_X8_puts (if r4 = 0 then (0 : Int32) else (if t0 = 0 then (0 : Int32) else 1)) ((12 + (5 * x2)) + x1) x3 0 M (fun r7 M8 => Q r7 M8))
def w_X8_alters_49 (x1 : Int32) (x2 : Int32) (x3 : Int32) (M : Mem) (Q : Int32 → Mem → Prop) : Prop :=
  w_X8_alters_50 x1 x2 x3 0 M Q
def w_X8_alters (x1 : Int32) (x2 : Int32) (x3 : Int32) (M : Mem) (Q : Int32 → Mem → Prop) : Prop :=
  (x2 = 0 → w_X8_in (x3.toInt64) 0 3 M (fun r12 => w_X8_alters_50 x1 x2 x3 r12 M Q)) ∧ (¬ x2 = 0 → (x2 = 1 → w_X8_isGate x3 M (fun r11 => w_X8_alters_50 x1 x2 x3 r11 M Q)) ∧ (¬ x2 = 1 → (x2 = 2 → w_X8_in (x3.toInt64) 0 999 M (fun r9 => (r9 = 0 → w_X8_alters_49 x1 x2 x3 M Q) ∧ (¬ r9 = 0 → w_X8_alters_50 x1 x2 x3 1 M Q))) ∧ (¬ x2 = 2 → w_X8_alters_49 x1 x2 x3 M Q)))
-- alter
def w_X8_alter (x1 : Int32) (x2 : Int32) (x3 : Int32) (M : Mem) (Q : Int32 → Mem → Prop) : Prop :=
  w_X8_alters x1 x2 x3 M (fun r1 M2 => Q r1 M2)
-- order
def w_X8_order_39 (x1 : Int32) (x2 : Int32) (x3 : Int32) (t0 : Int32) (M : Mem) (Q : Int32 → Mem → Prop) : Prop :=
  w_X8_isKeeper x1 M (fun r4 => w_X8_puts (if r4 = 0 then (0 : Int32) else (if t0 = 0 then (0 : Int32) else 1)) ((32 + (3 * x2)) + x1) x3 0 M (fun r7 M8 => Q r7 M8))
def w_X8_order_38 (x1 : Int32) (x2 : Int32) (x3 : Int32) (M : Mem) (Q : Int32 → Mem → Prop) : Prop :=
  w_X8_order_39 x1 x2 x3 0 M Q
def w_X8_order (x1 : Int32) (x2 : Int32) (x3 : Int32) (M : Mem) (Q : Int32 → Mem → Prop) : Prop :=
  (x2 = 2 → w_X8_in (x3.toInt64) 1 9 M (fun r11 => w_X8_order_39 x1 x2 x3 r11 M Q)) ∧ (¬ x2 = 2 → w_X8_in (x2.toInt64) 0 1 M (fun r2 => (r2 = 0 → w_X8_order_38 x1 x2 x3 M Q) ∧ (¬ r2 = 0 → w_X8_isGate x3 M (fun r9 => (r9 = 0 → w_X8_order_38 x1 x2 x3 M Q) ∧ (¬ r9 = 0 → w_X8_order_39 x1 x2 x3 1 M Q)))))
-- tend
def w_X8_tend_38 (x1 : Int32) (x2 : Int32) (x3 : Int32) (t0 : Int32) (M : Mem) (Q : Int32 → Mem → Prop) : Prop :=
  w_X8_isGate x1 M (fun r3 => w_X8_puts (if r3 = 0 then (0 : Int32) else (if t0 = 0 then (0 : Int32) else 1)) ((6 * x2) + x1) x3 (if x2 = 0 then (30 : Int32) else 2) M (fun r7 M8 => Q r7 M8))
def w_X8_tend_37 (x1 : Int32) (x2 : Int32) (x3 : Int32) (M : Mem) (Q : Int32 → Mem → Prop) : Prop :=
  w_X8_tend_38 x1 x2 x3 0 M Q
def w_X8_tend (x1 : Int32) (x2 : Int32) (x3 : Int32) (M : Mem) (Q : Int32 → Mem → Prop) : Prop :=
  (x2 = 0 → w_X8_in (x3.toInt64) 0 60 M (fun r11 => w_X8_tend_38 x1 x2 x3 r11 M Q)) ∧ (¬ x2 = 0 → (x2 = 1 → w_X8_in (x3.toInt64) 0 9 M (fun r9 => (r9 = 0 → w_X8_tend_37 x1 x2 x3 M Q) ∧ (¬ r9 = 0 → w_X8_tend_38 x1 x2 x3 1 M Q))) ∧ (¬ x2 = 1 → w_X8_tend_37 x1 x2 x3 M Q))
-- free
def w_X8_free (x1 : Int32) (M : Mem) (Q : Int32 → Mem → Prop) : Prop :=
  w_X8_isTaker x1 M (fun r1 => (r1 = 0 → Q (-1) M) ∧ (¬ r1 = 0 → vp_in (27 + x1) 264 ∧ ((M 1 (27 + x1).toNatClampNeg) = 0 → Q (-2) M) ∧ (¬ (M 1 (27 + x1).toNatClampNeg) = 0 → w_X8_puts 1 (27 + x1) 0 0 M (fun r4 M5 => Q r4 M5))))
-- hiresOn
def w_X8_hiresOn (x1 : Int32) (x2 : Int32) (x3 : Int32) (x4 : Int32) (M : Mem) (Q : Mem → Prop) : Prop :=
  vp_in (x1 + 41) 264 ∧ vp_in ((x1 + 32) + (M 1 (x1 + 41).toNatClampNeg)) 264 ∧ ∀ M1, M1 = mu M 1 ((x1 + 32) + (M 1 (x1 + 41).toNatClampNeg)).toNatClampNeg x2 → vp_in ((x1 + 35) + (M 1 (x1 + 41).toNatClampNeg)) 264 ∧ ∀ M2, M2 = mu M1 1 ((x1 + 35) + (M 1 (x1 + 41).toNatClampNeg)).toNatClampNeg x3 → vp_in ((x1 + 38) + (M 1 (x1 + 41).toNatClampNeg)) 264 ∧ ∀ M3, M3 = mu M2 1 ((x1 + 38) + (M 1 (x1 + 41).toNatClampNeg)).toNatClampNeg x4 → vp_in (x1 + 41) 264 ∧ vp_in (x1 + 41) 264 ∧ ∀ M4, M4 = mu M3 1 (x1 + 41).toNatClampNeg ((M3 1 (x1 + 41).toNatClampNeg) + 1) → Q M4
-- hire
def w_X8_hire (x1 : Int32) (x2 : Int32) (x3 : Int32) (M : Mem) (Q : Int32 → Mem → Prop) : Prop :=
  w_X8_isGate x1 M (fun r1 => (r1 = 0 → Q (-1) M) ∧ (¬ r1 = 0 → w_X8_isGate x2 M (fun r3 => (r3 = 0 → Q (-1) M) ∧ (¬ r3 = 0 → w_X8_in (x3.toInt64) 1 9 M (fun r5 => (r5 = 0 → Q (-1) M) ∧ (¬ r5 = 0 → vp_in 41 264 ∧ ((M 1 (41 : Int32).toNatClampNeg) = 3 → Q (-3) M) ∧ (¬ (M 1 (41 : Int32).toNatClampNeg) = 3 → w_X8_hiresOn 0 x1 x2 x3 M (fun M9 => vp_in 41 264 ∧ Q (M9 1 (41 : Int32).toNatClampNeg) M9))))))))
-- dismiss
def w_X8_dismiss (x1 : Int32) (M : Mem) (Q : Int32 → Mem → Prop) : Prop :=
  vp_in 41 264 ∧ w_X8_in (x1.toInt64) 0 ((M 1 (41 : Int32).toNatClampNeg).toInt64) M (fun r1 => w_X8_puts r1 41 x1 0 M (fun r2 M3 => Q r2 M3))
-- nights
def w_X8_nights_55 (M : Mem) (Q : Int32 → Mem → Prop) : Prop :=
  Q (M 0 16) M
def w_X8_nights_38 (x1 : Int32) (Q : Int32 → Mem → Prop) (K38 : Int32 → Mem → Prop) (x2 : Int32) (M : Mem) : Prop :=
  (x1 ≤ x2 → w_X8_nights_55 M Q) ∧ (¬ x1 ≤ x2 → w_X8_nightOn 0 0 M (fun M8 => K38 (x2 + 1) M8))
def w_X8_nights (x1 : Int32) (M : Mem) (Q : Int32 → Mem → Prop) : Prop :=
  w_X8_in (x1.toInt64) 0 30 M (fun r1 => (r1 = 0 → Q (-1) M) ∧ (¬ r1 = 0 → vp_in 42 264 ∧ (((M 1 (42 : Int32).toNatClampNeg) + x1) ≤ 999 → w_X8_startCounts M (fun M5 => ∃ n, fu2 (w_X8_nights_38 x1 Q) n 0 M5)) ∧ (¬ ((M 1 (42 : Int32).toNatClampNeg) + x1) ≤ 999 → Q (-3) M)))
-- copies
def w_X8_copies_2 (x1 : Int32) (x2 : Int32) (Q : Mem → Prop) (K2 : Int32 → Mem → Prop) (x3 : Int32) (M : Mem) : Prop :=
  (44 ≤ x3 → Q M) ∧ (¬ 44 ≤ x3 → vp_in (x1 + x3) 264 ∧ vp_in (x2 + x3) 264 ∧ ∀ M2, M2 = mu M 1 (x2 + x3).toNatClampNeg (M 1 (x1 + x3).toNatClampNeg) → K2 (x3 + 1) M2)
def w_X8_copies (x1 : Int32) (x2 : Int32) (M : Mem) (Q : Mem → Prop) : Prop :=
  ∃ n, fu2 (w_X8_copies_2 x1 x2 Q) n 0 M
-- nightsGo
def w_X8_nightsGo_67 (M : Mem) (Q : Int32 → Mem → Prop) : Prop :=
  Q (M 0 16) M
def w_X8_nightsGo_20 (x2 : Int32) (Q : Int32 → Mem → Prop) (K20 : Int32 → Mem → Prop) (x3 : Int32) (M : Mem) : Prop :=
  (x2 < x3 → w_X8_nightsGo_67 M Q) ∧ (¬ x2 < x3 → w_X8_nightOn 176 0 M (fun M8 => ∀ M11, M11 = mu M8 0 19 (if (M8 0 19) = (-4) then (if (M8 0 18) ≤ 0 then (M8 0 19) else x3) else (M8 0 19)) → K20 (x3 + 1) M11))
def w_X8_nightsGo (x1 : Int32) (x2 : Int32) (M : Mem) (Q : Int32 → Mem → Prop) : Prop :=
  w_X8_copies x1 176 M (fun M2 => w_X8_startCounts M2 (fun M4 => ∀ M5, M5 = mu M4 0 19 (-4) → ∃ n, fu2 (w_X8_nightsGo_20 x2 Q) n 1 M5))
-- runs
def w_X8_runs (x1 : Int32) (x2 : Int32) (M : Mem) (Q : Int32 → Mem → Prop) : Prop :=
  w_X8_in (x1.toInt64) 0 60 M (fun r1 => (r1 = 0 → Q (-1) M) ∧ (¬ r1 = 0 → w_X8_in (x2.toInt64) 0 4 M (fun r3 => (r3 = 0 → Q (-1) M) ∧ (¬ r3 = 0 → w_X8_nightsGo 0 x1 M (fun r5 M6 => (x2 = 0 → Q r5 M6) ∧ (¬ x2 = 0 → (x2 = 1 → Q (M6 0 17) M6) ∧ (¬ x2 = 1 → (x2 = 2 → Q (M6 0 18) M6) ∧ (¬ x2 = 2 → (x2 = 3 → w_X8_lightOn 176 M6 (fun r11 => Q r11 M6)) ∧ (¬ x2 = 3 → Q (M6 0 19) M6)))))))))
-- ahead
def w_X8_ahead (x1 : Int32) (x2 : Int32) (x3 : Int32) (M : Mem) (Q : Int32 → Mem → Prop) : Prop :=
  w_X8_isTaker x1 M (fun r1 => (r1 = 0 → Q (-1) M) ∧ (¬ r1 = 0 → w_X8_in (x2.toInt64) 0 60 M (fun r3 => (r3 = 0 → Q (-1) M) ∧ (¬ r3 = 0 → w_X8_in (x3.toInt64) 0 1 M (fun r5 => (r5 = 0 → Q (-1) M) ∧ (¬ r5 = 0 → w_X8_nightsGo 0 x2 M (fun r7 M8 => vp_in ((198 + (5 * x3)) + x1) 264 ∧ Q (M8 1 ((198 + (5 * x3)) + x1).toNatClampNeg) M8)))))))
section
variable {p : Program} {l : Launch} {e : Env} {s : State} {m : MethodId} {args : Array Value} {below : List Frame} {meth : Method} {c : Code} {g : Gt}
-- nightOn
set_option maxHeartbeats 4000000 in
set_option maxRecDepth 100000 in
theorem v_X8_nightOn_83 {x1 : Int32} {M : Mem} {Q : Mem → Prop} {H : Heap} {locs : List Loc} {ls : Array Slot} (C : Cx p s m args c cX8_nightOn 5 RX8 g) (hr : meth.sig.returnType = none) (hk : meth.locks = false)  (h : w_X8_nightOn_83 x1 M Q) (w : Wd g layM 12 s.heap M H locs) (hl : lv_has ls 5 [(0, .ref (ga g 0)), (1, .int x1)]) : W p l e (rmOf 3 73) s m args below meth c H locs 0 0 (MQ below (va_Qv Q (PostW g layM 12) (gF g)) args s 0 0 (gF g)) (F0 m 83 ls []) := by
  unfold w_X8_nightOn_83 at h
  refine lv_aload_n C.1.1 C.1.2.1 dX8_nightOn_83 rfl (lv_at hl 0 rfl) ?_
  refine gr_RX8_7 C w hm_0 lm_0 rfl dX8_nightOn_84 ?_
  refine lv_iload_n C.1.1 C.1.2.1 dX8_nightOn_87 rfl (lv_at hl 1 rfl) ?_
  refine lv_bipush (v := 42) C.1.1 C.1.2.1 dX8_nightOn_88 (by decide) ?_
  refine lv_iadd C.1.1 C.1.2.1 dX8_nightOn_90 ?_
  refine lv_dup2_11 C.1.1 C.1.2.1 dX8_nightOn_91 rfl rfl ?_
  refine q_ial C w hm_1 lm_1 h.1 dX8_nightOn_92 ?_
  replace h := h.2
  refine lv_iconst (v := 1) C.1.1 C.1.2.1 dX8_nightOn_93 (by decide) ?_
  refine lv_iadd C.1.1 C.1.2.1 dX8_nightOn_94 ?_
  refine q_ias C w hm_1 lm_1 h.1 dX8_nightOn_95 (fun M3 H locs eM3 w => ?_)
  replace h := h.2 M3 eM3
  exact q_vret C hr hk w h dX8_nightOn_96
set_option maxHeartbeats 4000000 in
set_option maxRecDepth 100000 in
theorem v_X8_nightOn_25 {x1 : Int32} {x3 : Int32} {M : Mem} {K25 : Int32 → Mem → Prop} {Q : Mem → Prop} {H : Heap} {locs : List Loc} {ls : Array Slot} (C : Cx p s m args c cX8_nightOn 5 RX8 g) (hr : meth.sig.returnType = none) (hk : meth.locks = false) (hK25 : ∀ (x3 : Int32) (M : Mem) (H : Heap) (locs : List Loc) (ls : Array Slot), K25 x3 M → Wd g layM 12 s.heap M H locs → lv_has ls 5 [(0, .ref (ga g 0)), (1, .int x1), (3, .int x3)] → W p l e (rmOf 3 73) s m args below meth c H locs 0 0 (MQ below (va_Qv Q (PostW g layM 12) (gF g)) args s 0 0 (gF g)) (F0 m 25 ls [])) (h : w_X8_nightOn_25 x1 Q K25 x3 M) (w : Wd g layM 12 s.heap M H locs) (hl : lv_has ls 5 [(0, .ref (ga g 0)), (1, .int x1), (3, .int x3)]) : W p l e (rmOf 3 73) s m args below meth c H locs 0 0 (MQ below (va_Qv Q (PostW g layM 12) (gF g)) args s 0 0 (gF g)) (F0 m 25 ls []) := by
  unfold w_X8_nightOn_25 at h
  refine lv_iload_n C.1.1 C.1.2.1 dX8_nightOn_25 rfl (lv_at hl 2 rfl) ?_
  refine lv_bipush (v := 6) C.1.1 C.1.2.1 dX8_nightOn_26 (by decide) ?_
  refine lv_icmp_ge (tgt := 83) C.1.1 C.1.2.1 dX8_nightOn_28 (by decide) (fun hc2 => ?_) (fun hc2 => ?_)
  · replace h := h.1 hc2
    exact v_X8_nightOn_83 C hr hk   h w (lv_sub hl [0, 1] rfl)
  · replace h := h.2 hc2
    refine lv_aload_n C.1.1 C.1.2.1 dX8_nightOn_31 rfl (lv_at hl 0 rfl) ?_
    refine gr_RX8_7 C w hm_0 lm_0 rfl dX8_nightOn_32 ?_
    refine lv_iload_n C.1.1 C.1.2.1 dX8_nightOn_35 rfl (lv_at hl 1 rfl) ?_
    refine lv_iload_n C.1.1 C.1.2.1 dX8_nightOn_36 rfl (lv_at hl 2 rfl) ?_
    refine lv_iadd C.1.1 C.1.2.1 dX8_nightOn_37 ?_
    refine q_ial C w hm_1 lm_1 h.1 dX8_nightOn_38 ?_
    replace h := h.2
    refine lv_aload_n C.1.1 C.1.2.1 dX8_nightOn_39 rfl (lv_at hl 0 rfl) ?_
    refine gr_RX8_7 C w hm_0 lm_0 rfl dX8_nightOn_40 ?_
    refine lv_iload_n C.1.1 C.1.2.1 dX8_nightOn_43 rfl (lv_at hl 1 rfl) ?_
    refine lv_bipush (v := 6) C.1.1 C.1.2.1 dX8_nightOn_44 (by decide) ?_
    refine lv_iadd C.1.1 C.1.2.1 dX8_nightOn_46 ?_
    refine lv_iload_n C.1.1 C.1.2.1 dX8_nightOn_47 rfl (lv_at hl 2 rfl) ?_
    refine lv_iadd C.1.1 C.1.2.1 dX8_nightOn_48 ?_
    refine q_ial C w hm_1 lm_1 h.1 dX8_nightOn_49 ?_
    replace h := h.2
    refine lv_iadd C.1.1 C.1.2.1 dX8_nightOn_50 ?_
    refine lv_iconst (v := 2) C.1.1 C.1.2.1 dX8_nightOn_51 (by decide) ?_
    refine lv_iadd C.1.1 C.1.2.1 dX8_nightOn_52 ?_
    refine lv_topi (fun v4 ev4 => ?_)
    replace h := h v4 ev4
    refine lv_istore (lv' := [(4, .int v4), (0, .ref (ga g 0)), (1, .int x1), (3, .int x3)]) C.1.1 C.1.2.1 dX8_nightOn_53 hl (by decide) rfl (fun ls hl => ?_)
    refine lv_aload_n C.1.1 C.1.2.1 dX8_nightOn_55 rfl (lv_at hl 1 rfl) ?_
    refine gr_RX8_7 C w hm_0 lm_0 rfl dX8_nightOn_56 ?_
    refine lv_iload_n C.1.1 C.1.2.1 dX8_nightOn_59 rfl (lv_at hl 2 rfl) ?_
    refine lv_iload_n C.1.1 C.1.2.1 dX8_nightOn_60 rfl (lv_at hl 3 rfl) ?_
    refine lv_iadd C.1.1 C.1.2.1 dX8_nightOn_61 ?_
    refine lv_iload C.1.1 C.1.2.1 dX8_nightOn_62 (lv_at hl 0 rfl) ?_
    refine lv_bipush (v := 30) C.1.1 C.1.2.1 dX8_nightOn_64 (by decide) ?_
    have J : ∀ ls : Array Slot, lv_has ls 5 [(0, .ref (ga g 0)), (1, .int x1), (3, .int x3)] → W p l e (rmOf 3 73) s m args below meth c H locs 0 0 (MQ below (va_Qv Q (PostW g layM 12) (gF g)) args s 0 0 (gF g)) (F0 m 76 ls [.int (if v4 ≤ 30 then v4 else 30), .int (x1 + x3), .ref (ga g 1)]) := by
      intro ls hl
      refine q_ias C w hm_1 lm_1 h.1 dX8_nightOn_76 (fun M6 H locs eM6 w => ?_)
      replace h := h.2 M6 eM6
      refine lv_iinc (v := x3 + 1) (lv' := [(3, .int (x3 + 1)), (0, .ref (ga g 0)), (1, .int x1)]) C.1.1 C.1.2.1 dX8_nightOn_77 hl (k := 2) rfl rfl (by decide) rfl (fun ls hl => ?_)
      refine lv_goto (tgt := 25) C.1.1 C.1.2.1 dX8_nightOn_80 (by decide) ?_
      exact hK25 _ _ _ _ _ h w (lv_sub hl [1, 2, 0] rfl)
    refine lv_icmp_le (tgt := 74) C.1.1 C.1.2.1 dX8_nightOn_66 (by decide) (fun hc5 => ?_) (fun hc5 => ?_)
    · refine lv_iload C.1.1 C.1.2.1 dX8_nightOn_74 (lv_at hl 0 rfl) ?_
      simp only [if_pos hc5] at J hl
      exact J ls (lv_sub hl [1, 2, 3] rfl)
    · refine lv_bipush (v := 30) C.1.1 C.1.2.1 dX8_nightOn_69 (by decide) ?_
      refine lv_goto (tgt := 76) C.1.1 C.1.2.1 dX8_nightOn_71 (by decide) ?_
      simp only [if_neg hc5] at J hl
      exact J ls (lv_sub hl [1, 2, 3] rfl)
set_option maxHeartbeats 4000000 in
set_option maxRecDepth 100000 in
theorem l_X8_nightOn_25 {x1 : Int32} {Q : Mem → Prop} (C : Cx p s m args c cX8_nightOn 5 RX8 g) (hr : meth.sig.returnType = none) (hk : meth.locks = false)  : ∀ (n : Nat) (x3 : Int32) (M : Mem) (H : Heap) (locs : List Loc) (ls : Array Slot), fu2 (w_X8_nightOn_25 x1 Q) n x3 M → Wd g layM 12 s.heap M H locs → lv_has ls 5 [(0, .ref (ga g 0)), (1, .int x1), (3, .int x3)] → W p l e (rmOf 3 73) s m args below meth c H locs 0 0 (MQ below (va_Qv Q (PostW g layM 12) (gF g)) args s 0 0 (gF g)) (F0 m 25 ls []) := by
  intro n
  induction n with
  | zero => intro x3 M H locs ls h; exact h.elim
  | succ n ih => intro x3 M H locs ls h w hl; exact v_X8_nightOn_25 C hr hk   ih h w hl
set_option maxHeartbeats 4000000 in
set_option maxRecDepth 100000 in
theorem v_X8_nightOn_23 {x1 : Int32} {M : Mem} {Q : Mem → Prop} {H : Heap} {locs : List Loc} {ls : Array Slot} (C : Cx p s m args c cX8_nightOn 5 RX8 g) (hr : meth.sig.returnType = none) (hk : meth.locks = false)  (h : w_X8_nightOn_23 x1 M Q) (w : Wd g layM 12 s.heap M H locs) (hl : lv_has ls 5 [(0, .ref (ga g 0)), (1, .int x1)]) : W p l e (rmOf 3 73) s m args below meth c H locs 0 0 (MQ below (va_Qv Q (PostW g layM 12) (gF g)) args s 0 0 (gF g)) (F0 m 23 ls []) := by
  unfold w_X8_nightOn_23 at h
  refine lv_iconst (v := 0) C.1.1 C.1.2.1 dX8_nightOn_23 (by decide) ?_
  refine lv_istore_n (lv' := [(3, .int 0), (0, .ref (ga g 0)), (1, .int x1)]) C.1.1 C.1.2.1 dX8_nightOn_24 rfl hl (by decide) rfl (fun ls hl => ?_)
  obtain ⟨n, h⟩ := h
  exact l_X8_nightOn_25 C hr hk   n _ _ _ _ _ h w (lv_sub hl [1, 2, 0] rfl)
set_option maxHeartbeats 4000000 in
set_option maxRecDepth 100000 in
theorem v_X8_nightOn_2 {x1 : Int32} {x2 : Int32} {x3 : Int32} {M : Mem} {K2 : Int32 → Mem → Prop} {Q : Mem → Prop} {H : Heap} {locs : List Loc} {ls : Array Slot} (C : Cx p s m args c cX8_nightOn 5 RX8 g) (hr : meth.sig.returnType = none) (hk : meth.locks = false) (hK2 : ∀ (x3 : Int32) (M : Mem) (H : Heap) (locs : List Loc) (ls : Array Slot), K2 x3 M → Wd g layM 12 s.heap M H locs → lv_has ls 5 [(0, .ref (ga g 0)), (1, .int x1), (2, .int x2), (3, .int x3)] → W p l e (rmOf 3 73) s m args below meth c H locs 0 0 (MQ below (va_Qv Q (PostW g layM 12) (gF g)) args s 0 0 (gF g)) (F0 m 2 ls [])) (h : w_X8_nightOn_2 x1 x2 Q K2 x3 M) (w : Wd g layM 12 s.heap M H locs) (hl : lv_has ls 5 [(0, .ref (ga g 0)), (1, .int x1), (2, .int x2), (3, .int x3)]) : W p l e (rmOf 3 73) s m args below meth c H locs 0 0 (MQ below (va_Qv Q (PostW g layM 12) (gF g)) args s 0 0 (gF g)) (F0 m 2 ls []) := by
  unfold w_X8_nightOn_2 at h
  refine lv_iload_n C.1.1 C.1.2.1 dX8_nightOn_2 rfl (lv_at hl 3 rfl) ?_
  refine lv_aload_n C.1.1 C.1.2.1 dX8_nightOn_3 rfl (lv_at hl 0 rfl) ?_
  refine gi_RX8_116 C w hm_0 lm_0 rfl dX8_nightOn_4 ?_
  refine lv_icmp_ge (tgt := 23) C.1.1 C.1.2.1 dX8_nightOn_7 (by decide) (fun hc1 => ?_) (fun hc1 => ?_)
  · replace h := h.1 hc1
    exact v_X8_nightOn_23 C hr hk   h w (lv_sub hl [0, 1] rfl)
  · replace h := h.2 hc1
    refine lv_aload_n C.1.1 C.1.2.1 dX8_nightOn_10 rfl (lv_at hl 0 rfl) ?_
    refine lv_iload_n C.1.1 C.1.2.1 dX8_nightOn_11 rfl (lv_at hl 1 rfl) ?_
    refine lv_iload_n C.1.1 C.1.2.1 dX8_nightOn_12 rfl (lv_at hl 3 rfl) ?_
    refine lv_iload_n C.1.1 C.1.2.1 dX8_nightOn_13 rfl (lv_at hl 2 rfl) ?_
    refine q_cVv C w [.int x1, .int x3, .int x2] (c_X8_goesIn  h) kv_X8_goesIn k_112 (rcv C w kc_X8 hm_0 lm_0) rfl hl.1 (Nat.le_of_ble_eq_true rfl) ⟨Nat.le_of_ble_eq_true rfl, Nat.le_of_ble_eq_true rfl⟩ dX8_nightOn_14 (fun M8 H locs h w => ?_)
    refine lv_iinc (v := x3 + 1) (lv' := [(3, .int (x3 + 1)), (0, .ref (ga g 0)), (1, .int x1), (2, .int x2)]) C.1.1 C.1.2.1 dX8_nightOn_17 hl (k := 3) rfl rfl (by decide) rfl (fun ls hl => ?_)
    refine lv_goto (tgt := 2) C.1.1 C.1.2.1 dX8_nightOn_20 (by decide) ?_
    exact hK2 _ _ _ _ _ h w (lv_sub hl [1, 2, 3, 0] rfl)
set_option maxHeartbeats 4000000 in
set_option maxRecDepth 100000 in
theorem l_X8_nightOn_2 {x1 : Int32} {x2 : Int32} {Q : Mem → Prop} (C : Cx p s m args c cX8_nightOn 5 RX8 g) (hr : meth.sig.returnType = none) (hk : meth.locks = false)  : ∀ (n : Nat) (x3 : Int32) (M : Mem) (H : Heap) (locs : List Loc) (ls : Array Slot), fu2 (w_X8_nightOn_2 x1 x2 Q) n x3 M → Wd g layM 12 s.heap M H locs → lv_has ls 5 [(0, .ref (ga g 0)), (1, .int x1), (2, .int x2), (3, .int x3)] → W p l e (rmOf 3 73) s m args below meth c H locs 0 0 (MQ below (va_Qv Q (PostW g layM 12) (gF g)) args s 0 0 (gF g)) (F0 m 2 ls []) := by
  intro n
  induction n with
  | zero => intro x3 M H locs ls h; exact h.elim
  | succ n ih => intro x3 M H locs ls h w hl; exact v_X8_nightOn_2 C hr hk   ih h w hl
set_option maxHeartbeats 4000000 in
set_option maxRecDepth 100000 in
theorem c_X8_nightOn {l : Launch} {g : Gt} {x1 : Int32} {x2 : Int32} {M : Mem} {Q : Mem → Prop} (h : w_X8_nightOn x1 x2 M Q) : MV l yX8_nightOn cX8_nightOn 5 none 3 73 g layM 12 [.ref (ga g 0), .int x1, .int x2] M Q :=
  m_of (by decide +kernel) (Nat.le_of_ble_eq_true rfl) (fun p e s m args below meth c ls C hr hk w hl => by
    have C : Cx p s m args c cX8_nightOn 5 RX8 g := C
    have hl : lv_has ls 5 [(0, .ref (ga g 0)), (1, .int x1), (2, .int x2)] := hl
    unfold w_X8_nightOn at h
    obtain ⟨H, eH⟩ : ∃ H : Heap, H = s.heap := ⟨_, rfl⟩
    obtain ⟨locs, el⟩ : ∃ locs : List Loc, locs = [] := ⟨_, rfl⟩
    have w : Wd g layM 12 s.heap M H locs := by rw [eH, el]; exact w
    suffices hw : W p l e (rmOf 3 73) s m args below meth c H locs 0 0 (MQ below (va_Qv Q (PostW g layM 12) (gF g)) args s 0 0 (gF g)) (F0 m 0 ls []) by rw [eH, el] at hw; exact hw
    clear eH el
    refine lv_iconst (v := 0) C.1.1 C.1.2.1 dX8_nightOn_0 (by decide) ?_
    refine lv_istore_n (lv' := [(3, .int 0), (0, .ref (ga g 0)), (1, .int x1), (2, .int x2)]) C.1.1 C.1.2.1 dX8_nightOn_1 rfl hl (by decide) rfl (fun ls hl => ?_)
    obtain ⟨n, h⟩ := h
    exact l_X8_nightOn_2 C hr hk   n _ _ _ _ _ h w (lv_sub hl [1, 2, 3, 0] rfl))
-- rule
set_option maxHeartbeats 4000000 in
set_option maxRecDepth 100000 in
theorem v_X8_rule_102 {x1 : Int32} {x2 : Int32} {x3 : Int32} {x4 : Int32} {M : Mem} {Q : Int32 → Prop} {H : Heap} {locs : List Loc} {ls : Array Slot} (C : Cx p s m args c cX8_rule 7 RX8 g) (hr : meth.sig.returnType = (some .int)) (hk : meth.locks = false)  (h : w_X8_rule_102 x1 x2 x3 x4 M Q) (w : Wd g layM 12 s.heap M H locs) (hl : lv_has ls 7 [(0, .ref (ga g 0)), (1, .int x1), (2, .int x2), (3, .int x3), (4, .int x4)]) : W p l e (rmOf 2 47) s m args below meth c H locs 0 0 (MQ below (va_Qi (fun r M9 => M9 = M ∧ Q r) (PostW g layM 12) (gF g)) args s 0 0 (gF g)) (F0 m 102 ls []) := by
  unfold w_X8_rule_102 at h
  refine lv_iload_n C.1.1 C.1.2.1 dX8_rule_102 rfl (lv_at hl 1 rfl) ?_
  by_cases hc2 : x1 = 0
  · replace h := h.1 hc2
    refine q_tin C (off := 45) (tgt := 148) dX8_rule_103 hc2 (by decide) (by decide) (by decide) (by decide) ?_
    refine lv_aload_n C.1.1 C.1.2.1 dX8_rule_148 rfl (lv_at hl 0 rfl) ?_
    refine gi_RX8_116 C w hm_0 lm_0 rfl dX8_rule_149 ?_
    exact q_iret C hr hk w rfl ⟨rfl, h⟩ dX8_rule_152
  replace h := h.2 hc2
  by_cases hc3 : x1 = 1
  · replace h := h.1 hc3
    refine q_tin C (off := 50) (tgt := 153) dX8_rule_103 hc3 (by decide) (by decide) (by decide) (by decide) ?_
    refine lv_aload_n C.1.1 C.1.2.1 dX8_rule_153 rfl (lv_at hl 0 rfl) ?_
    refine gr_RX8_7 C w hm_0 lm_0 rfl dX8_rule_154 ?_
    refine lv_bipush (v := 41) C.1.1 C.1.2.1 dX8_rule_157 (by decide) ?_
    refine q_ial C w hm_1 lm_1 h.1 dX8_rule_159 ?_
    replace h := h.2
    exact q_iret C hr hk w rfl ⟨rfl, h⟩ dX8_rule_160
  replace h := h.2 hc3
  by_cases hc4 : x1 = 2
  · replace h := h.1 hc4
    refine q_tin C (off := 58) (tgt := 161) dX8_rule_103 hc4 (by decide) (by decide) (by decide) (by decide) ?_
    refine lv_aload_n C.1.1 C.1.2.1 dX8_rule_161 rfl (lv_at hl 0 rfl) ?_
    refine gr_RX8_7 C w hm_0 lm_0 rfl dX8_rule_162 ?_
    refine lv_bipush (v := 42) C.1.1 C.1.2.1 dX8_rule_165 (by decide) ?_
    refine q_ial C w hm_1 lm_1 h.1 dX8_rule_167 ?_
    replace h := h.2
    exact q_iret C hr hk w rfl ⟨rfl, h⟩ dX8_rule_168
  replace h := h.2 hc4
  by_cases hc5 : x1 = 3
  · replace h := h.1 hc5
    refine q_tin C (off := 66) (tgt := 169) dX8_rule_103 hc5 (by decide) (by decide) (by decide) (by decide) ?_
    refine lv_aload_n C.1.1 C.1.2.1 dX8_rule_169 rfl (lv_at hl 0 rfl) ?_
    refine gr_RX8_7 C w hm_0 lm_0 rfl dX8_rule_170 ?_
    refine lv_bipush (v := 43) C.1.1 C.1.2.1 dX8_rule_173 (by decide) ?_
    refine q_ial C w hm_1 lm_1 h.1 dX8_rule_175 ?_
    replace h := h.2
    exact q_iret C hr hk w rfl ⟨rfl, h⟩ dX8_rule_176
  replace h := h.2 hc5
  by_cases hc6 : x1 = 4
  · replace h := h.1 hc6
    refine q_tin C (off := 74) (tgt := 177) dX8_rule_103 hc6 (by decide) (by decide) (by decide) (by decide) ?_
    refine lv_aload_n C.1.1 C.1.2.1 dX8_rule_177 rfl (lv_at hl 0 rfl) ?_
    refine lv_iconst (v := 0) C.1.1 C.1.2.1 dX8_rule_178 (by decide) ?_
    refine q_pVi C w [.int 0] (c_X8_lightOn  h) kv_X8_lightOn k_113 (rcv C w kc_X8 hm_0 lm_0) rfl hl.1 (Nat.le_of_ble_eq_true rfl) ⟨Nat.le_of_ble_eq_true rfl, Nat.le_of_ble_eq_true rfl⟩ dX8_rule_179 (fun r7 H locs h w => ?_)
    exact q_iret C hr hk w rfl ⟨rfl, h⟩ dX8_rule_182
  replace h := h.2 hc6
  by_cases hc8 : x1 = 5
  · replace h := h.1 hc8
    refine q_tin C (off := 80) (tgt := 183) dX8_rule_103 hc8 (by decide) (by decide) (by decide) (by decide) ?_
    refine lv_iload_n C.1.1 C.1.2.1 dX8_rule_183 rfl (lv_at hl 2 rfl) ?_
    exact q_iret C hr hk w rfl ⟨rfl, h⟩ dX8_rule_184
  replace h := h.2 hc8
  by_cases hc9 : x1 = 6
  · replace h := h.1 hc9
    refine q_tin C (off := 82) (tgt := 185) dX8_rule_103 hc9 (by decide) (by decide) (by decide) (by decide) ?_
    refine lv_iload_n C.1.1 C.1.2.1 dX8_rule_185 rfl (lv_at hl 3 rfl) ?_
    exact q_iret C hr hk w rfl ⟨rfl, h⟩ dX8_rule_186
  replace h := h.2 hc9
  by_cases hc10 : x1 = 7
  · replace h := h.1 hc10
    refine q_tin C (off := 84) (tgt := 187) dX8_rule_103 hc10 (by decide) (by decide) (by decide) (by decide) ?_
    refine lv_iload C.1.1 C.1.2.1 dX8_rule_187 (lv_at hl 4 rfl) ?_
    exact q_iret C hr hk w rfl ⟨rfl, h⟩ dX8_rule_189
  replace h := h.2 hc10
  have nhc2 : ¬ x1.toInt = 0 := lv_neT hc2 (by decide)
  have nhc3 : ¬ x1.toInt = 1 := lv_neT hc3 (by decide)
  have nhc4 : ¬ x1.toInt = 2 := lv_neT hc4 (by decide)
  have nhc5 : ¬ x1.toInt = 3 := lv_neT hc5 (by decide)
  have nhc6 : ¬ x1.toInt = 4 := lv_neT hc6 (by decide)
  have nhc8 : ¬ x1.toInt = 5 := lv_neT hc8 (by decide)
  have nhc9 : ¬ x1.toInt = 6 := lv_neT hc9 (by decide)
  have nhc10 : ¬ x1.toInt = 7 := lv_neT hc10 (by decide)
  refine q_tout C (tgt := 190) dX8_rule_103 (by omega) (by decide) ?_
  refine lv_iconst (v := (-1)) C.1.1 C.1.2.1 dX8_rule_190 (by decide) ?_
  exact q_iret C hr hk w rfl ⟨rfl, h⟩ dX8_rule_191
set_option maxHeartbeats 4000000 in
set_option maxRecDepth 100000 in
theorem v_X8_rule_93 {x1 : Int32} {x2 : Int32} {x3 : Int32} {x5 : Int32} {t0 : Int32} {t1 : Int32} {M : Mem} {K10 : Int32 → Int32 → Int32 → Int32 → Prop} {Q : Int32 → Prop} {H : Heap} {locs : List Loc} {ls : Array Slot} (C : Cx p s m args c cX8_rule 7 RX8 g) (hr : meth.sig.returnType = (some .int)) (hk : meth.locks = false) (hK10 : ∀ (x2 : Int32) (x3 : Int32) (x4 : Int32) (x5 : Int32) (H : Heap) (locs : List Loc) (ls : Array Slot), K10 x2 x3 x4 x5 → Wd g layM 12 s.heap M H locs → lv_has ls 7 [(0, .ref (ga g 0)), (1, .int x1), (2, .int x2), (3, .int x3), (4, .int x4), (5, .int x5)] → W p l e (rmOf 2 47) s m args below meth c H locs 0 0 (MQ below (va_Qi (fun r M9 => M9 = M ∧ Q r) (PostW g layM 12) (gF g)) args s 0 0 (gF g)) (F0 m 10 ls [])) (h : w_X8_rule_93 x1 x2 x3 x5 t0 t1 M K10 Q) (w : Wd g layM 12 s.heap M H locs) (hl : lv_has ls 7 [(0, .ref (ga g 0)), (1, .int x1), (2, .int x2), (3, .int x3), (5, .int x5)]) : W p l e (rmOf 2 47) s m args below meth c H locs 0 0 (MQ below (va_Qi (fun r M9 => M9 = M ∧ Q r) (PostW g layM 12) (gF g)) args s 0 0 (gF g)) (F0 m 93 ls [.int t0, .int t1]) := by
  unfold w_X8_rule_93 at h
  refine lv_ior C.1.1 C.1.2.1 dX8_rule_93 ?_
  refine lv_istore (lv' := [(4, .int (t1 ||| t0)), (0, .ref (ga g 0)), (1, .int x1), (2, .int x2), (3, .int x3), (5, .int x5)]) C.1.1 C.1.2.1 dX8_rule_94 hl (by decide) rfl (fun ls hl => ?_)
  refine lv_iinc (v := x5 + 1) (lv' := [(5, .int (x5 + 1)), (4, .int (t1 ||| t0)), (0, .ref (ga g 0)), (1, .int x1), (2, .int x2), (3, .int x3)]) C.1.1 C.1.2.1 dX8_rule_96 hl (k := 5) rfl rfl (by decide) rfl (fun ls hl => ?_)
  refine lv_goto (tgt := 10) C.1.1 C.1.2.1 dX8_rule_99 (by decide) ?_
  exact hK10 _ _ _ _ _ _ _ h w (lv_sub hl [2, 3, 4, 5, 1, 0] rfl)
set_option maxHeartbeats 4000000 in
set_option maxRecDepth 100000 in
theorem v_X8_rule_92 {x1 : Int32} {x2 : Int32} {x3 : Int32} {x5 : Int32} {t0 : Int32} {M : Mem} {K10 : Int32 → Int32 → Int32 → Int32 → Prop} {Q : Int32 → Prop} {H : Heap} {locs : List Loc} {ls : Array Slot} (C : Cx p s m args c cX8_rule 7 RX8 g) (hr : meth.sig.returnType = (some .int)) (hk : meth.locks = false) (hK10 : ∀ (x2 : Int32) (x3 : Int32) (x4 : Int32) (x5 : Int32) (H : Heap) (locs : List Loc) (ls : Array Slot), K10 x2 x3 x4 x5 → Wd g layM 12 s.heap M H locs → lv_has ls 7 [(0, .ref (ga g 0)), (1, .int x1), (2, .int x2), (3, .int x3), (4, .int x4), (5, .int x5)] → W p l e (rmOf 2 47) s m args below meth c H locs 0 0 (MQ below (va_Qi (fun r M9 => M9 = M ∧ Q r) (PostW g layM 12) (gF g)) args s 0 0 (gF g)) (F0 m 10 ls [])) (h : w_X8_rule_92 x1 x2 x3 x5 t0 M K10 Q) (w : Wd g layM 12 s.heap M H locs) (hl : lv_has ls 7 [(0, .ref (ga g 0)), (1, .int x1), (2, .int x2), (3, .int x3), (5, .int x5)]) : W p l e (rmOf 2 47) s m args below meth c H locs 0 0 (MQ below (va_Qi (fun r M9 => M9 = M ∧ Q r) (PostW g layM 12) (gF g)) args s 0 0 (gF g)) (F0 m 92 ls [.int t0]) := by
  unfold w_X8_rule_92 at h
  refine lv_iconst (v := 0) C.1.1 C.1.2.1 dX8_rule_92 (by decide) ?_
  exact v_X8_rule_93 C hr hk  hK10 h w (lv_sub hl [0, 1, 2, 3, 4] rfl)
set_option maxHeartbeats 4000000 in
set_option maxRecDepth 100000 in
theorem v_X8_rule_10 {x1 : Int32} {x2 : Int32} {x3 : Int32} {x4 : Int32} {x5 : Int32} {M : Mem} {K10 : Int32 → Int32 → Int32 → Int32 → Prop} {Q : Int32 → Prop} {H : Heap} {locs : List Loc} {ls : Array Slot} (C : Cx p s m args c cX8_rule 7 RX8 g) (hr : meth.sig.returnType = (some .int)) (hk : meth.locks = false) (hK10 : ∀ (x2 : Int32) (x3 : Int32) (x4 : Int32) (x5 : Int32) (H : Heap) (locs : List Loc) (ls : Array Slot), K10 x2 x3 x4 x5 → Wd g layM 12 s.heap M H locs → lv_has ls 7 [(0, .ref (ga g 0)), (1, .int x1), (2, .int x2), (3, .int x3), (4, .int x4), (5, .int x5)] → W p l e (rmOf 2 47) s m args below meth c H locs 0 0 (MQ below (va_Qi (fun r M9 => M9 = M ∧ Q r) (PostW g layM 12) (gF g)) args s 0 0 (gF g)) (F0 m 10 ls [])) (h : w_X8_rule_10 x1 M Q K10 x2 x3 x4 x5) (w : Wd g layM 12 s.heap M H locs) (hl : lv_has ls 7 [(0, .ref (ga g 0)), (1, .int x1), (2, .int x2), (3, .int x3), (4, .int x4), (5, .int x5)]) : W p l e (rmOf 2 47) s m args below meth c H locs 0 0 (MQ below (va_Qi (fun r M9 => M9 = M ∧ Q r) (PostW g layM 12) (gF g)) args s 0 0 (gF g)) (F0 m 10 ls []) := by
  unfold w_X8_rule_10 at h
  refine lv_iload C.1.1 C.1.2.1 dX8_rule_10 (lv_at hl 5 rfl) ?_
  refine lv_aload_n C.1.1 C.1.2.1 dX8_rule_12 rfl (lv_at hl 0 rfl) ?_
  refine gi_RX8_116 C w hm_0 lm_0 rfl dX8_rule_13 ?_
  refine lv_icmp_ge (tgt := 102) C.1.1 C.1.2.1 dX8_rule_16 (by decide) (fun hc1 => ?_) (fun hc1 => ?_)
  · replace h := h.1 hc1
    exact v_X8_rule_102 C hr hk   h w (lv_sub hl [0, 1, 2, 3, 4] rfl)
  · replace h := h.2 hc1
    refine lv_aload_n C.1.1 C.1.2.1 dX8_rule_19 rfl (lv_at hl 0 rfl) ?_
    refine gr_RX8_7 C w hm_0 lm_0 rfl dX8_rule_20 ?_
    refine lv_bipush (v := 27) C.1.1 C.1.2.1 dX8_rule_23 (by decide) ?_
    refine lv_iload C.1.1 C.1.2.1 dX8_rule_25 (lv_at hl 5 rfl) ?_
    refine lv_iadd C.1.1 C.1.2.1 dX8_rule_27 ?_
    refine q_ial C w hm_1 lm_1 h.1 dX8_rule_28 ?_
    replace h := h.2
    have J : ∀ ls : Array Slot, lv_has ls 7 [(0, .ref (ga g 0)), (1, .int x1), (2, .int x2), (3, .int x3), (4, .int x4), (5, .int x5)] → W p l e (rmOf 2 47) s m args below meth c H locs 0 0 (MQ below (va_Qi (fun r M9 => M9 = M ∧ Q r) (PostW g layM 12) (gF g)) args s 0 0 (gF g)) (F0 m 37 ls [.int (if (M 1 (27 + x5).toNatClampNeg) ≤ 0 then (0 : Int32) else 1)]) := by
      intro ls hl
      refine lv_topi (fun v12 ev12 => ?_)
      replace h := h v12 ev12
      refine lv_istore (lv' := [(6, .int v12), (0, .ref (ga g 0)), (1, .int x1), (2, .int x2), (3, .int x3), (4, .int x4), (5, .int x5)]) C.1.1 C.1.2.1 dX8_rule_37 hl (by decide) rfl (fun ls hl => ?_)
      refine lv_iload_n C.1.1 C.1.2.1 dX8_rule_39 rfl (lv_at hl 3 rfl) ?_
      refine lv_aload_n C.1.1 C.1.2.1 dX8_rule_40 rfl (lv_at hl 1 rfl) ?_
      refine gr_RX8_7 C w hm_0 lm_0 rfl dX8_rule_41 ?_
      refine lv_bipush (v := 22) C.1.1 C.1.2.1 dX8_rule_44 (by decide) ?_
      refine lv_iload C.1.1 C.1.2.1 dX8_rule_46 (lv_at hl 6 rfl) ?_
      refine lv_iadd C.1.1 C.1.2.1 dX8_rule_48 ?_
      refine q_ial C w hm_1 lm_1 h.1 dX8_rule_49 ?_
      replace h := h.2
      refine lv_iadd C.1.1 C.1.2.1 dX8_rule_50 ?_
      refine lv_istore_n (lv' := [(2, .int (x2 + (M 1 (22 + x5).toNatClampNeg))), (6, .int v12), (0, .ref (ga g 0)), (1, .int x1), (3, .int x3), (4, .int x4), (5, .int x5)]) C.1.1 C.1.2.1 dX8_rule_51 rfl hl (by decide) rfl (fun ls hl => ?_)
      refine lv_iload_n C.1.1 C.1.2.1 dX8_rule_52 rfl (lv_at hl 4 rfl) ?_
      refine lv_iload C.1.1 C.1.2.1 dX8_rule_53 (lv_at hl 1 rfl) ?_
      have J : ∀ ls : Array Slot, lv_has ls 7 [(0, .ref (ga g 0)), (1, .int x1), (2, .int (x2 + (M 1 (22 + x5).toNatClampNeg))), (4, .int x4), (5, .int x5), (6, .int v12)] → W p l e (rmOf 2 47) s m args below meth c H locs 0 0 (MQ below (va_Qi (fun r M9 => M9 = M ∧ Q r) (PostW g layM 12) (gF g)) args s 0 0 (gF g)) (F0 m 66 ls [.int (if v12 = 0 then (0 : Int32) else (sl 1 x5)), .int x3]) := by
        intro ls hl
        refine lv_ior C.1.1 C.1.2.1 dX8_rule_66 ?_
        refine lv_istore_n (lv' := [(3, .int (x3 ||| (if v12 = 0 then (0 : Int32) else (sl 1 x5)))), (0, .ref (ga g 0)), (1, .int x1), (2, .int (x2 + (M 1 (22 + x5).toNatClampNeg))), (4, .int x4), (5, .int x5), (6, .int v12)]) C.1.1 C.1.2.1 dX8_rule_67 rfl hl (by decide) rfl (fun ls hl => ?_)
        refine lv_iload C.1.1 C.1.2.1 dX8_rule_68 (lv_at hl 4 rfl) ?_
        refine lv_iload C.1.1 C.1.2.1 dX8_rule_70 (lv_at hl 6 rfl) ?_
        refine lv_if_ne (tgt := 92) C.1.1 C.1.2.1 dX8_rule_72 (by decide) (fun hc14 => ?_) (fun hc14 => ?_)
        · replace h := h.2 hc14
          exact v_X8_rule_92 C hr hk  hK10 h w (lv_sub hl [1, 2, 3, 0, 5] rfl)
        · replace h := h.1 hc14
          refine lv_aload_n C.1.1 C.1.2.1 dX8_rule_75 rfl (lv_at hl 1 rfl) ?_
          refine lv_iconst (v := 0) C.1.1 C.1.2.1 dX8_rule_76 (by decide) ?_
          refine lv_iload C.1.1 C.1.2.1 dX8_rule_77 (lv_at hl 5 rfl) ?_
          refine q_pVi C w [.int 0, .int x5] (c_X8_isHeardOn  h) kv_X8_isHeardOn k_111 (rcv C w kc_X8 hm_0 lm_0) rfl hl.1 (Nat.le_of_ble_eq_true rfl) ⟨Nat.le_of_ble_eq_true rfl, Nat.le_of_ble_eq_true rfl⟩ dX8_rule_79 (fun r15 H locs h w => ?_)
          refine lv_if_eq (tgt := 92) C.1.1 C.1.2.1 dX8_rule_82 (by decide) (fun hc16 => ?_) (fun hc16 => ?_)
          · replace h := h.1 hc16
            exact v_X8_rule_92 C hr hk  hK10 h w (lv_sub hl [1, 2, 3, 0, 5] rfl)
          · replace h := h.2 hc16
            refine lv_iconst (v := 1) C.1.1 C.1.2.1 dX8_rule_85 (by decide) ?_
            refine lv_iload C.1.1 C.1.2.1 dX8_rule_86 (lv_at hl 5 rfl) ?_
            refine q_ishl C dX8_rule_88 ?_
            refine lv_goto (tgt := 93) C.1.1 C.1.2.1 dX8_rule_89 (by decide) ?_
            exact v_X8_rule_93 C hr hk  hK10 h w (lv_sub hl [1, 2, 3, 0, 5] rfl)
      refine lv_if_eq (tgt := 65) C.1.1 C.1.2.1 dX8_rule_55 (by decide) (fun hc13 => ?_) (fun hc13 => ?_)
      · refine lv_iconst (v := 0) C.1.1 C.1.2.1 dX8_rule_65 (by decide) ?_
        simp only [if_pos hc13] at J hl
        exact J ls (lv_sub hl [2, 3, 0, 5, 6, 1] rfl)
      · refine lv_iconst (v := 1) C.1.1 C.1.2.1 dX8_rule_58 (by decide) ?_
        refine lv_iload C.1.1 C.1.2.1 dX8_rule_59 (lv_at hl 6 rfl) ?_
        refine q_ishl C dX8_rule_61 ?_
        refine lv_goto (tgt := 66) C.1.1 C.1.2.1 dX8_rule_62 (by decide) ?_
        simp only [if_neg hc13] at J hl
        exact J ls (lv_sub hl [2, 3, 0, 5, 6, 1] rfl)
    refine lv_if_le (tgt := 36) C.1.1 C.1.2.1 dX8_rule_29 (by decide) (fun hc11 => ?_) (fun hc11 => ?_)
    · refine lv_iconst (v := 0) C.1.1 C.1.2.1 dX8_rule_36 (by decide) ?_
      simp only [if_pos hc11] at J hl
      exact J ls (lv_sub hl [0, 1, 2, 3, 4, 5] rfl)
    · refine lv_iconst (v := 1) C.1.1 C.1.2.1 dX8_rule_32 (by decide) ?_
      refine lv_goto (tgt := 37) C.1.1 C.1.2.1 dX8_rule_33 (by decide) ?_
      simp only [if_neg hc11] at J hl
      exact J ls (lv_sub hl [0, 1, 2, 3, 4, 5] rfl)
set_option maxHeartbeats 4000000 in
set_option maxRecDepth 100000 in
theorem l_X8_rule_10 {x1 : Int32} {M : Mem} {Q : Int32 → Prop} (C : Cx p s m args c cX8_rule 7 RX8 g) (hr : meth.sig.returnType = (some .int)) (hk : meth.locks = false)  : ∀ (n : Nat) (x2 : Int32) (x3 : Int32) (x4 : Int32) (x5 : Int32) (H : Heap) (locs : List Loc) (ls : Array Slot), fu4 (w_X8_rule_10 x1 M Q) n x2 x3 x4 x5 → Wd g layM 12 s.heap M H locs → lv_has ls 7 [(0, .ref (ga g 0)), (1, .int x1), (2, .int x2), (3, .int x3), (4, .int x4), (5, .int x5)] → W p l e (rmOf 2 47) s m args below meth c H locs 0 0 (MQ below (va_Qi (fun r M9 => M9 = M ∧ Q r) (PostW g layM 12) (gF g)) args s 0 0 (gF g)) (F0 m 10 ls []) := by
  intro n
  induction n with
  | zero => intro x2 x3 x4 x5 H locs ls h; exact h.elim
  | succ n ih => intro x2 x3 x4 x5 H locs ls h w hl; exact v_X8_rule_10 C hr hk   ih h w hl
set_option maxHeartbeats 4000000 in
set_option maxRecDepth 100000 in
theorem c_X8_rule {l : Launch} {g : Gt} {x1 : Int32} {M : Mem} {Q : Int32 → Prop} (h : w_X8_rule x1 M Q) : MI l yX8_rule cX8_rule 7 (some .int) 2 47 g layM 12 [.ref (ga g 0), .int x1] M (fun r M9 => M9 = M ∧ Q r) :=
  m_of (by decide +kernel) (Nat.le_of_ble_eq_true rfl) (fun p e s m args below meth c ls C hr hk w hl => by
    have C : Cx p s m args c cX8_rule 7 RX8 g := C
    have hl : lv_has ls 7 [(0, .ref (ga g 0)), (1, .int x1)] := hl
    unfold w_X8_rule at h
    obtain ⟨H, eH⟩ : ∃ H : Heap, H = s.heap := ⟨_, rfl⟩
    obtain ⟨locs, el⟩ : ∃ locs : List Loc, locs = [] := ⟨_, rfl⟩
    have w : Wd g layM 12 s.heap M H locs := by rw [eH, el]; exact w
    suffices hw : W p l e (rmOf 2 47) s m args below meth c H locs 0 0 (MQ below (va_Qi (fun r M9 => M9 = M ∧ Q r) (PostW g layM 12) (gF g)) args s 0 0 (gF g)) (F0 m 0 ls []) by rw [eH, el] at hw; exact hw
    clear eH el
    refine lv_iconst (v := 0) C.1.1 C.1.2.1 dX8_rule_0 (by decide) ?_
    refine lv_istore_n (lv' := [(2, .int 0), (0, .ref (ga g 0)), (1, .int x1)]) C.1.1 C.1.2.1 dX8_rule_1 rfl hl (by decide) rfl (fun ls hl => ?_)
    refine lv_iconst (v := 0) C.1.1 C.1.2.1 dX8_rule_2 (by decide) ?_
    refine lv_istore_n (lv' := [(3, .int 0), (2, .int 0), (0, .ref (ga g 0)), (1, .int x1)]) C.1.1 C.1.2.1 dX8_rule_3 rfl hl (by decide) rfl (fun ls hl => ?_)
    refine lv_iconst (v := 0) C.1.1 C.1.2.1 dX8_rule_4 (by decide) ?_
    refine lv_istore (lv' := [(4, .int 0), (3, .int 0), (2, .int 0), (0, .ref (ga g 0)), (1, .int x1)]) C.1.1 C.1.2.1 dX8_rule_5 hl (by decide) rfl (fun ls hl => ?_)
    refine lv_iconst (v := 0) C.1.1 C.1.2.1 dX8_rule_7 (by decide) ?_
    refine lv_istore (lv' := [(5, .int 0), (4, .int 0), (3, .int 0), (2, .int 0), (0, .ref (ga g 0)), (1, .int x1)]) C.1.1 C.1.2.1 dX8_rule_8 hl (by decide) rfl (fun ls hl => ?_)
    obtain ⟨n, h⟩ := h
    exact l_X8_rule_10 C hr hk   n _ _ _ _ _ _ _ h w (lv_sub hl [4, 5, 3, 2, 1, 0] rfl))
-- gate
set_option maxHeartbeats 4000000 in
set_option maxRecDepth 100000 in
theorem v_X8_gate_119 {x1 : Int32} {x2 : Int32} {x3 : Int32} {M : Mem} {Q : Int32 → Prop} {H : Heap} {locs : List Loc} {ls : Array Slot} (C : Cx p s m args c cX8_gate 5 RX8 g) (hr : meth.sig.returnType = (some .int)) (hk : meth.locks = false)  (h : w_X8_gate_119 x1 x2 x3 M Q) (w : Wd g layM 12 s.heap M H locs) (hl : lv_has ls 5 [(0, .ref (ga g 0)), (1, .int x1), (2, .int x2), (3, .int x3)]) : W p l e (rmOf 2 45) s m args below meth c H locs 0 0 (MQ below (va_Qi (fun r M9 => M9 = M ∧ Q r) (PostW g layM 12) (gF g)) args s 0 0 (gF g)) (F0 m 119 ls []) := by
  unfold w_X8_gate_119 at h
  refine lv_iload_n C.1.1 C.1.2.1 dX8_gate_119 rfl (lv_at hl 2 rfl) ?_
  refine lv_if_ne (tgt := 135) C.1.1 C.1.2.1 dX8_gate_120 (by decide) (fun hc7 => ?_) (fun hc7 => ?_)
  · replace h := h.2 hc7
    refine lv_iload_n C.1.1 C.1.2.1 dX8_gate_135 rfl (lv_at hl 2 rfl) ?_
    refine lv_iconst (v := 1) C.1.1 C.1.2.1 dX8_gate_136 (by decide) ?_
    refine lv_icmp_ne (tgt := 154) C.1.1 C.1.2.1 dX8_gate_137 (by decide) (fun hc8 => ?_) (fun hc8 => ?_)
    · replace h := h.2 hc8
      refine lv_iload_n C.1.1 C.1.2.1 dX8_gate_154 rfl (lv_at hl 3 rfl) ?_
      exact q_iret C hr hk w rfl ⟨rfl, h⟩ dX8_gate_155
    · replace h := h.1 hc8
      refine lv_aload_n C.1.1 C.1.2.1 dX8_gate_140 rfl (lv_at hl 0 rfl) ?_
      refine gr_RX8_7 C w hm_0 lm_0 rfl dX8_gate_141 ?_
      refine lv_bipush (v := 6) C.1.1 C.1.2.1 dX8_gate_144 (by decide) ?_
      refine lv_iload_n C.1.1 C.1.2.1 dX8_gate_146 rfl (lv_at hl 1 rfl) ?_
      refine lv_iadd C.1.1 C.1.2.1 dX8_gate_147 ?_
      refine q_ial C w hm_1 lm_1 h.1 dX8_gate_148 ?_
      replace h := h.2
      refine lv_iconst (v := 2) C.1.1 C.1.2.1 dX8_gate_149 (by decide) ?_
      refine lv_iadd C.1.1 C.1.2.1 dX8_gate_150 ?_
      refine lv_goto (tgt := 155) C.1.1 C.1.2.1 dX8_gate_151 (by decide) ?_
      exact q_iret C hr hk w rfl ⟨rfl, h⟩ dX8_gate_155
  · replace h := h.1 hc7
    refine lv_aload_n C.1.1 C.1.2.1 dX8_gate_123 rfl (lv_at hl 0 rfl) ?_
    refine gr_RX8_7 C w hm_0 lm_0 rfl dX8_gate_124 ?_
    refine lv_iload_n C.1.1 C.1.2.1 dX8_gate_127 rfl (lv_at hl 1 rfl) ?_
    refine q_ial C w hm_1 lm_1 h.1 dX8_gate_128 ?_
    replace h := h.2
    refine lv_bipush (v := 30) C.1.1 C.1.2.1 dX8_gate_129 (by decide) ?_
    refine lv_iadd C.1.1 C.1.2.1 dX8_gate_131 ?_
    refine lv_goto (tgt := 155) C.1.1 C.1.2.1 dX8_gate_132 (by decide) ?_
    exact q_iret C hr hk w rfl ⟨rfl, h⟩ dX8_gate_155
set_option maxHeartbeats 4000000 in
set_option maxRecDepth 100000 in
theorem v_X8_gate_74 {x1 : Int32} {x2 : Int32} {x3 : Int32} {x4 : Int32} {M : Mem} {K74 : Int32 → Int32 → Prop} {Q : Int32 → Prop} {H : Heap} {locs : List Loc} {ls : Array Slot} (C : Cx p s m args c cX8_gate 5 RX8 g) (hr : meth.sig.returnType = (some .int)) (hk : meth.locks = false) (hK74 : ∀ (x3 : Int32) (x4 : Int32) (H : Heap) (locs : List Loc) (ls : Array Slot), K74 x3 x4 → Wd g layM 12 s.heap M H locs → lv_has ls 5 [(0, .ref (ga g 0)), (1, .int x1), (2, .int x2), (3, .int x3), (4, .int x4)] → W p l e (rmOf 2 45) s m args below meth c H locs 0 0 (MQ below (va_Qi (fun r M9 => M9 = M ∧ Q r) (PostW g layM 12) (gF g)) args s 0 0 (gF g)) (F0 m 74 ls [])) (h : w_X8_gate_74 x1 x2 M Q K74 x3 x4) (w : Wd g layM 12 s.heap M H locs) (hl : lv_has ls 5 [(0, .ref (ga g 0)), (1, .int x1), (2, .int x2), (3, .int x3), (4, .int x4)]) : W p l e (rmOf 2 45) s m args below meth c H locs 0 0 (MQ below (va_Qi (fun r M9 => M9 = M ∧ Q r) (PostW g layM 12) (gF g)) args s 0 0 (gF g)) (F0 m 74 ls []) := by
  unfold w_X8_gate_74 at h
  refine lv_iload C.1.1 C.1.2.1 dX8_gate_74 (lv_at hl 4 rfl) ?_
  refine lv_aload_n C.1.1 C.1.2.1 dX8_gate_76 rfl (lv_at hl 0 rfl) ?_
  refine gr_RX8_7 C w hm_0 lm_0 rfl dX8_gate_77 ?_
  refine lv_bipush (v := 41) C.1.1 C.1.2.1 dX8_gate_80 (by decide) ?_
  refine q_ial C w hm_1 lm_1 h.1 dX8_gate_82 ?_
  replace h := h.2
  refine lv_icmp_ge (tgt := 119) C.1.1 C.1.2.1 dX8_gate_83 (by decide) (fun hc6 => ?_) (fun hc6 => ?_)
  · replace h := h.1 hc6
    exact v_X8_gate_119 C hr hk   h w (lv_sub hl [0, 1, 2, 3] rfl)
  · replace h := h.2 hc6
    refine lv_iload_n C.1.1 C.1.2.1 dX8_gate_86 rfl (lv_at hl 2 rfl) ?_
    refine lv_iconst (v := 3) C.1.1 C.1.2.1 dX8_gate_87 (by decide) ?_
    refine lv_icmp_ne (tgt := 119) C.1.1 C.1.2.1 dX8_gate_88 (by decide) (fun hc9 => ?_) (fun hc9 => ?_)
    · replace h := h.2 hc9
      exact v_X8_gate_119 C hr hk   h w (lv_sub hl [0, 1, 2, 3] rfl)
    · replace h := h.1 hc9
      refine lv_iload_n C.1.1 C.1.2.1 dX8_gate_91 rfl (lv_at hl 3 rfl) ?_
      refine lv_aload_n C.1.1 C.1.2.1 dX8_gate_92 rfl (lv_at hl 0 rfl) ?_
      refine lv_iconst (v := 0) C.1.1 C.1.2.1 dX8_gate_93 (by decide) ?_
      refine lv_iload C.1.1 C.1.2.1 dX8_gate_94 (lv_at hl 4 rfl) ?_
      refine q_pVi C w [.int 0, .int x4] (c_X8_atOn  h) kv_X8_atOn k_108 (rcv C w kc_X8 hm_0 lm_0) rfl hl.1 (Nat.le_of_ble_eq_true rfl) ⟨Nat.le_of_ble_eq_true rfl, Nat.le_of_ble_eq_true rfl⟩ dX8_gate_96 (fun r10 H locs h w => ?_)
      refine lv_iload_n C.1.1 C.1.2.1 dX8_gate_99 rfl (lv_at hl 1 rfl) ?_
      have J : ∀ ls : Array Slot, lv_has ls 5 [(0, .ref (ga g 0)), (1, .int x1), (2, .int x2), (4, .int x4)] → W p l e (rmOf 2 45) s m args below meth c H locs 0 0 (MQ below (va_Qi (fun r M9 => M9 = M ∧ Q r) (PostW g layM 12) (gF g)) args s 0 0 (gF g)) (F0 m 111 ls [.int (if r10 = x1 then (sl 1 x4) else 0), .int x3]) := by
        intro ls hl
        refine lv_ior C.1.1 C.1.2.1 dX8_gate_111 ?_
        refine lv_istore_n (lv' := [(3, .int (x3 ||| (if r10 = x1 then (sl 1 x4) else 0))), (0, .ref (ga g 0)), (1, .int x1), (2, .int x2), (4, .int x4)]) C.1.1 C.1.2.1 dX8_gate_112 rfl hl (by decide) rfl (fun ls hl => ?_)
        refine lv_iinc (v := x4 + 1) (lv' := [(4, .int (x4 + 1)), (3, .int (x3 ||| (if r10 = x1 then (sl 1 x4) else 0))), (0, .ref (ga g 0)), (1, .int x1), (2, .int x2)]) C.1.1 C.1.2.1 dX8_gate_113 hl (k := 4) rfl rfl (by decide) rfl (fun ls hl => ?_)
        refine lv_goto (tgt := 74) C.1.1 C.1.2.1 dX8_gate_116 (by decide) ?_
        exact hK74 _ _ _ _ _ h w (lv_sub hl [2, 3, 4, 1, 0] rfl)
      refine lv_icmp_ne (tgt := 110) C.1.1 C.1.2.1 dX8_gate_100 (by decide) (fun hc11 => ?_) (fun hc11 => ?_)
      · refine lv_iconst (v := 0) C.1.1 C.1.2.1 dX8_gate_110 (by decide) ?_
        simp only [if_neg hc11] at J hl
        exact J ls (lv_sub hl [0, 1, 2, 4] rfl)
      · refine lv_iconst (v := 1) C.1.1 C.1.2.1 dX8_gate_103 (by decide) ?_
        refine lv_iload C.1.1 C.1.2.1 dX8_gate_104 (lv_at hl 4 rfl) ?_
        refine q_ishl C dX8_gate_106 ?_
        refine lv_goto (tgt := 111) C.1.1 C.1.2.1 dX8_gate_107 (by decide) ?_
        simp only [if_pos hc11] at J hl
        exact J ls (lv_sub hl [0, 1, 2, 4] rfl)
set_option maxHeartbeats 4000000 in
set_option maxRecDepth 100000 in
theorem l_X8_gate_74 {x1 : Int32} {x2 : Int32} {M : Mem} {Q : Int32 → Prop} (C : Cx p s m args c cX8_gate 5 RX8 g) (hr : meth.sig.returnType = (some .int)) (hk : meth.locks = false)  : ∀ (n : Nat) (x3 : Int32) (x4 : Int32) (H : Heap) (locs : List Loc) (ls : Array Slot), fu2 (w_X8_gate_74 x1 x2 M Q) n x3 x4 → Wd g layM 12 s.heap M H locs → lv_has ls 5 [(0, .ref (ga g 0)), (1, .int x1), (2, .int x2), (3, .int x3), (4, .int x4)] → W p l e (rmOf 2 45) s m args below meth c H locs 0 0 (MQ below (va_Qi (fun r M9 => M9 = M ∧ Q r) (PostW g layM 12) (gF g)) args s 0 0 (gF g)) (F0 m 74 ls []) := by
  intro n
  induction n with
  | zero => intro x3 x4 H locs ls h; exact h.elim
  | succ n ih => intro x3 x4 H locs ls h w hl; exact v_X8_gate_74 C hr hk   ih h w hl
set_option maxHeartbeats 4000000 in
set_option maxRecDepth 100000 in
theorem v_X8_gate_71 {x1 : Int32} {x2 : Int32} {x3 : Int32} {M : Mem} {Q : Int32 → Prop} {H : Heap} {locs : List Loc} {ls : Array Slot} (C : Cx p s m args c cX8_gate 5 RX8 g) (hr : meth.sig.returnType = (some .int)) (hk : meth.locks = false)  (h : w_X8_gate_71 x1 x2 x3 M Q) (w : Wd g layM 12 s.heap M H locs) (hl : lv_has ls 5 [(0, .ref (ga g 0)), (1, .int x1), (2, .int x2), (3, .int x3)]) : W p l e (rmOf 2 45) s m args below meth c H locs 0 0 (MQ below (va_Qi (fun r M9 => M9 = M ∧ Q r) (PostW g layM 12) (gF g)) args s 0 0 (gF g)) (F0 m 71 ls []) := by
  unfold w_X8_gate_71 at h
  refine lv_iconst (v := 0) C.1.1 C.1.2.1 dX8_gate_71 (by decide) ?_
  refine lv_istore (lv' := [(4, .int 0), (0, .ref (ga g 0)), (1, .int x1), (2, .int x2), (3, .int x3)]) C.1.1 C.1.2.1 dX8_gate_72 hl (by decide) rfl (fun ls hl => ?_)
  obtain ⟨n, h⟩ := h
  exact l_X8_gate_74 C hr hk   n _ _ _ _ _ h w (lv_sub hl [1, 2, 3, 4, 0] rfl)
set_option maxHeartbeats 4000000 in
set_option maxRecDepth 100000 in
theorem v_X8_gate_26 {x1 : Int32} {x2 : Int32} {x3 : Int32} {x4 : Int32} {M : Mem} {K26 : Int32 → Int32 → Prop} {Q : Int32 → Prop} {H : Heap} {locs : List Loc} {ls : Array Slot} (C : Cx p s m args c cX8_gate 5 RX8 g) (hr : meth.sig.returnType = (some .int)) (hk : meth.locks = false) (hK26 : ∀ (x3 : Int32) (x4 : Int32) (H : Heap) (locs : List Loc) (ls : Array Slot), K26 x3 x4 → Wd g layM 12 s.heap M H locs → lv_has ls 5 [(0, .ref (ga g 0)), (1, .int x1), (2, .int x2), (3, .int x3), (4, .int x4)] → W p l e (rmOf 2 45) s m args below meth c H locs 0 0 (MQ below (va_Qi (fun r M9 => M9 = M ∧ Q r) (PostW g layM 12) (gF g)) args s 0 0 (gF g)) (F0 m 26 ls [])) (h : w_X8_gate_26 x1 x2 M Q K26 x3 x4) (w : Wd g layM 12 s.heap M H locs) (hl : lv_has ls 5 [(0, .ref (ga g 0)), (1, .int x1), (2, .int x2), (3, .int x3), (4, .int x4)]) : W p l e (rmOf 2 45) s m args below meth c H locs 0 0 (MQ below (va_Qi (fun r M9 => M9 = M ∧ Q r) (PostW g layM 12) (gF g)) args s 0 0 (gF g)) (F0 m 26 ls []) := by
  unfold w_X8_gate_26 at h
  refine lv_iload C.1.1 C.1.2.1 dX8_gate_26 (lv_at hl 4 rfl) ?_
  refine lv_aload_n C.1.1 C.1.2.1 dX8_gate_28 rfl (lv_at hl 0 rfl) ?_
  refine gi_RX8_116 C w hm_0 lm_0 rfl dX8_gate_29 ?_
  refine lv_icmp_ge (tgt := 71) C.1.1 C.1.2.1 dX8_gate_32 (by decide) (fun hc5 => ?_) (fun hc5 => ?_)
  · replace h := h.1 hc5
    exact v_X8_gate_71 C hr hk   h w (lv_sub hl [0, 1, 2, 3] rfl)
  · replace h := h.2 hc5
    refine lv_iload_n C.1.1 C.1.2.1 dX8_gate_35 rfl (lv_at hl 2 rfl) ?_
    refine lv_iconst (v := 2) C.1.1 C.1.2.1 dX8_gate_36 (by decide) ?_
    refine lv_icmp_ne (tgt := 71) C.1.1 C.1.2.1 dX8_gate_37 (by decide) (fun hc12 => ?_) (fun hc12 => ?_)
    · replace h := h.2 hc12
      exact v_X8_gate_71 C hr hk   h w (lv_sub hl [0, 1, 2, 3] rfl)
    · replace h := h.1 hc12
      refine lv_iload_n C.1.1 C.1.2.1 dX8_gate_40 rfl (lv_at hl 3 rfl) ?_
      refine lv_aload_n C.1.1 C.1.2.1 dX8_gate_41 rfl (lv_at hl 0 rfl) ?_
      refine gr_RX8_7 C w hm_0 lm_0 rfl dX8_gate_42 ?_
      refine lv_bipush (v := 17) C.1.1 C.1.2.1 dX8_gate_45 (by decide) ?_
      refine lv_iload C.1.1 C.1.2.1 dX8_gate_47 (lv_at hl 4 rfl) ?_
      refine lv_iadd C.1.1 C.1.2.1 dX8_gate_49 ?_
      refine q_ial C w hm_1 lm_1 h.1 dX8_gate_50 ?_
      replace h := h.2
      refine lv_iload_n C.1.1 C.1.2.1 dX8_gate_51 rfl (lv_at hl 1 rfl) ?_
      have J : ∀ ls : Array Slot, lv_has ls 5 [(0, .ref (ga g 0)), (1, .int x1), (2, .int x2), (4, .int x4)] → W p l e (rmOf 2 45) s m args below meth c H locs 0 0 (MQ below (va_Qi (fun r M9 => M9 = M ∧ Q r) (PostW g layM 12) (gF g)) args s 0 0 (gF g)) (F0 m 63 ls [.int (if (M 1 (17 + x4).toNatClampNeg) = x1 then (sl 1 x4) else 0), .int x3]) := by
        intro ls hl
        refine lv_ior C.1.1 C.1.2.1 dX8_gate_63 ?_
        refine lv_topi (fun v14 ev14 => ?_)
        replace h := h v14 ev14
        refine lv_istore_n (lv' := [(3, .int v14), (0, .ref (ga g 0)), (1, .int x1), (2, .int x2), (4, .int x4)]) C.1.1 C.1.2.1 dX8_gate_64 rfl hl (by decide) rfl (fun ls hl => ?_)
        refine lv_iinc (v := x4 + 1) (lv' := [(4, .int (x4 + 1)), (3, .int v14), (0, .ref (ga g 0)), (1, .int x1), (2, .int x2)]) C.1.1 C.1.2.1 dX8_gate_65 hl (k := 4) rfl rfl (by decide) rfl (fun ls hl => ?_)
        refine lv_goto (tgt := 26) C.1.1 C.1.2.1 dX8_gate_68 (by decide) ?_
        exact hK26 _ _ _ _ _ h w (lv_sub hl [2, 3, 4, 1, 0] rfl)
      refine lv_icmp_ne (tgt := 62) C.1.1 C.1.2.1 dX8_gate_52 (by decide) (fun hc13 => ?_) (fun hc13 => ?_)
      · refine lv_iconst (v := 0) C.1.1 C.1.2.1 dX8_gate_62 (by decide) ?_
        simp only [if_neg hc13] at J hl
        exact J ls (lv_sub hl [0, 1, 2, 4] rfl)
      · refine lv_iconst (v := 1) C.1.1 C.1.2.1 dX8_gate_55 (by decide) ?_
        refine lv_iload C.1.1 C.1.2.1 dX8_gate_56 (lv_at hl 4 rfl) ?_
        refine q_ishl C dX8_gate_58 ?_
        refine lv_goto (tgt := 63) C.1.1 C.1.2.1 dX8_gate_59 (by decide) ?_
        simp only [if_pos hc13] at J hl
        exact J ls (lv_sub hl [0, 1, 2, 4] rfl)
set_option maxHeartbeats 4000000 in
set_option maxRecDepth 100000 in
theorem l_X8_gate_26 {x1 : Int32} {x2 : Int32} {M : Mem} {Q : Int32 → Prop} (C : Cx p s m args c cX8_gate 5 RX8 g) (hr : meth.sig.returnType = (some .int)) (hk : meth.locks = false)  : ∀ (n : Nat) (x3 : Int32) (x4 : Int32) (H : Heap) (locs : List Loc) (ls : Array Slot), fu2 (w_X8_gate_26 x1 x2 M Q) n x3 x4 → Wd g layM 12 s.heap M H locs → lv_has ls 5 [(0, .ref (ga g 0)), (1, .int x1), (2, .int x2), (3, .int x3), (4, .int x4)] → W p l e (rmOf 2 45) s m args below meth c H locs 0 0 (MQ below (va_Qi (fun r M9 => M9 = M ∧ Q r) (PostW g layM 12) (gF g)) args s 0 0 (gF g)) (F0 m 26 ls []) := by
  intro n
  induction n with
  | zero => intro x3 x4 H locs ls h; exact h.elim
  | succ n ih => intro x3 x4 H locs ls h w hl; exact v_X8_gate_26 C hr hk   ih h w hl
set_option maxHeartbeats 4000000 in
set_option maxRecDepth 100000 in
theorem c_X8_gate {l : Launch} {g : Gt} {x1 : Int32} {x2 : Int32} {M : Mem} {Q : Int32 → Prop} (h : w_X8_gate x1 x2 M Q) : MI l yX8_gate cX8_gate 5 (some .int) 2 45 g layM 12 [.ref (ga g 0), .int x1, .int x2] M (fun r M9 => M9 = M ∧ Q r) :=
  m_of (by decide +kernel) (Nat.le_of_ble_eq_true rfl) (fun p e s m args below meth c ls C hr hk w hl => by
    have C : Cx p s m args c cX8_gate 5 RX8 g := C
    have hl : lv_has ls 5 [(0, .ref (ga g 0)), (1, .int x1), (2, .int x2)] := hl
    unfold w_X8_gate at h
    obtain ⟨H, eH⟩ : ∃ H : Heap, H = s.heap := ⟨_, rfl⟩
    obtain ⟨locs, el⟩ : ∃ locs : List Loc, locs = [] := ⟨_, rfl⟩
    have w : Wd g layM 12 s.heap M H locs := by rw [eH, el]; exact w
    suffices hw : W p l e (rmOf 2 45) s m args below meth c H locs 0 0 (MQ below (va_Qi (fun r M9 => M9 = M ∧ Q r) (PostW g layM 12) (gF g)) args s 0 0 (gF g)) (F0 m 0 ls []) by rw [eH, el] at hw; exact hw
    clear eH el
    refine lv_iload_n C.1.1 C.1.2.1 dX8_gate_0 rfl (lv_at hl 1 rfl) ?_
    refine q_pSi C w [.int x1] (c_X8_isGate  h) ks_X8_isGate k_114  rfl hl.1 (Nat.le_of_ble_eq_true rfl) ⟨Nat.le_of_ble_eq_true rfl, Nat.le_of_ble_eq_true rfl⟩ dX8_gate_1 (fun r1 H locs h w => ?_)
    refine lv_if_eq (tgt := 19) C.1.1 C.1.2.1 dX8_gate_4 (by decide) (fun hc2 => ?_) (fun hc2 => ?_)
    · replace h := h.1 hc2
      refine lv_iconst (v := (-1)) C.1.1 C.1.2.1 dX8_gate_19 (by decide) ?_
      exact q_iret C hr hk w rfl ⟨rfl, h⟩ dX8_gate_20
    · replace h := h.2 hc2
      refine lv_iload_n C.1.1 C.1.2.1 dX8_gate_7 rfl (lv_at hl 2 rfl) ?_
      refine lv_i2l C.1.1 C.1.2.1 dX8_gate_8 rfl ?_
      refine lv_lconst (v := 0) C.1.1 C.1.2.1 dX8_gate_9 (by decide) ?_
      refine q_ldc2 C k_115 dX8_gate_10 ?_
      refine q_pSi C w [.long (x2.toInt64), .long 0, .long 3] (c_X8_in  h) ks_X8_in k_95  rfl hl.1 (Nat.le_of_ble_eq_true rfl) ⟨Nat.le_of_ble_eq_true rfl, Nat.le_of_ble_eq_true rfl⟩ dX8_gate_13 (fun r3 H locs h w => ?_)
      refine lv_if_ne (tgt := 21) C.1.1 C.1.2.1 dX8_gate_16 (by decide) (fun hc4 => ?_) (fun hc4 => ?_)
      · replace h := h.2 hc4
        refine lv_iconst (v := 0) C.1.1 C.1.2.1 dX8_gate_21 (by decide) ?_
        refine lv_istore_n (lv' := [(3, .int 0), (0, .ref (ga g 0)), (1, .int x1), (2, .int x2)]) C.1.1 C.1.2.1 dX8_gate_22 rfl hl (by decide) rfl (fun ls hl => ?_)
        refine lv_iconst (v := 0) C.1.1 C.1.2.1 dX8_gate_23 (by decide) ?_
        refine lv_istore (lv' := [(4, .int 0), (3, .int 0), (0, .ref (ga g 0)), (1, .int x1), (2, .int x2)]) C.1.1 C.1.2.1 dX8_gate_24 hl (by decide) rfl (fun ls hl => ?_)
        obtain ⟨n, h⟩ := h
        exact l_X8_gate_26 C hr hk   n _ _ _ _ _ h w (lv_sub hl [2, 3, 4, 1, 0] rfl)
      · replace h := h.1 hc4
        refine lv_iconst (v := (-1)) C.1.1 C.1.2.1 dX8_gate_19 (by decide) ?_
        exact q_iret C hr hk w rfl ⟨rfl, h⟩ dX8_gate_20)
-- taker
set_option maxHeartbeats 4000000 in
set_option maxRecDepth 100000 in
theorem c_X8_taker {l : Launch} {g : Gt} {x1 : Int32} {x2 : Int32} {M : Mem} {Q : Int32 → Prop} (h : w_X8_taker x1 x2 M Q) : MI l yX8_taker cX8_taker 3 (some .int) 2 46 g layM 12 [.ref (ga g 0), .int x1, .int x2] M (fun r M9 => M9 = M ∧ Q r) :=
  m_of (by decide +kernel) (Nat.le_of_ble_eq_true rfl) (fun p e s m args below meth c ls C hr hk w hl => by
    have C : Cx p s m args c cX8_taker 3 RX8 g := C
    have hl : lv_has ls 3 [(0, .ref (ga g 0)), (1, .int x1), (2, .int x2)] := hl
    unfold w_X8_taker at h
    obtain ⟨H, eH⟩ : ∃ H : Heap, H = s.heap := ⟨_, rfl⟩
    obtain ⟨locs, el⟩ : ∃ locs : List Loc, locs = [] := ⟨_, rfl⟩
    have w : Wd g layM 12 s.heap M H locs := by rw [eH, el]; exact w
    suffices hw : W p l e (rmOf 2 46) s m args below meth c H locs 0 0 (MQ below (va_Qi (fun r M9 => M9 = M ∧ Q r) (PostW g layM 12) (gF g)) args s 0 0 (gF g)) (F0 m 0 ls []) by rw [eH, el] at hw; exact hw
    clear eH el
    refine lv_aload_n C.1.1 C.1.2.1 dX8_taker_0 rfl (lv_at hl 0 rfl) ?_
    refine lv_iload_n C.1.1 C.1.2.1 dX8_taker_1 rfl (lv_at hl 1 rfl) ?_
    refine q_pVi C w [.int x1] (c_X8_isTaker  h) kv_X8_isTaker k_116 (rcv C w kc_X8 hm_0 lm_0) rfl hl.1 (Nat.le_of_ble_eq_true rfl) ⟨Nat.le_of_ble_eq_true rfl, Nat.le_of_ble_eq_true rfl⟩ dX8_taker_2 (fun r1 H locs h w => ?_)
    refine lv_if_eq (tgt := 20) C.1.1 C.1.2.1 dX8_taker_5 (by decide) (fun hc2 => ?_) (fun hc2 => ?_)
    · replace h := h.1 hc2
      refine lv_iconst (v := (-1)) C.1.1 C.1.2.1 dX8_taker_20 (by decide) ?_
      exact q_iret C hr hk w rfl ⟨rfl, h⟩ dX8_taker_21
    · replace h := h.2 hc2
      refine lv_iload_n C.1.1 C.1.2.1 dX8_taker_8 rfl (lv_at hl 2 rfl) ?_
      refine lv_i2l C.1.1 C.1.2.1 dX8_taker_9 rfl ?_
      refine lv_lconst (v := 0) C.1.1 C.1.2.1 dX8_taker_10 (by decide) ?_
      refine q_ldc2 C k_104 dX8_taker_11 ?_
      refine q_pSi C w [.long (x2.toInt64), .long 0, .long 5] (c_X8_in  h) ks_X8_in k_95  rfl hl.1 (Nat.le_of_ble_eq_true rfl) ⟨Nat.le_of_ble_eq_true rfl, Nat.le_of_ble_eq_true rfl⟩ dX8_taker_14 (fun r3 H locs h w => ?_)
      refine lv_if_ne (tgt := 22) C.1.1 C.1.2.1 dX8_taker_17 (by decide) (fun hc4 => ?_) (fun hc4 => ?_)
      · replace h := h.2 hc4
        refine lv_iload_n C.1.1 C.1.2.1 dX8_taker_22 rfl (lv_at hl 2 rfl) ?_
        refine lv_iconst (v := 4) C.1.1 C.1.2.1 dX8_taker_23 (by decide) ?_
        refine lv_icmp_ge (tgt := 43) C.1.1 C.1.2.1 dX8_taker_24 (by decide) (fun hc5 => ?_) (fun hc5 => ?_)
        · replace h := h.1 hc5
          refine lv_iload_n C.1.1 C.1.2.1 dX8_taker_43 rfl (lv_at hl 2 rfl) ?_
          refine lv_iconst (v := 4) C.1.1 C.1.2.1 dX8_taker_44 (by decide) ?_
          refine lv_icmp_ne (tgt := 57) C.1.1 C.1.2.1 dX8_taker_45 (by decide) (fun hc6 => ?_) (fun hc6 => ?_)
          · replace h := h.2 hc6
            refine lv_aload_n C.1.1 C.1.2.1 dX8_taker_57 rfl (lv_at hl 0 rfl) ?_
            refine lv_iconst (v := 0) C.1.1 C.1.2.1 dX8_taker_58 (by decide) ?_
            refine lv_iload_n C.1.1 C.1.2.1 dX8_taker_59 rfl (lv_at hl 1 rfl) ?_
            refine q_pVi C w [.int 0, .int x1] (c_X8_noiseOn  h) kv_X8_noiseOn k_109 (rcv C w kc_X8 hm_0 lm_0) rfl hl.1 (Nat.le_of_ble_eq_true rfl) ⟨Nat.le_of_ble_eq_true rfl, Nat.le_of_ble_eq_true rfl⟩ dX8_taker_60 (fun r7 H locs h w => ?_)
            exact q_iret C hr hk w rfl ⟨rfl, h⟩ dX8_taker_63
          · replace h := h.1 hc6
            refine lv_aload_n C.1.1 C.1.2.1 dX8_taker_48 rfl (lv_at hl 0 rfl) ?_
            refine lv_iconst (v := 0) C.1.1 C.1.2.1 dX8_taker_49 (by decide) ?_
            refine lv_iload_n C.1.1 C.1.2.1 dX8_taker_50 rfl (lv_at hl 1 rfl) ?_
            refine q_pVi C w [.int 0, .int x1] (c_X8_takesOn  h) kv_X8_takesOn k_110 (rcv C w kc_X8 hm_0 lm_0) rfl hl.1 (Nat.le_of_ble_eq_true rfl) ⟨Nat.le_of_ble_eq_true rfl, Nat.le_of_ble_eq_true rfl⟩ dX8_taker_51 (fun r8 H locs h w => ?_)
            refine lv_goto (tgt := 63) C.1.1 C.1.2.1 dX8_taker_54 (by decide) ?_
            exact q_iret C hr hk w rfl ⟨rfl, h⟩ dX8_taker_63
        · replace h := h.2 hc5
          refine lv_aload_n C.1.1 C.1.2.1 dX8_taker_27 rfl (lv_at hl 0 rfl) ?_
          refine gr_RX8_7 C w hm_0 lm_0 rfl dX8_taker_28 ?_
          refine lv_bipush (v := 12) C.1.1 C.1.2.1 dX8_taker_31 (by decide) ?_
          refine lv_iconst (v := 5) C.1.1 C.1.2.1 dX8_taker_33 (by decide) ?_
          refine lv_iload_n C.1.1 C.1.2.1 dX8_taker_34 rfl (lv_at hl 2 rfl) ?_
          refine lv_imul C.1.1 C.1.2.1 dX8_taker_35 ?_
          refine lv_iadd C.1.1 C.1.2.1 dX8_taker_36 ?_
          refine lv_iload_n C.1.1 C.1.2.1 dX8_taker_37 rfl (lv_at hl 1 rfl) ?_
          refine lv_iadd C.1.1 C.1.2.1 dX8_taker_38 ?_
          refine q_ial C w hm_1 lm_1 h.1 dX8_taker_39 ?_
          replace h := h.2
          refine lv_goto (tgt := 63) C.1.1 C.1.2.1 dX8_taker_40 (by decide) ?_
          exact q_iret C hr hk w rfl ⟨rfl, h⟩ dX8_taker_63
      · replace h := h.1 hc4
        refine lv_iconst (v := (-1)) C.1.1 C.1.2.1 dX8_taker_20 (by decide) ?_
        exact q_iret C hr hk w rfl ⟨rfl, h⟩ dX8_taker_21)
-- keeper
set_option maxHeartbeats 4000000 in
set_option maxRecDepth 100000 in
theorem c_X8_keeper {l : Launch} {g : Gt} {x1 : Int32} {x2 : Int32} {M : Mem} {Q : Int32 → Prop} (h : w_X8_keeper x1 x2 M Q) : MI l yX8_keeper cX8_keeper 3 (some .int) 2 46 g layM 12 [.ref (ga g 0), .int x1, .int x2] M (fun r M9 => M9 = M ∧ Q r) :=
  m_of (by decide +kernel) (Nat.le_of_ble_eq_true rfl) (fun p e s m args below meth c ls C hr hk w hl => by
    have C : Cx p s m args c cX8_keeper 3 RX8 g := C
    have hl : lv_has ls 3 [(0, .ref (ga g 0)), (1, .int x1), (2, .int x2)] := hl
    unfold w_X8_keeper at h
    obtain ⟨H, eH⟩ : ∃ H : Heap, H = s.heap := ⟨_, rfl⟩
    obtain ⟨locs, el⟩ : ∃ locs : List Loc, locs = [] := ⟨_, rfl⟩
    have w : Wd g layM 12 s.heap M H locs := by rw [eH, el]; exact w
    suffices hw : W p l e (rmOf 2 46) s m args below meth c H locs 0 0 (MQ below (va_Qi (fun r M9 => M9 = M ∧ Q r) (PostW g layM 12) (gF g)) args s 0 0 (gF g)) (F0 m 0 ls []) by rw [eH, el] at hw; exact hw
    clear eH el
    refine lv_aload_n C.1.1 C.1.2.1 dX8_keeper_0 rfl (lv_at hl 0 rfl) ?_
    refine lv_iload_n C.1.1 C.1.2.1 dX8_keeper_1 rfl (lv_at hl 1 rfl) ?_
    refine q_pVi C w [.int x1] (c_X8_isKeeper  h) kv_X8_isKeeper k_117 (rcv C w kc_X8 hm_0 lm_0) rfl hl.1 (Nat.le_of_ble_eq_true rfl) ⟨Nat.le_of_ble_eq_true rfl, Nat.le_of_ble_eq_true rfl⟩ dX8_keeper_2 (fun r1 H locs h w => ?_)
    refine lv_if_eq (tgt := 20) C.1.1 C.1.2.1 dX8_keeper_5 (by decide) (fun hc2 => ?_) (fun hc2 => ?_)
    · replace h := h.1 hc2
      refine lv_iconst (v := (-1)) C.1.1 C.1.2.1 dX8_keeper_20 (by decide) ?_
      exact q_iret C hr hk w rfl ⟨rfl, h⟩ dX8_keeper_21
    · replace h := h.2 hc2
      refine lv_iload_n C.1.1 C.1.2.1 dX8_keeper_8 rfl (lv_at hl 2 rfl) ?_
      refine lv_i2l C.1.1 C.1.2.1 dX8_keeper_9 rfl ?_
      refine lv_lconst (v := 0) C.1.1 C.1.2.1 dX8_keeper_10 (by decide) ?_
      refine q_ldc2 C k_115 dX8_keeper_11 ?_
      refine q_pSi C w [.long (x2.toInt64), .long 0, .long 3] (c_X8_in  h) ks_X8_in k_95  rfl hl.1 (Nat.le_of_ble_eq_true rfl) ⟨Nat.le_of_ble_eq_true rfl, Nat.le_of_ble_eq_true rfl⟩ dX8_keeper_14 (fun r3 H locs h w => ?_)
      refine lv_if_ne (tgt := 22) C.1.1 C.1.2.1 dX8_keeper_17 (by decide) (fun hc4 => ?_) (fun hc4 => ?_)
      · replace h := h.2 hc4
        refine lv_iload_n C.1.1 C.1.2.1 dX8_keeper_22 rfl (lv_at hl 2 rfl) ?_
        refine lv_iconst (v := 3) C.1.1 C.1.2.1 dX8_keeper_23 (by decide) ?_
        refine lv_icmp_ge (tgt := 43) C.1.1 C.1.2.1 dX8_keeper_24 (by decide) (fun hc5 => ?_) (fun hc5 => ?_)
        · replace h := h.1 hc5
          refine lv_aload_n C.1.1 C.1.2.1 dX8_keeper_43 rfl (lv_at hl 0 rfl) ?_
          refine lv_iconst (v := 0) C.1.1 C.1.2.1 dX8_keeper_44 (by decide) ?_
          refine lv_iload_n C.1.1 C.1.2.1 dX8_keeper_45 rfl (lv_at hl 1 rfl) ?_
          refine q_pVi C w [.int 0, .int x1] (c_X8_atOn  h) kv_X8_atOn k_108 (rcv C w kc_X8 hm_0 lm_0) rfl hl.1 (Nat.le_of_ble_eq_true rfl) ⟨Nat.le_of_ble_eq_true rfl, Nat.le_of_ble_eq_true rfl⟩ dX8_keeper_46 (fun r6 H locs h w => ?_)
          exact q_iret C hr hk w rfl ⟨rfl, h⟩ dX8_keeper_49
        · replace h := h.2 hc5
          refine lv_aload_n C.1.1 C.1.2.1 dX8_keeper_27 rfl (lv_at hl 0 rfl) ?_
          refine gr_RX8_7 C w hm_0 lm_0 rfl dX8_keeper_28 ?_
          refine lv_bipush (v := 32) C.1.1 C.1.2.1 dX8_keeper_31 (by decide) ?_
          refine lv_iconst (v := 3) C.1.1 C.1.2.1 dX8_keeper_33 (by decide) ?_
          refine lv_iload_n C.1.1 C.1.2.1 dX8_keeper_34 rfl (lv_at hl 2 rfl) ?_
          refine lv_imul C.1.1 C.1.2.1 dX8_keeper_35 ?_
          refine lv_iadd C.1.1 C.1.2.1 dX8_keeper_36 ?_
          refine lv_iload_n C.1.1 C.1.2.1 dX8_keeper_37 rfl (lv_at hl 1 rfl) ?_
          refine lv_iadd C.1.1 C.1.2.1 dX8_keeper_38 ?_
          refine q_ial C w hm_1 lm_1 h.1 dX8_keeper_39 ?_
          replace h := h.2
          refine lv_goto (tgt := 49) C.1.1 C.1.2.1 dX8_keeper_40 (by decide) ?_
          exact q_iret C hr hk w rfl ⟨rfl, h⟩ dX8_keeper_49
      · replace h := h.1 hc4
        refine lv_iconst (v := (-1)) C.1.1 C.1.2.1 dX8_keeper_20 (by decide) ?_
        exact q_iret C hr hk w rfl ⟨rfl, h⟩ dX8_keeper_21)
-- puts
set_option maxHeartbeats 4000000 in
set_option maxRecDepth 100000 in
theorem c_X8_puts {l : Launch} {g : Gt} {x1 : Int32} {x2 : Int32} {x3 : Int32} {x4 : Int32} {M : Mem} {Q : Int32 → Mem → Prop} (h : w_X8_puts x1 x2 x3 x4 M Q) : MI l yX8_puts cX8_puts 6 (some .int) 0 0 g layM 12 [.ref (ga g 0), .int x1, .int x2, .int x3, .int x4] M Q :=
  m_of (by decide +kernel) (Nat.le_of_ble_eq_true rfl) (fun p e s m args below meth c ls C hr hk w hl => by
    have C : Cx p s m args c cX8_puts 6 RX8 g := C
    have hl : lv_has ls 6 [(0, .ref (ga g 0)), (1, .int x1), (2, .int x2), (3, .int x3), (4, .int x4)] := hl
    unfold w_X8_puts at h
    obtain ⟨H, eH⟩ : ∃ H : Heap, H = s.heap := ⟨_, rfl⟩
    obtain ⟨locs, el⟩ : ∃ locs : List Loc, locs = [] := ⟨_, rfl⟩
    have w : Wd g layM 12 s.heap M H locs := by rw [eH, el]; exact w
    suffices hw : W p l e (rmOf 0 0) s m args below meth c H locs 0 0 (MQ below (va_Qi Q (PostW g layM 12) (gF g)) args s 0 0 (gF g)) (F0 m 0 ls []) by rw [eH, el] at hw; exact hw
    clear eH el
    refine lv_iload_n C.1.1 C.1.2.1 dX8_puts_0 rfl (lv_at hl 1 rfl) ?_
    refine lv_if_ne (tgt := 6) C.1.1 C.1.2.1 dX8_puts_1 (by decide) (fun hc1 => ?_) (fun hc1 => ?_)
    · replace h := h.2 hc1
      refine lv_aload_n C.1.1 C.1.2.1 dX8_puts_6 rfl (lv_at hl 0 rfl) ?_
      refine gr_RX8_7 C w hm_0 lm_0 rfl dX8_puts_7 ?_
      refine lv_iload_n C.1.1 C.1.2.1 dX8_puts_10 rfl (lv_at hl 2 rfl) ?_
      refine q_ial C w hm_1 lm_1 h.1 dX8_puts_11 ?_
      replace h := h.2
      refine lv_iload C.1.1 C.1.2.1 dX8_puts_12 (lv_at hl 4 rfl) ?_
      refine lv_iadd C.1.1 C.1.2.1 dX8_puts_14 ?_
      refine lv_istore (lv' := [(5, .int ((M 1 x2.toNatClampNeg) + x4)), (0, .ref (ga g 0)), (1, .int x1), (2, .int x2), (3, .int x3), (4, .int x4)]) C.1.1 C.1.2.1 dX8_puts_15 hl (by decide) rfl (fun ls hl => ?_)
      refine lv_aload_n C.1.1 C.1.2.1 dX8_puts_17 rfl (lv_at hl 1 rfl) ?_
      refine gr_RX8_7 C w hm_0 lm_0 rfl dX8_puts_18 ?_
      refine lv_iload_n C.1.1 C.1.2.1 dX8_puts_21 rfl (lv_at hl 3 rfl) ?_
      refine lv_iload_n C.1.1 C.1.2.1 dX8_puts_22 rfl (lv_at hl 4 rfl) ?_
      refine lv_iload C.1.1 C.1.2.1 dX8_puts_23 (lv_at hl 5 rfl) ?_
      refine lv_isub C.1.1 C.1.2.1 dX8_puts_25 ?_
      refine q_ias C w hm_1 lm_1 h.1 dX8_puts_26 (fun M2 H locs eM2 w => ?_)
      replace h := h.2 M2 eM2
      refine lv_iload C.1.1 C.1.2.1 dX8_puts_27 (lv_at hl 0 rfl) ?_
      exact q_iret C hr hk w rfl h dX8_puts_29
    · replace h := h.1 hc1
      refine lv_iconst (v := (-1)) C.1.1 C.1.2.1 dX8_puts_4 (by decide) ?_
      exact q_iret C hr hk w rfl h dX8_puts_5)
-- alters
set_option maxHeartbeats 4000000 in
set_option maxRecDepth 100000 in
theorem v_X8_alters_50 {x1 : Int32} {x2 : Int32} {x3 : Int32} {t0 : Int32} {M : Mem} {Q : Int32 → Mem → Prop} {H : Heap} {locs : List Loc} {ls : Array Slot} (C : Cx p s m args c cX8_alters 5 RX8 g) (hr : meth.sig.returnType = (some .int)) (hk : meth.locks = false)  (h : w_X8_alters_50 x1 x2 x3 t0 M Q) (w : Wd g layM 12 s.heap M H locs) (hl : lv_has ls 5 [(0, .ref (ga g 0)), (1, .int x1), (2, .int x2), (3, .int x3)]) : W p l e (rmOf 2 46) s m args below meth c H locs 0 0 (MQ below (va_Qi Q (PostW g layM 12) (gF g)) args s 0 0 (gF g)) (F0 m 50 ls [.int t0]) := by
  unfold w_X8_alters_50 at h
  refine lv_istore (lv' := [(4, .int t0), (0, .ref (ga g 0)), (1, .int x1), (2, .int x2), (3, .int x3)]) C.1.1 C.1.2.1 dX8_alters_50 hl (by decide) rfl (fun ls hl => ?_)
  refine lv_aload_n C.1.1 C.1.2.1 dX8_alters_52 rfl (lv_at hl 1 rfl) ?_
  refine lv_aload_n C.1.1 C.1.2.1 dX8_alters_53 rfl (lv_at hl 1 rfl) ?_
  refine lv_iload_n C.1.1 C.1.2.1 dX8_alters_54 rfl (lv_at hl 2 rfl) ?_
  refine q_pVi C w [.int x1] (c_X8_isTaker  h) kv_X8_isTaker k_116 (rcv C w kc_X8 hm_0 lm_0) rfl hl.1 (Nat.le_of_ble_eq_true rfl) ⟨Nat.le_of_ble_eq_true rfl, Nat.le_of_ble_eq_true rfl⟩ dX8_alters_55 (fun r4 H locs h w => ?_)
  have J : ∀ ls : Array Slot, lv_has ls 5 [(1, .int x1), (2, .int x2), (3, .int x3)] → W p l e (rmOf 2 46) s m args below meth c H locs 0 0 (MQ below (va_Qi Q (PostW g layM 12) (gF g)) args s 0 0 (gF g)) (F0 m 71 ls [.int (if r4 = 0 then (0 : Int32) else (if t0 = 0 then (0 : Int32) else 1)), .ref (ga g 0)]) := by
    intro ls hl
    refine lv_bipush (v := 12) C.1.1 C.1.2.1 dX8_alters_71 (by decide) ?_
    refine lv_iconst (v := 5) C.1.1 C.1.2.1 dX8_alters_73 (by decide) ?_
    refine lv_iload_n C.1.1 C.1.2.1 dX8_alters_74 rfl (lv_at hl 1 rfl) ?_
    refine lv_imul C.1.1 C.1.2.1 dX8_alters_75 ?_
    refine lv_iadd C.1.1 C.1.2.1 dX8_alters_76 ?_
    refine lv_iload_n C.1.1 C.1.2.1 dX8_alters_77 rfl (lv_at hl 0 rfl) ?_
    refine lv_iadd C.1.1 C.1.2.1 dX8_alters_78 ?_
    refine lv_iload_n C.1.1 C.1.2.1 dX8_alters_79 rfl (lv_at hl 2 rfl) ?_
    refine lv_iconst (v := 0) C.1.1 C.1.2.1 dX8_alters_80 (by decide) ?_
    refine q_cVi C w [.int (if r4 = 0 then (0 : Int32) else (if t0 = 0 then (0 : Int32) else 1)), .int ((12 + (5 * x2)) + x1), .int x3, .int 0] (c_X8_puts  h) kv_X8_puts k_118 (rcv C w kc_X8 hm_0 lm_0) rfl hl.1 (Nat.le_of_ble_eq_true rfl) ⟨Nat.le_of_ble_eq_true rfl, Nat.le_of_ble_eq_true rfl⟩ dX8_alters_81 (fun r7 M8 H locs h w => ?_)
    exact q_iret C hr hk w rfl h dX8_alters_84
  refine lv_if_eq (tgt := 70) C.1.1 C.1.2.1 dX8_alters_58 (by decide) (fun hc5 => ?_) (fun hc5 => ?_)
  · refine lv_iconst (v := 0) C.1.1 C.1.2.1 dX8_alters_70 (by decide) ?_
    simp only [if_pos hc5] at J hl
    exact J ls (lv_sub hl [2, 3, 4] rfl)
  · refine lv_iload C.1.1 C.1.2.1 dX8_alters_61 (lv_at hl 0 rfl) ?_
    refine lv_if_eq (tgt := 70) C.1.1 C.1.2.1 dX8_alters_63 (by decide) (fun hc6 => ?_) (fun hc6 => ?_)
    · refine lv_iconst (v := 0) C.1.1 C.1.2.1 dX8_alters_70 (by decide) ?_
      simp only [if_neg hc5, if_pos hc6] at J hl
      exact J ls (lv_sub hl [2, 3, 4] rfl)
    · refine lv_iconst (v := 1) C.1.1 C.1.2.1 dX8_alters_66 (by decide) ?_
      refine lv_goto (tgt := 71) C.1.1 C.1.2.1 dX8_alters_67 (by decide) ?_
      simp only [if_neg hc5, if_neg hc6] at J hl
      exact J ls (lv_sub hl [2, 3, 4] rfl)
set_option maxHeartbeats 4000000 in
set_option maxRecDepth 100000 in
theorem v_X8_alters_49 {x1 : Int32} {x2 : Int32} {x3 : Int32} {M : Mem} {Q : Int32 → Mem → Prop} {H : Heap} {locs : List Loc} {ls : Array Slot} (C : Cx p s m args c cX8_alters 5 RX8 g) (hr : meth.sig.returnType = (some .int)) (hk : meth.locks = false)  (h : w_X8_alters_49 x1 x2 x3 M Q) (w : Wd g layM 12 s.heap M H locs) (hl : lv_has ls 5 [(0, .ref (ga g 0)), (1, .int x1), (2, .int x2), (3, .int x3)]) : W p l e (rmOf 2 46) s m args below meth c H locs 0 0 (MQ below (va_Qi Q (PostW g layM 12) (gF g)) args s 0 0 (gF g)) (F0 m 49 ls []) := by
  unfold w_X8_alters_49 at h
  refine lv_iconst (v := 0) C.1.1 C.1.2.1 dX8_alters_49 (by decide) ?_
  exact v_X8_alters_50 C hr hk   h w (lv_sub hl [0, 1, 2, 3] rfl)
set_option maxHeartbeats 4000000 in
set_option maxRecDepth 100000 in
theorem c_X8_alters {l : Launch} {g : Gt} {x1 : Int32} {x2 : Int32} {x3 : Int32} {M : Mem} {Q : Int32 → Mem → Prop} (h : w_X8_alters x1 x2 x3 M Q) : MI l yX8_alters cX8_alters 5 (some .int) 2 46 g layM 12 [.ref (ga g 0), .int x1, .int x2, .int x3] M Q :=
  m_of (by decide +kernel) (Nat.le_of_ble_eq_true rfl) (fun p e s m args below meth c ls C hr hk w hl => by
    have C : Cx p s m args c cX8_alters 5 RX8 g := C
    have hl : lv_has ls 5 [(0, .ref (ga g 0)), (1, .int x1), (2, .int x2), (3, .int x3)] := hl
    unfold w_X8_alters at h
    obtain ⟨H, eH⟩ : ∃ H : Heap, H = s.heap := ⟨_, rfl⟩
    obtain ⟨locs, el⟩ : ∃ locs : List Loc, locs = [] := ⟨_, rfl⟩
    have w : Wd g layM 12 s.heap M H locs := by rw [eH, el]; exact w
    suffices hw : W p l e (rmOf 2 46) s m args below meth c H locs 0 0 (MQ below (va_Qi Q (PostW g layM 12) (gF g)) args s 0 0 (gF g)) (F0 m 0 ls []) by rw [eH, el] at hw; exact hw
    clear eH el
    refine lv_iload_n C.1.1 C.1.2.1 dX8_alters_0 rfl (lv_at hl 2 rfl) ?_
    refine lv_if_ne (tgt := 16) C.1.1 C.1.2.1 dX8_alters_1 (by decide) (fun hc1 => ?_) (fun hc1 => ?_)
    · replace h := h.2 hc1
      refine lv_iload_n C.1.1 C.1.2.1 dX8_alters_16 rfl (lv_at hl 2 rfl) ?_
      refine lv_iconst (v := 1) C.1.1 C.1.2.1 dX8_alters_17 (by decide) ?_
      refine lv_icmp_ne (tgt := 28) C.1.1 C.1.2.1 dX8_alters_18 (by decide) (fun hc2 => ?_) (fun hc2 => ?_)
      · replace h := h.2 hc2
        refine lv_iload_n C.1.1 C.1.2.1 dX8_alters_28 rfl (lv_at hl 2 rfl) ?_
        refine lv_iconst (v := 2) C.1.1 C.1.2.1 dX8_alters_29 (by decide) ?_
        refine lv_icmp_ne (tgt := 49) C.1.1 C.1.2.1 dX8_alters_30 (by decide) (fun hc3 => ?_) (fun hc3 => ?_)
        · replace h := h.2 hc3
          exact v_X8_alters_49 C hr hk   h w (lv_sub hl [0, 1, 2, 3] rfl)
        · replace h := h.1 hc3
          refine lv_iload_n C.1.1 C.1.2.1 dX8_alters_33 rfl (lv_at hl 3 rfl) ?_
          refine lv_i2l C.1.1 C.1.2.1 dX8_alters_34 rfl ?_
          refine lv_lconst (v := 0) C.1.1 C.1.2.1 dX8_alters_35 (by decide) ?_
          refine q_ldc2 C k_119 dX8_alters_36 ?_
          refine q_pSi C w [.long (x3.toInt64), .long 0, .long 999] (c_X8_in  h) ks_X8_in k_95  rfl hl.1 (Nat.le_of_ble_eq_true rfl) ⟨Nat.le_of_ble_eq_true rfl, Nat.le_of_ble_eq_true rfl⟩ dX8_alters_39 (fun r9 H locs h w => ?_)
          refine lv_if_eq (tgt := 49) C.1.1 C.1.2.1 dX8_alters_42 (by decide) (fun hc10 => ?_) (fun hc10 => ?_)
          · replace h := h.1 hc10
            exact v_X8_alters_49 C hr hk   h w (lv_sub hl [0, 1, 2, 3] rfl)
          · replace h := h.2 hc10
            refine lv_iconst (v := 1) C.1.1 C.1.2.1 dX8_alters_45 (by decide) ?_
            refine lv_goto (tgt := 50) C.1.1 C.1.2.1 dX8_alters_46 (by decide) ?_
            exact v_X8_alters_50 C hr hk   h w (lv_sub hl [0, 1, 2, 3] rfl)
      · replace h := h.1 hc2
        refine lv_iload_n C.1.1 C.1.2.1 dX8_alters_21 rfl (lv_at hl 3 rfl) ?_
        refine q_pSi C w [.int x3] (c_X8_isGate  h) ks_X8_isGate k_114  rfl hl.1 (Nat.le_of_ble_eq_true rfl) ⟨Nat.le_of_ble_eq_true rfl, Nat.le_of_ble_eq_true rfl⟩ dX8_alters_22 (fun r11 H locs h w => ?_)
        refine lv_goto (tgt := 50) C.1.1 C.1.2.1 dX8_alters_25 (by decide) ?_
        exact v_X8_alters_50 C hr hk   h w (lv_sub hl [0, 1, 2, 3] rfl)
    · replace h := h.1 hc1
      refine lv_iload_n C.1.1 C.1.2.1 dX8_alters_4 rfl (lv_at hl 3 rfl) ?_
      refine lv_i2l C.1.1 C.1.2.1 dX8_alters_5 rfl ?_
      refine lv_lconst (v := 0) C.1.1 C.1.2.1 dX8_alters_6 (by decide) ?_
      refine q_ldc2 C k_115 dX8_alters_7 ?_
      refine q_pSi C w [.long (x3.toInt64), .long 0, .long 3] (c_X8_in  h) ks_X8_in k_95  rfl hl.1 (Nat.le_of_ble_eq_true rfl) ⟨Nat.le_of_ble_eq_true rfl, Nat.le_of_ble_eq_true rfl⟩ dX8_alters_10 (fun r12 H locs h w => ?_)
      refine lv_goto (tgt := 50) C.1.1 C.1.2.1 dX8_alters_13 (by decide) ?_
      exact v_X8_alters_50 C hr hk   h w (lv_sub hl [0, 1, 2, 3] rfl))
-- alter
set_option maxHeartbeats 4000000 in
set_option maxRecDepth 100000 in
theorem c_X8_alter {l : Launch} {g : Gt} {x1 : Int32} {x2 : Int32} {x3 : Int32} {M : Mem} {Q : Int32 → Mem → Prop} (h : w_X8_alter x1 x2 x3 M Q) : MI l yX8_alter cX8_alter 4 (some .int) 3 70 g layM 12 [.ref (ga g 0), .int x1, .int x2, .int x3] M Q :=
  m_of (by decide +kernel) (Nat.le_of_ble_eq_true rfl) (fun p e s m args below meth c ls C hr hk w hl => by
    have C : Cx p s m args c cX8_alter 4 RX8 g := C
    have hl : lv_has ls 4 [(0, .ref (ga g 0)), (1, .int x1), (2, .int x2), (3, .int x3)] := hl
    unfold w_X8_alter at h
    obtain ⟨H, eH⟩ : ∃ H : Heap, H = s.heap := ⟨_, rfl⟩
    obtain ⟨locs, el⟩ : ∃ locs : List Loc, locs = [] := ⟨_, rfl⟩
    have w : Wd g layM 12 s.heap M H locs := by rw [eH, el]; exact w
    suffices hw : W p l e (rmOf 3 70) s m args below meth c H locs 0 0 (MQ below (va_Qi Q (PostW g layM 12) (gF g)) args s 0 0 (gF g)) (F0 m 0 ls []) by rw [eH, el] at hw; exact hw
    clear eH el
    refine lv_aload_n C.1.1 C.1.2.1 dX8_alter_0 rfl (lv_at hl 0 rfl) ?_
    refine lv_iload_n C.1.1 C.1.2.1 dX8_alter_1 rfl (lv_at hl 1 rfl) ?_
    refine lv_iload_n C.1.1 C.1.2.1 dX8_alter_2 rfl (lv_at hl 2 rfl) ?_
    refine lv_iload_n C.1.1 C.1.2.1 dX8_alter_3 rfl (lv_at hl 3 rfl) ?_
    refine q_cVi C w [.int x1, .int x2, .int x3] (c_X8_alters  h) kv_X8_alters k_120 (rcv C w kc_X8 hm_0 lm_0) rfl hl.1 (Nat.le_of_ble_eq_true rfl) ⟨Nat.le_of_ble_eq_true rfl, Nat.le_of_ble_eq_true rfl⟩ dX8_alter_4 (fun r1 M2 H locs h w => ?_)
    exact q_iret C hr hk w rfl h dX8_alter_7)
-- order
set_option maxHeartbeats 4000000 in
set_option maxRecDepth 100000 in
theorem v_X8_order_39 {x1 : Int32} {x2 : Int32} {x3 : Int32} {t0 : Int32} {M : Mem} {Q : Int32 → Mem → Prop} {H : Heap} {locs : List Loc} {ls : Array Slot} (C : Cx p s m args c cX8_order 5 RX8 g) (hr : meth.sig.returnType = (some .int)) (hk : meth.locks = false)  (h : w_X8_order_39 x1 x2 x3 t0 M Q) (w : Wd g layM 12 s.heap M H locs) (hl : lv_has ls 5 [(0, .ref (ga g 0)), (1, .int x1), (2, .int x2), (3, .int x3)]) : W p l e (rmOf 2 46) s m args below meth c H locs 0 0 (MQ below (va_Qi Q (PostW g layM 12) (gF g)) args s 0 0 (gF g)) (F0 m 39 ls [.int t0]) := by
  unfold w_X8_order_39 at h
  refine lv_istore (lv' := [(4, .int t0), (0, .ref (ga g 0)), (1, .int x1), (2, .int x2), (3, .int x3)]) C.1.1 C.1.2.1 dX8_order_39 hl (by decide) rfl (fun ls hl => ?_)
  refine lv_aload_n C.1.1 C.1.2.1 dX8_order_41 rfl (lv_at hl 1 rfl) ?_
  refine lv_aload_n C.1.1 C.1.2.1 dX8_order_42 rfl (lv_at hl 1 rfl) ?_
  refine lv_iload_n C.1.1 C.1.2.1 dX8_order_43 rfl (lv_at hl 2 rfl) ?_
  refine q_pVi C w [.int x1] (c_X8_isKeeper  h) kv_X8_isKeeper k_117 (rcv C w kc_X8 hm_0 lm_0) rfl hl.1 (Nat.le_of_ble_eq_true rfl) ⟨Nat.le_of_ble_eq_true rfl, Nat.le_of_ble_eq_true rfl⟩ dX8_order_44 (fun r4 H locs h w => ?_)
  have J : ∀ ls : Array Slot, lv_has ls 5 [(1, .int x1), (2, .int x2), (3, .int x3)] → W p l e (rmOf 2 46) s m args below meth c H locs 0 0 (MQ below (va_Qi Q (PostW g layM 12) (gF g)) args s 0 0 (gF g)) (F0 m 60 ls [.int (if r4 = 0 then (0 : Int32) else (if t0 = 0 then (0 : Int32) else 1)), .ref (ga g 0)]) := by
    intro ls hl
    refine lv_bipush (v := 32) C.1.1 C.1.2.1 dX8_order_60 (by decide) ?_
    refine lv_iconst (v := 3) C.1.1 C.1.2.1 dX8_order_62 (by decide) ?_
    refine lv_iload_n C.1.1 C.1.2.1 dX8_order_63 rfl (lv_at hl 1 rfl) ?_
    refine lv_imul C.1.1 C.1.2.1 dX8_order_64 ?_
    refine lv_iadd C.1.1 C.1.2.1 dX8_order_65 ?_
    refine lv_iload_n C.1.1 C.1.2.1 dX8_order_66 rfl (lv_at hl 0 rfl) ?_
    refine lv_iadd C.1.1 C.1.2.1 dX8_order_67 ?_
    refine lv_iload_n C.1.1 C.1.2.1 dX8_order_68 rfl (lv_at hl 2 rfl) ?_
    refine lv_iconst (v := 0) C.1.1 C.1.2.1 dX8_order_69 (by decide) ?_
    refine q_cVi C w [.int (if r4 = 0 then (0 : Int32) else (if t0 = 0 then (0 : Int32) else 1)), .int ((32 + (3 * x2)) + x1), .int x3, .int 0] (c_X8_puts  h) kv_X8_puts k_118 (rcv C w kc_X8 hm_0 lm_0) rfl hl.1 (Nat.le_of_ble_eq_true rfl) ⟨Nat.le_of_ble_eq_true rfl, Nat.le_of_ble_eq_true rfl⟩ dX8_order_70 (fun r7 M8 H locs h w => ?_)
    exact q_iret C hr hk w rfl h dX8_order_73
  refine lv_if_eq (tgt := 59) C.1.1 C.1.2.1 dX8_order_47 (by decide) (fun hc5 => ?_) (fun hc5 => ?_)
  · refine lv_iconst (v := 0) C.1.1 C.1.2.1 dX8_order_59 (by decide) ?_
    simp only [if_pos hc5] at J hl
    exact J ls (lv_sub hl [2, 3, 4] rfl)
  · refine lv_iload C.1.1 C.1.2.1 dX8_order_50 (lv_at hl 0 rfl) ?_
    refine lv_if_eq (tgt := 59) C.1.1 C.1.2.1 dX8_order_52 (by decide) (fun hc6 => ?_) (fun hc6 => ?_)
    · refine lv_iconst (v := 0) C.1.1 C.1.2.1 dX8_order_59 (by decide) ?_
      simp only [if_neg hc5, if_pos hc6] at J hl
      exact J ls (lv_sub hl [2, 3, 4] rfl)
    · refine lv_iconst (v := 1) C.1.1 C.1.2.1 dX8_order_55 (by decide) ?_
      refine lv_goto (tgt := 60) C.1.1 C.1.2.1 dX8_order_56 (by decide) ?_
      simp only [if_neg hc5, if_neg hc6] at J hl
      exact J ls (lv_sub hl [2, 3, 4] rfl)
set_option maxHeartbeats 4000000 in
set_option maxRecDepth 100000 in
theorem v_X8_order_38 {x1 : Int32} {x2 : Int32} {x3 : Int32} {M : Mem} {Q : Int32 → Mem → Prop} {H : Heap} {locs : List Loc} {ls : Array Slot} (C : Cx p s m args c cX8_order 5 RX8 g) (hr : meth.sig.returnType = (some .int)) (hk : meth.locks = false)  (h : w_X8_order_38 x1 x2 x3 M Q) (w : Wd g layM 12 s.heap M H locs) (hl : lv_has ls 5 [(0, .ref (ga g 0)), (1, .int x1), (2, .int x2), (3, .int x3)]) : W p l e (rmOf 2 46) s m args below meth c H locs 0 0 (MQ below (va_Qi Q (PostW g layM 12) (gF g)) args s 0 0 (gF g)) (F0 m 38 ls []) := by
  unfold w_X8_order_38 at h
  refine lv_iconst (v := 0) C.1.1 C.1.2.1 dX8_order_38 (by decide) ?_
  exact v_X8_order_39 C hr hk   h w (lv_sub hl [0, 1, 2, 3] rfl)
set_option maxHeartbeats 4000000 in
set_option maxRecDepth 100000 in
theorem c_X8_order {l : Launch} {g : Gt} {x1 : Int32} {x2 : Int32} {x3 : Int32} {M : Mem} {Q : Int32 → Mem → Prop} (h : w_X8_order x1 x2 x3 M Q) : MI l yX8_order cX8_order 5 (some .int) 2 46 g layM 12 [.ref (ga g 0), .int x1, .int x2, .int x3] M Q :=
  m_of (by decide +kernel) (Nat.le_of_ble_eq_true rfl) (fun p e s m args below meth c ls C hr hk w hl => by
    have C : Cx p s m args c cX8_order 5 RX8 g := C
    have hl : lv_has ls 5 [(0, .ref (ga g 0)), (1, .int x1), (2, .int x2), (3, .int x3)] := hl
    unfold w_X8_order at h
    obtain ⟨H, eH⟩ : ∃ H : Heap, H = s.heap := ⟨_, rfl⟩
    obtain ⟨locs, el⟩ : ∃ locs : List Loc, locs = [] := ⟨_, rfl⟩
    have w : Wd g layM 12 s.heap M H locs := by rw [eH, el]; exact w
    suffices hw : W p l e (rmOf 2 46) s m args below meth c H locs 0 0 (MQ below (va_Qi Q (PostW g layM 12) (gF g)) args s 0 0 (gF g)) (F0 m 0 ls []) by rw [eH, el] at hw; exact hw
    clear eH el
    refine lv_iload_n C.1.1 C.1.2.1 dX8_order_0 rfl (lv_at hl 2 rfl) ?_
    refine lv_iconst (v := 2) C.1.1 C.1.2.1 dX8_order_1 (by decide) ?_
    refine lv_icmp_ne (tgt := 17) C.1.1 C.1.2.1 dX8_order_2 (by decide) (fun hc1 => ?_) (fun hc1 => ?_)
    · replace h := h.2 hc1
      refine lv_iload_n C.1.1 C.1.2.1 dX8_order_17 rfl (lv_at hl 2 rfl) ?_
      refine lv_i2l C.1.1 C.1.2.1 dX8_order_18 rfl ?_
      refine lv_lconst (v := 0) C.1.1 C.1.2.1 dX8_order_19 (by decide) ?_
      refine lv_lconst (v := 1) C.1.1 C.1.2.1 dX8_order_20 (by decide) ?_
      refine q_pSi C w [.long (x2.toInt64), .long 0, .long 1] (c_X8_in  h) ks_X8_in k_95  rfl hl.1 (Nat.le_of_ble_eq_true rfl) ⟨Nat.le_of_ble_eq_true rfl, Nat.le_of_ble_eq_true rfl⟩ dX8_order_21 (fun r2 H locs h w => ?_)
      refine lv_if_eq (tgt := 38) C.1.1 C.1.2.1 dX8_order_24 (by decide) (fun hc3 => ?_) (fun hc3 => ?_)
      · replace h := h.1 hc3
        exact v_X8_order_38 C hr hk   h w (lv_sub hl [0, 1, 2, 3] rfl)
      · replace h := h.2 hc3
        refine lv_iload_n C.1.1 C.1.2.1 dX8_order_27 rfl (lv_at hl 3 rfl) ?_
        refine q_pSi C w [.int x3] (c_X8_isGate  h) ks_X8_isGate k_114  rfl hl.1 (Nat.le_of_ble_eq_true rfl) ⟨Nat.le_of_ble_eq_true rfl, Nat.le_of_ble_eq_true rfl⟩ dX8_order_28 (fun r9 H locs h w => ?_)
        refine lv_if_eq (tgt := 38) C.1.1 C.1.2.1 dX8_order_31 (by decide) (fun hc10 => ?_) (fun hc10 => ?_)
        · replace h := h.1 hc10
          exact v_X8_order_38 C hr hk   h w (lv_sub hl [0, 1, 2, 3] rfl)
        · replace h := h.2 hc10
          refine lv_iconst (v := 1) C.1.1 C.1.2.1 dX8_order_34 (by decide) ?_
          refine lv_goto (tgt := 39) C.1.1 C.1.2.1 dX8_order_35 (by decide) ?_
          exact v_X8_order_39 C hr hk   h w (lv_sub hl [0, 1, 2, 3] rfl)
    · replace h := h.1 hc1
      refine lv_iload_n C.1.1 C.1.2.1 dX8_order_5 rfl (lv_at hl 3 rfl) ?_
      refine lv_i2l C.1.1 C.1.2.1 dX8_order_6 rfl ?_
      refine lv_lconst (v := 1) C.1.1 C.1.2.1 dX8_order_7 (by decide) ?_
      refine q_ldc2 C k_121 dX8_order_8 ?_
      refine q_pSi C w [.long (x3.toInt64), .long 1, .long 9] (c_X8_in  h) ks_X8_in k_95  rfl hl.1 (Nat.le_of_ble_eq_true rfl) ⟨Nat.le_of_ble_eq_true rfl, Nat.le_of_ble_eq_true rfl⟩ dX8_order_11 (fun r11 H locs h w => ?_)
      refine lv_goto (tgt := 39) C.1.1 C.1.2.1 dX8_order_14 (by decide) ?_
      exact v_X8_order_39 C hr hk   h w (lv_sub hl [0, 1, 2, 3] rfl))
-- tend
set_option maxHeartbeats 4000000 in
set_option maxRecDepth 100000 in
theorem v_X8_tend_38 {x1 : Int32} {x2 : Int32} {x3 : Int32} {t0 : Int32} {M : Mem} {Q : Int32 → Mem → Prop} {H : Heap} {locs : List Loc} {ls : Array Slot} (C : Cx p s m args c cX8_tend 5 RX8 g) (hr : meth.sig.returnType = (some .int)) (hk : meth.locks = false)  (h : w_X8_tend_38 x1 x2 x3 t0 M Q) (w : Wd g layM 12 s.heap M H locs) (hl : lv_has ls 5 [(0, .ref (ga g 0)), (1, .int x1), (2, .int x2), (3, .int x3)]) : W p l e (rmOf 2 45) s m args below meth c H locs 0 0 (MQ below (va_Qi Q (PostW g layM 12) (gF g)) args s 0 0 (gF g)) (F0 m 38 ls [.int t0]) := by
  unfold w_X8_tend_38 at h
  refine lv_istore (lv' := [(4, .int t0), (0, .ref (ga g 0)), (1, .int x1), (2, .int x2), (3, .int x3)]) C.1.1 C.1.2.1 dX8_tend_38 hl (by decide) rfl (fun ls hl => ?_)
  refine lv_aload_n C.1.1 C.1.2.1 dX8_tend_40 rfl (lv_at hl 1 rfl) ?_
  refine lv_iload_n C.1.1 C.1.2.1 dX8_tend_41 rfl (lv_at hl 2 rfl) ?_
  refine q_pSi C w [.int x1] (c_X8_isGate  h) ks_X8_isGate k_114  rfl hl.1 (Nat.le_of_ble_eq_true rfl) ⟨Nat.le_of_ble_eq_true rfl, Nat.le_of_ble_eq_true rfl⟩ dX8_tend_42 (fun r3 H locs h w => ?_)
  have J : ∀ ls : Array Slot, lv_has ls 5 [(1, .int x1), (2, .int x2), (3, .int x3)] → W p l e (rmOf 2 45) s m args below meth c H locs 0 0 (MQ below (va_Qi Q (PostW g layM 12) (gF g)) args s 0 0 (gF g)) (F0 m 58 ls [.int (if r3 = 0 then (0 : Int32) else (if t0 = 0 then (0 : Int32) else 1)), .ref (ga g 0)]) := by
    intro ls hl
    refine lv_bipush (v := 6) C.1.1 C.1.2.1 dX8_tend_58 (by decide) ?_
    refine lv_iload_n C.1.1 C.1.2.1 dX8_tend_60 rfl (lv_at hl 1 rfl) ?_
    refine lv_imul C.1.1 C.1.2.1 dX8_tend_61 ?_
    refine lv_iload_n C.1.1 C.1.2.1 dX8_tend_62 rfl (lv_at hl 0 rfl) ?_
    refine lv_iadd C.1.1 C.1.2.1 dX8_tend_63 ?_
    refine lv_iload_n C.1.1 C.1.2.1 dX8_tend_64 rfl (lv_at hl 2 rfl) ?_
    refine lv_iload_n C.1.1 C.1.2.1 dX8_tend_65 rfl (lv_at hl 1 rfl) ?_
    have J : ∀ ls : Array Slot, lv_has ls 5 [] → W p l e (rmOf 2 45) s m args below meth c H locs 0 0 (MQ below (va_Qi Q (PostW g layM 12) (gF g)) args s 0 0 (gF g)) (F0 m 75 ls [.int (if x2 = 0 then (30 : Int32) else 2), .int x3, .int ((6 * x2) + x1), .int (if r3 = 0 then (0 : Int32) else (if t0 = 0 then (0 : Int32) else 1)), .ref (ga g 0)]) := by
      intro ls hl
      refine q_cVi C w [.int (if r3 = 0 then (0 : Int32) else (if t0 = 0 then (0 : Int32) else 1)), .int ((6 * x2) + x1), .int x3, .int (if x2 = 0 then (30 : Int32) else 2)] (c_X8_puts  h) kv_X8_puts k_118 (rcv C w kc_X8 hm_0 lm_0) rfl hl.1 (Nat.le_of_ble_eq_true rfl) ⟨Nat.le_of_ble_eq_true rfl, Nat.le_of_ble_eq_true rfl⟩ dX8_tend_75 (fun r7 M8 H locs h w => ?_)
      exact q_iret C hr hk w rfl h dX8_tend_78
    refine lv_if_ne (tgt := 74) C.1.1 C.1.2.1 dX8_tend_66 (by decide) (fun hc6 => ?_) (fun hc6 => ?_)
    · refine lv_iconst (v := 2) C.1.1 C.1.2.1 dX8_tend_74 (by decide) ?_
      simp only [if_neg hc6] at J hl ⊢
      exact J ls (lv_sub hl [] rfl)
    · refine lv_bipush (v := 30) C.1.1 C.1.2.1 dX8_tend_69 (by decide) ?_
      refine lv_goto (tgt := 75) C.1.1 C.1.2.1 dX8_tend_71 (by decide) ?_
      simp only [if_pos hc6] at J hl ⊢
      exact J ls (lv_sub hl [] rfl)
  refine lv_if_eq (tgt := 57) C.1.1 C.1.2.1 dX8_tend_45 (by decide) (fun hc4 => ?_) (fun hc4 => ?_)
  · refine lv_iconst (v := 0) C.1.1 C.1.2.1 dX8_tend_57 (by decide) ?_
    simp only [if_pos hc4] at J hl
    exact J ls (lv_sub hl [2, 3, 4] rfl)
  · refine lv_iload C.1.1 C.1.2.1 dX8_tend_48 (lv_at hl 0 rfl) ?_
    refine lv_if_eq (tgt := 57) C.1.1 C.1.2.1 dX8_tend_50 (by decide) (fun hc5 => ?_) (fun hc5 => ?_)
    · refine lv_iconst (v := 0) C.1.1 C.1.2.1 dX8_tend_57 (by decide) ?_
      simp only [if_neg hc4, if_pos hc5] at J hl
      exact J ls (lv_sub hl [2, 3, 4] rfl)
    · refine lv_iconst (v := 1) C.1.1 C.1.2.1 dX8_tend_53 (by decide) ?_
      refine lv_goto (tgt := 58) C.1.1 C.1.2.1 dX8_tend_54 (by decide) ?_
      simp only [if_neg hc4, if_neg hc5] at J hl
      exact J ls (lv_sub hl [2, 3, 4] rfl)
set_option maxHeartbeats 4000000 in
set_option maxRecDepth 100000 in
theorem v_X8_tend_37 {x1 : Int32} {x2 : Int32} {x3 : Int32} {M : Mem} {Q : Int32 → Mem → Prop} {H : Heap} {locs : List Loc} {ls : Array Slot} (C : Cx p s m args c cX8_tend 5 RX8 g) (hr : meth.sig.returnType = (some .int)) (hk : meth.locks = false)  (h : w_X8_tend_37 x1 x2 x3 M Q) (w : Wd g layM 12 s.heap M H locs) (hl : lv_has ls 5 [(0, .ref (ga g 0)), (1, .int x1), (2, .int x2), (3, .int x3)]) : W p l e (rmOf 2 45) s m args below meth c H locs 0 0 (MQ below (va_Qi Q (PostW g layM 12) (gF g)) args s 0 0 (gF g)) (F0 m 37 ls []) := by
  unfold w_X8_tend_37 at h
  refine lv_iconst (v := 0) C.1.1 C.1.2.1 dX8_tend_37 (by decide) ?_
  exact v_X8_tend_38 C hr hk   h w (lv_sub hl [0, 1, 2, 3] rfl)
set_option maxHeartbeats 4000000 in
set_option maxRecDepth 100000 in
theorem c_X8_tend {l : Launch} {g : Gt} {x1 : Int32} {x2 : Int32} {x3 : Int32} {M : Mem} {Q : Int32 → Mem → Prop} (h : w_X8_tend x1 x2 x3 M Q) : MI l yX8_tend cX8_tend 5 (some .int) 2 45 g layM 12 [.ref (ga g 0), .int x1, .int x2, .int x3] M Q :=
  m_of (by decide +kernel) (Nat.le_of_ble_eq_true rfl) (fun p e s m args below meth c ls C hr hk w hl => by
    have C : Cx p s m args c cX8_tend 5 RX8 g := C
    have hl : lv_has ls 5 [(0, .ref (ga g 0)), (1, .int x1), (2, .int x2), (3, .int x3)] := hl
    unfold w_X8_tend at h
    obtain ⟨H, eH⟩ : ∃ H : Heap, H = s.heap := ⟨_, rfl⟩
    obtain ⟨locs, el⟩ : ∃ locs : List Loc, locs = [] := ⟨_, rfl⟩
    have w : Wd g layM 12 s.heap M H locs := by rw [eH, el]; exact w
    suffices hw : W p l e (rmOf 2 45) s m args below meth c H locs 0 0 (MQ below (va_Qi Q (PostW g layM 12) (gF g)) args s 0 0 (gF g)) (F0 m 0 ls []) by rw [eH, el] at hw; exact hw
    clear eH el
    refine lv_iload_n C.1.1 C.1.2.1 dX8_tend_0 rfl (lv_at hl 2 rfl) ?_
    refine lv_if_ne (tgt := 16) C.1.1 C.1.2.1 dX8_tend_1 (by decide) (fun hc1 => ?_) (fun hc1 => ?_)
    · replace h := h.2 hc1
      refine lv_iload_n C.1.1 C.1.2.1 dX8_tend_16 rfl (lv_at hl 2 rfl) ?_
      refine lv_iconst (v := 1) C.1.1 C.1.2.1 dX8_tend_17 (by decide) ?_
      refine lv_icmp_ne (tgt := 37) C.1.1 C.1.2.1 dX8_tend_18 (by decide) (fun hc2 => ?_) (fun hc2 => ?_)
      · replace h := h.2 hc2
        exact v_X8_tend_37 C hr hk   h w (lv_sub hl [0, 1, 2, 3] rfl)
      · replace h := h.1 hc2
        refine lv_iload_n C.1.1 C.1.2.1 dX8_tend_21 rfl (lv_at hl 3 rfl) ?_
        refine lv_i2l C.1.1 C.1.2.1 dX8_tend_22 rfl ?_
        refine lv_lconst (v := 0) C.1.1 C.1.2.1 dX8_tend_23 (by decide) ?_
        refine q_ldc2 C k_121 dX8_tend_24 ?_
        refine q_pSi C w [.long (x3.toInt64), .long 0, .long 9] (c_X8_in  h) ks_X8_in k_95  rfl hl.1 (Nat.le_of_ble_eq_true rfl) ⟨Nat.le_of_ble_eq_true rfl, Nat.le_of_ble_eq_true rfl⟩ dX8_tend_27 (fun r9 H locs h w => ?_)
        refine lv_if_eq (tgt := 37) C.1.1 C.1.2.1 dX8_tend_30 (by decide) (fun hc10 => ?_) (fun hc10 => ?_)
        · replace h := h.1 hc10
          exact v_X8_tend_37 C hr hk   h w (lv_sub hl [0, 1, 2, 3] rfl)
        · replace h := h.2 hc10
          refine lv_iconst (v := 1) C.1.1 C.1.2.1 dX8_tend_33 (by decide) ?_
          refine lv_goto (tgt := 38) C.1.1 C.1.2.1 dX8_tend_34 (by decide) ?_
          exact v_X8_tend_38 C hr hk   h w (lv_sub hl [0, 1, 2, 3] rfl)
    · replace h := h.1 hc1
      refine lv_iload_n C.1.1 C.1.2.1 dX8_tend_4 rfl (lv_at hl 3 rfl) ?_
      refine lv_i2l C.1.1 C.1.2.1 dX8_tend_5 rfl ?_
      refine lv_lconst (v := 0) C.1.1 C.1.2.1 dX8_tend_6 (by decide) ?_
      refine q_ldc2 C k_122 dX8_tend_7 ?_
      refine q_pSi C w [.long (x3.toInt64), .long 0, .long 60] (c_X8_in  h) ks_X8_in k_95  rfl hl.1 (Nat.le_of_ble_eq_true rfl) ⟨Nat.le_of_ble_eq_true rfl, Nat.le_of_ble_eq_true rfl⟩ dX8_tend_10 (fun r11 H locs h w => ?_)
      refine lv_goto (tgt := 38) C.1.1 C.1.2.1 dX8_tend_13 (by decide) ?_
      exact v_X8_tend_38 C hr hk   h w (lv_sub hl [0, 1, 2, 3] rfl))
-- free
set_option maxHeartbeats 4000000 in
set_option maxRecDepth 100000 in
theorem c_X8_free {l : Launch} {g : Gt} {x1 : Int32} {M : Mem} {Q : Int32 → Mem → Prop} (h : w_X8_free x1 M Q) : MI l yX8_free cX8_free 2 (some .int) 2 46 g layM 12 [.ref (ga g 0), .int x1] M Q :=
  m_of (by decide +kernel) (Nat.le_of_ble_eq_true rfl) (fun p e s m args below meth c ls C hr hk w hl => by
    have C : Cx p s m args c cX8_free 2 RX8 g := C
    have hl : lv_has ls 2 [(0, .ref (ga g 0)), (1, .int x1)] := hl
    unfold w_X8_free at h
    obtain ⟨H, eH⟩ : ∃ H : Heap, H = s.heap := ⟨_, rfl⟩
    obtain ⟨locs, el⟩ : ∃ locs : List Loc, locs = [] := ⟨_, rfl⟩
    have w : Wd g layM 12 s.heap M H locs := by rw [eH, el]; exact w
    suffices hw : W p l e (rmOf 2 46) s m args below meth c H locs 0 0 (MQ below (va_Qi Q (PostW g layM 12) (gF g)) args s 0 0 (gF g)) (F0 m 0 ls []) by rw [eH, el] at hw; exact hw
    clear eH el
    refine lv_aload_n C.1.1 C.1.2.1 dX8_free_0 rfl (lv_at hl 0 rfl) ?_
    refine lv_iload_n C.1.1 C.1.2.1 dX8_free_1 rfl (lv_at hl 1 rfl) ?_
    refine q_pVi C w [.int x1] (c_X8_isTaker  h) kv_X8_isTaker k_116 (rcv C w kc_X8 hm_0 lm_0) rfl hl.1 (Nat.le_of_ble_eq_true rfl) ⟨Nat.le_of_ble_eq_true rfl, Nat.le_of_ble_eq_true rfl⟩ dX8_free_2 (fun r1 H locs h w => ?_)
    refine lv_if_ne (tgt := 10) C.1.1 C.1.2.1 dX8_free_5 (by decide) (fun hc2 => ?_) (fun hc2 => ?_)
    · replace h := h.2 hc2
      refine lv_aload_n C.1.1 C.1.2.1 dX8_free_10 rfl (lv_at hl 0 rfl) ?_
      refine gr_RX8_7 C w hm_0 lm_0 rfl dX8_free_11 ?_
      refine lv_bipush (v := 27) C.1.1 C.1.2.1 dX8_free_14 (by decide) ?_
      refine lv_iload_n C.1.1 C.1.2.1 dX8_free_16 rfl (lv_at hl 1 rfl) ?_
      refine lv_iadd C.1.1 C.1.2.1 dX8_free_17 ?_
      refine q_ial C w hm_1 lm_1 h.1 dX8_free_18 ?_
      replace h := h.2
      refine lv_if_ne (tgt := 27) C.1.1 C.1.2.1 dX8_free_19 (by decide) (fun hc3 => ?_) (fun hc3 => ?_)
      · replace h := h.2 hc3
        refine lv_aload_n C.1.1 C.1.2.1 dX8_free_27 rfl (lv_at hl 0 rfl) ?_
        refine lv_iconst (v := 1) C.1.1 C.1.2.1 dX8_free_28 (by decide) ?_
        refine lv_bipush (v := 27) C.1.1 C.1.2.1 dX8_free_29 (by decide) ?_
        refine lv_iload_n C.1.1 C.1.2.1 dX8_free_31 rfl (lv_at hl 1 rfl) ?_
        refine lv_iadd C.1.1 C.1.2.1 dX8_free_32 ?_
        refine lv_iconst (v := 0) C.1.1 C.1.2.1 dX8_free_33 (by decide) ?_
        refine lv_iconst (v := 0) C.1.1 C.1.2.1 dX8_free_34 (by decide) ?_
        refine q_cVi C w [.int 1, .int (27 + x1), .int 0, .int 0] (c_X8_puts  h) kv_X8_puts k_118 (rcv C w kc_X8 hm_0 lm_0) rfl hl.1 (Nat.le_of_ble_eq_true rfl) ⟨Nat.le_of_ble_eq_true rfl, Nat.le_of_ble_eq_true rfl⟩ dX8_free_35 (fun r4 M5 H locs h w => ?_)
        exact q_iret C hr hk w rfl h dX8_free_38
      · replace h := h.1 hc3
        refine lv_bipush (v := (-2)) C.1.1 C.1.2.1 dX8_free_22 (by decide) ?_
        refine lv_goto (tgt := 38) C.1.1 C.1.2.1 dX8_free_24 (by decide) ?_
        exact q_iret C hr hk w rfl h dX8_free_38
    · replace h := h.1 hc2
      refine lv_iconst (v := (-1)) C.1.1 C.1.2.1 dX8_free_8 (by decide) ?_
      exact q_iret C hr hk w rfl h dX8_free_9)
-- hiresOn
set_option maxHeartbeats 4000000 in
set_option maxRecDepth 100000 in
theorem c_X8_hiresOn {l : Launch} {g : Gt} {x1 : Int32} {x2 : Int32} {x3 : Int32} {x4 : Int32} {M : Mem} {Q : Mem → Prop} (h : w_X8_hiresOn x1 x2 x3 x4 M Q) : MV l yX8_hiresOn cX8_hiresOn 6 none 0 0 g layM 12 [.ref (ga g 0), .int x1, .int x2, .int x3, .int x4] M Q :=
  m_of (by decide +kernel) (Nat.le_of_ble_eq_true rfl) (fun p e s m args below meth c ls C hr hk w hl => by
    have C : Cx p s m args c cX8_hiresOn 6 RX8 g := C
    have hl : lv_has ls 6 [(0, .ref (ga g 0)), (1, .int x1), (2, .int x2), (3, .int x3), (4, .int x4)] := hl
    unfold w_X8_hiresOn at h
    obtain ⟨H, eH⟩ : ∃ H : Heap, H = s.heap := ⟨_, rfl⟩
    obtain ⟨locs, el⟩ : ∃ locs : List Loc, locs = [] := ⟨_, rfl⟩
    have w : Wd g layM 12 s.heap M H locs := by rw [eH, el]; exact w
    suffices hw : W p l e (rmOf 0 0) s m args below meth c H locs 0 0 (MQ below (va_Qv Q (PostW g layM 12) (gF g)) args s 0 0 (gF g)) (F0 m 0 ls []) by rw [eH, el] at hw; exact hw
    clear eH el
    refine lv_aload_n C.1.1 C.1.2.1 dX8_hiresOn_0 rfl (lv_at hl 0 rfl) ?_
    refine gr_RX8_7 C w hm_0 lm_0 rfl dX8_hiresOn_1 ?_
    refine lv_iload_n C.1.1 C.1.2.1 dX8_hiresOn_4 rfl (lv_at hl 1 rfl) ?_
    refine lv_bipush (v := 41) C.1.1 C.1.2.1 dX8_hiresOn_5 (by decide) ?_
    refine lv_iadd C.1.1 C.1.2.1 dX8_hiresOn_7 ?_
    refine q_ial C w hm_1 lm_1 h.1 dX8_hiresOn_8 ?_
    replace h := h.2
    refine lv_istore (lv' := [(5, .int (M 1 (x1 + 41).toNatClampNeg)), (0, .ref (ga g 0)), (1, .int x1), (2, .int x2), (3, .int x3), (4, .int x4)]) C.1.1 C.1.2.1 dX8_hiresOn_9 hl (by decide) rfl (fun ls hl => ?_)
    refine lv_aload_n C.1.1 C.1.2.1 dX8_hiresOn_11 rfl (lv_at hl 1 rfl) ?_
    refine gr_RX8_7 C w hm_0 lm_0 rfl dX8_hiresOn_12 ?_
    refine lv_iload_n C.1.1 C.1.2.1 dX8_hiresOn_15 rfl (lv_at hl 2 rfl) ?_
    refine lv_bipush (v := 32) C.1.1 C.1.2.1 dX8_hiresOn_16 (by decide) ?_
    refine lv_iadd C.1.1 C.1.2.1 dX8_hiresOn_18 ?_
    refine lv_iload C.1.1 C.1.2.1 dX8_hiresOn_19 (lv_at hl 0 rfl) ?_
    refine lv_iadd C.1.1 C.1.2.1 dX8_hiresOn_21 ?_
    refine lv_iload_n C.1.1 C.1.2.1 dX8_hiresOn_22 rfl (lv_at hl 3 rfl) ?_
    refine q_ias C w hm_1 lm_1 h.1 dX8_hiresOn_23 (fun M1 H locs eM1 w => ?_)
    replace h := h.2 M1 eM1
    refine lv_aload_n C.1.1 C.1.2.1 dX8_hiresOn_24 rfl (lv_at hl 1 rfl) ?_
    refine gr_RX8_7 C w hm_0 lm_0 rfl dX8_hiresOn_25 ?_
    refine lv_iload_n C.1.1 C.1.2.1 dX8_hiresOn_28 rfl (lv_at hl 2 rfl) ?_
    refine lv_bipush (v := 35) C.1.1 C.1.2.1 dX8_hiresOn_29 (by decide) ?_
    refine lv_iadd C.1.1 C.1.2.1 dX8_hiresOn_31 ?_
    refine lv_iload C.1.1 C.1.2.1 dX8_hiresOn_32 (lv_at hl 0 rfl) ?_
    refine lv_iadd C.1.1 C.1.2.1 dX8_hiresOn_34 ?_
    refine lv_iload_n C.1.1 C.1.2.1 dX8_hiresOn_35 rfl (lv_at hl 4 rfl) ?_
    refine q_ias C w hm_1 lm_1 h.1 dX8_hiresOn_36 (fun M2 H locs eM2 w => ?_)
    replace h := h.2 M2 eM2
    refine lv_aload_n C.1.1 C.1.2.1 dX8_hiresOn_37 rfl (lv_at hl 1 rfl) ?_
    refine gr_RX8_7 C w hm_0 lm_0 rfl dX8_hiresOn_38 ?_
    refine lv_iload_n C.1.1 C.1.2.1 dX8_hiresOn_41 rfl (lv_at hl 2 rfl) ?_
    refine lv_bipush (v := 38) C.1.1 C.1.2.1 dX8_hiresOn_42 (by decide) ?_
    refine lv_iadd C.1.1 C.1.2.1 dX8_hiresOn_44 ?_
    refine lv_iload C.1.1 C.1.2.1 dX8_hiresOn_45 (lv_at hl 0 rfl) ?_
    refine lv_iadd C.1.1 C.1.2.1 dX8_hiresOn_47 ?_
    refine lv_iload C.1.1 C.1.2.1 dX8_hiresOn_48 (lv_at hl 5 rfl) ?_
    refine q_ias C w hm_1 lm_1 h.1 dX8_hiresOn_50 (fun M3 H locs eM3 w => ?_)
    replace h := h.2 M3 eM3
    refine lv_aload_n C.1.1 C.1.2.1 dX8_hiresOn_51 rfl (lv_at hl 1 rfl) ?_
    refine gr_RX8_7 C w hm_0 lm_0 rfl dX8_hiresOn_52 ?_
    refine lv_iload_n C.1.1 C.1.2.1 dX8_hiresOn_55 rfl (lv_at hl 2 rfl) ?_
    refine lv_bipush (v := 41) C.1.1 C.1.2.1 dX8_hiresOn_56 (by decide) ?_
    refine lv_iadd C.1.1 C.1.2.1 dX8_hiresOn_58 ?_
    refine lv_dup2_11 C.1.1 C.1.2.1 dX8_hiresOn_59 rfl rfl ?_
    refine q_ial C w hm_1 lm_1 h.1 dX8_hiresOn_60 ?_
    replace h := h.2
    refine lv_iconst (v := 1) C.1.1 C.1.2.1 dX8_hiresOn_61 (by decide) ?_
    refine lv_iadd C.1.1 C.1.2.1 dX8_hiresOn_62 ?_
    refine q_ias C w hm_1 lm_1 h.1 dX8_hiresOn_63 (fun M4 H locs eM4 w => ?_)
    replace h := h.2 M4 eM4
    exact q_vret C hr hk w h dX8_hiresOn_64)
-- hire
set_option maxHeartbeats 4000000 in
set_option maxRecDepth 100000 in
theorem c_X8_hire {l : Launch} {g : Gt} {x1 : Int32} {x2 : Int32} {x3 : Int32} {M : Mem} {Q : Int32 → Mem → Prop} (h : w_X8_hire x1 x2 x3 M Q) : MI l yX8_hire cX8_hire 4 (some .int) 2 45 g layM 12 [.ref (ga g 0), .int x1, .int x2, .int x3] M Q :=
  m_of (by decide +kernel) (Nat.le_of_ble_eq_true rfl) (fun p e s m args below meth c ls C hr hk w hl => by
    have C : Cx p s m args c cX8_hire 4 RX8 g := C
    have hl : lv_has ls 4 [(0, .ref (ga g 0)), (1, .int x1), (2, .int x2), (3, .int x3)] := hl
    unfold w_X8_hire at h
    obtain ⟨H, eH⟩ : ∃ H : Heap, H = s.heap := ⟨_, rfl⟩
    obtain ⟨locs, el⟩ : ∃ locs : List Loc, locs = [] := ⟨_, rfl⟩
    have w : Wd g layM 12 s.heap M H locs := by rw [eH, el]; exact w
    suffices hw : W p l e (rmOf 2 45) s m args below meth c H locs 0 0 (MQ below (va_Qi Q (PostW g layM 12) (gF g)) args s 0 0 (gF g)) (F0 m 0 ls []) by rw [eH, el] at hw; exact hw
    clear eH el
    refine lv_iload_n C.1.1 C.1.2.1 dX8_hire_0 rfl (lv_at hl 1 rfl) ?_
    refine q_pSi C w [.int x1] (c_X8_isGate  h) ks_X8_isGate k_114  rfl hl.1 (Nat.le_of_ble_eq_true rfl) ⟨Nat.le_of_ble_eq_true rfl, Nat.le_of_ble_eq_true rfl⟩ dX8_hire_1 (fun r1 H locs h w => ?_)
    refine lv_if_eq (tgt := 26) C.1.1 C.1.2.1 dX8_hire_4 (by decide) (fun hc2 => ?_) (fun hc2 => ?_)
    · replace h := h.1 hc2
      refine lv_iconst (v := (-1)) C.1.1 C.1.2.1 dX8_hire_26 (by decide) ?_
      exact q_iret C hr hk w rfl h dX8_hire_27
    · replace h := h.2 hc2
      refine lv_iload_n C.1.1 C.1.2.1 dX8_hire_7 rfl (lv_at hl 2 rfl) ?_
      refine q_pSi C w [.int x2] (c_X8_isGate  h) ks_X8_isGate k_114  rfl hl.1 (Nat.le_of_ble_eq_true rfl) ⟨Nat.le_of_ble_eq_true rfl, Nat.le_of_ble_eq_true rfl⟩ dX8_hire_8 (fun r3 H locs h w => ?_)
      refine lv_if_eq (tgt := 26) C.1.1 C.1.2.1 dX8_hire_11 (by decide) (fun hc4 => ?_) (fun hc4 => ?_)
      · replace h := h.1 hc4
        refine lv_iconst (v := (-1)) C.1.1 C.1.2.1 dX8_hire_26 (by decide) ?_
        exact q_iret C hr hk w rfl h dX8_hire_27
      · replace h := h.2 hc4
        refine lv_iload_n C.1.1 C.1.2.1 dX8_hire_14 rfl (lv_at hl 3 rfl) ?_
        refine lv_i2l C.1.1 C.1.2.1 dX8_hire_15 rfl ?_
        refine lv_lconst (v := 1) C.1.1 C.1.2.1 dX8_hire_16 (by decide) ?_
        refine q_ldc2 C k_121 dX8_hire_17 ?_
        refine q_pSi C w [.long (x3.toInt64), .long 1, .long 9] (c_X8_in  h) ks_X8_in k_95  rfl hl.1 (Nat.le_of_ble_eq_true rfl) ⟨Nat.le_of_ble_eq_true rfl, Nat.le_of_ble_eq_true rfl⟩ dX8_hire_20 (fun r5 H locs h w => ?_)
        refine lv_if_ne (tgt := 28) C.1.1 C.1.2.1 dX8_hire_23 (by decide) (fun hc6 => ?_) (fun hc6 => ?_)
        · replace h := h.2 hc6
          refine lv_aload_n C.1.1 C.1.2.1 dX8_hire_28 rfl (lv_at hl 0 rfl) ?_
          refine gr_RX8_7 C w hm_0 lm_0 rfl dX8_hire_29 ?_
          refine lv_bipush (v := 41) C.1.1 C.1.2.1 dX8_hire_32 (by decide) ?_
          refine q_ial C w hm_1 lm_1 h.1 dX8_hire_34 ?_
          replace h := h.2
          refine lv_iconst (v := 3) C.1.1 C.1.2.1 dX8_hire_35 (by decide) ?_
          refine lv_icmp_ne (tgt := 42) C.1.1 C.1.2.1 dX8_hire_36 (by decide) (fun hc7 => ?_) (fun hc7 => ?_)
          · replace h := h.2 hc7
            refine lv_aload_n C.1.1 C.1.2.1 dX8_hire_42 rfl (lv_at hl 0 rfl) ?_
            refine lv_iconst (v := 0) C.1.1 C.1.2.1 dX8_hire_43 (by decide) ?_
            refine lv_iload_n C.1.1 C.1.2.1 dX8_hire_44 rfl (lv_at hl 1 rfl) ?_
            refine lv_iload_n C.1.1 C.1.2.1 dX8_hire_45 rfl (lv_at hl 2 rfl) ?_
            refine lv_iload_n C.1.1 C.1.2.1 dX8_hire_46 rfl (lv_at hl 3 rfl) ?_
            refine q_cVv C w [.int 0, .int x1, .int x2, .int x3] (c_X8_hiresOn  h) kv_X8_hiresOn k_123 (rcv C w kc_X8 hm_0 lm_0) rfl hl.1 (Nat.le_of_ble_eq_true rfl) ⟨Nat.le_of_ble_eq_true rfl, Nat.le_of_ble_eq_true rfl⟩ dX8_hire_47 (fun M9 H locs h w => ?_)
            refine lv_aload_n C.1.1 C.1.2.1 dX8_hire_50 rfl (lv_at hl 0 rfl) ?_
            refine gr_RX8_7 C w hm_0 lm_0 rfl dX8_hire_51 ?_
            refine lv_bipush (v := 41) C.1.1 C.1.2.1 dX8_hire_54 (by decide) ?_
            refine q_ial C w hm_1 lm_1 h.1 dX8_hire_56 ?_
            replace h := h.2
            exact q_iret C hr hk w rfl h dX8_hire_57
          · replace h := h.1 hc7
            refine lv_bipush (v := (-3)) C.1.1 C.1.2.1 dX8_hire_39 (by decide) ?_
            exact q_iret C hr hk w rfl h dX8_hire_41
        · replace h := h.1 hc6
          refine lv_iconst (v := (-1)) C.1.1 C.1.2.1 dX8_hire_26 (by decide) ?_
          exact q_iret C hr hk w rfl h dX8_hire_27)
-- dismiss
set_option maxHeartbeats 4000000 in
set_option maxRecDepth 100000 in
theorem c_X8_dismiss {l : Launch} {g : Gt} {x1 : Int32} {M : Mem} {Q : Int32 → Mem → Prop} (h : w_X8_dismiss x1 M Q) : MI l yX8_dismiss cX8_dismiss 2 (some .int) 1 25 g layM 12 [.ref (ga g 0), .int x1] M Q :=
  m_of (by decide +kernel) (Nat.le_of_ble_eq_true rfl) (fun p e s m args below meth c ls C hr hk w hl => by
    have C : Cx p s m args c cX8_dismiss 2 RX8 g := C
    have hl : lv_has ls 2 [(0, .ref (ga g 0)), (1, .int x1)] := hl
    unfold w_X8_dismiss at h
    obtain ⟨H, eH⟩ : ∃ H : Heap, H = s.heap := ⟨_, rfl⟩
    obtain ⟨locs, el⟩ : ∃ locs : List Loc, locs = [] := ⟨_, rfl⟩
    have w : Wd g layM 12 s.heap M H locs := by rw [eH, el]; exact w
    suffices hw : W p l e (rmOf 1 25) s m args below meth c H locs 0 0 (MQ below (va_Qi Q (PostW g layM 12) (gF g)) args s 0 0 (gF g)) (F0 m 0 ls []) by rw [eH, el] at hw; exact hw
    clear eH el
    refine lv_aload_n C.1.1 C.1.2.1 dX8_dismiss_0 rfl (lv_at hl 0 rfl) ?_
    refine lv_iload_n C.1.1 C.1.2.1 dX8_dismiss_1 rfl (lv_at hl 1 rfl) ?_
    refine lv_i2l C.1.1 C.1.2.1 dX8_dismiss_2 rfl ?_
    refine lv_lconst (v := 0) C.1.1 C.1.2.1 dX8_dismiss_3 (by decide) ?_
    refine lv_aload_n C.1.1 C.1.2.1 dX8_dismiss_4 rfl (lv_at hl 0 rfl) ?_
    refine gr_RX8_7 C w hm_0 lm_0 rfl dX8_dismiss_5 ?_
    refine lv_bipush (v := 41) C.1.1 C.1.2.1 dX8_dismiss_8 (by decide) ?_
    refine q_ial C w hm_1 lm_1 h.1 dX8_dismiss_10 ?_
    replace h := h.2
    refine lv_i2l C.1.1 C.1.2.1 dX8_dismiss_11 rfl ?_
    refine q_pSi C w [.long (x1.toInt64), .long 0, .long ((M 1 (41 : Int32).toNatClampNeg).toInt64)] (c_X8_in  h) ks_X8_in k_95  rfl hl.1 (Nat.le_of_ble_eq_true rfl) ⟨Nat.le_of_ble_eq_true rfl, Nat.le_of_ble_eq_true rfl⟩ dX8_dismiss_12 (fun r1 H locs h w => ?_)
    refine lv_bipush (v := 41) C.1.1 C.1.2.1 dX8_dismiss_15 (by decide) ?_
    refine lv_iload_n C.1.1 C.1.2.1 dX8_dismiss_17 rfl (lv_at hl 1 rfl) ?_
    refine lv_iconst (v := 0) C.1.1 C.1.2.1 dX8_dismiss_18 (by decide) ?_
    refine q_cVi C w [.int r1, .int 41, .int x1, .int 0] (c_X8_puts  h) kv_X8_puts k_118 (rcv C w kc_X8 hm_0 lm_0) rfl hl.1 (Nat.le_of_ble_eq_true rfl) ⟨Nat.le_of_ble_eq_true rfl, Nat.le_of_ble_eq_true rfl⟩ dX8_dismiss_19 (fun r2 M3 H locs h w => ?_)
    exact q_iret C hr hk w rfl h dX8_dismiss_22)
-- nights
set_option maxHeartbeats 4000000 in
set_option maxRecDepth 100000 in
theorem v_X8_nights_55 {M : Mem} {Q : Int32 → Mem → Prop} {H : Heap} {locs : List Loc} {ls : Array Slot} (C : Cx p s m args c cX8_nights 3 RX8 g) (hr : meth.sig.returnType = (some .int)) (hk : meth.locks = false)  (h : w_X8_nights_55 M Q) (w : Wd g layM 12 s.heap M H locs) (hl : lv_has ls 3 [(0, .ref (ga g 0))]) : W p l e (rmOf 4 97) s m args below meth c H locs 0 0 (MQ below (va_Qi Q (PostW g layM 12) (gF g)) args s 0 0 (gF g)) (F0 m 55 ls []) := by
  unfold w_X8_nights_55 at h
  refine lv_aload_n C.1.1 C.1.2.1 dX8_nights_55 rfl (lv_at hl 0 rfl) ?_
  refine gi_RX8_128 C w hm_0 lm_0 rfl dX8_nights_56 ?_
  exact q_iret C hr hk w rfl h dX8_nights_59
set_option maxHeartbeats 4000000 in
set_option maxRecDepth 100000 in
theorem v_X8_nights_38 {x1 : Int32} {x2 : Int32} {M : Mem} {K38 : Int32 → Mem → Prop} {Q : Int32 → Mem → Prop} {H : Heap} {locs : List Loc} {ls : Array Slot} (C : Cx p s m args c cX8_nights 3 RX8 g) (hr : meth.sig.returnType = (some .int)) (hk : meth.locks = false) (hK38 : ∀ (x2 : Int32) (M : Mem) (H : Heap) (locs : List Loc) (ls : Array Slot), K38 x2 M → Wd g layM 12 s.heap M H locs → lv_has ls 3 [(0, .ref (ga g 0)), (1, .int x1), (2, .int x2)] → W p l e (rmOf 4 97) s m args below meth c H locs 0 0 (MQ below (va_Qi Q (PostW g layM 12) (gF g)) args s 0 0 (gF g)) (F0 m 38 ls [])) (h : w_X8_nights_38 x1 Q K38 x2 M) (w : Wd g layM 12 s.heap M H locs) (hl : lv_has ls 3 [(0, .ref (ga g 0)), (1, .int x1), (2, .int x2)]) : W p l e (rmOf 4 97) s m args below meth c H locs 0 0 (MQ below (va_Qi Q (PostW g layM 12) (gF g)) args s 0 0 (gF g)) (F0 m 38 ls []) := by
  unfold w_X8_nights_38 at h
  refine lv_iload_n C.1.1 C.1.2.1 dX8_nights_38 rfl (lv_at hl 2 rfl) ?_
  refine lv_iload_n C.1.1 C.1.2.1 dX8_nights_39 rfl (lv_at hl 1 rfl) ?_
  refine lv_icmp_ge (tgt := 55) C.1.1 C.1.2.1 dX8_nights_40 (by decide) (fun hc6 => ?_) (fun hc6 => ?_)
  · replace h := h.1 hc6
    exact v_X8_nights_55 C hr hk   h w (lv_sub hl [0] rfl)
  · replace h := h.2 hc6
    refine lv_aload_n C.1.1 C.1.2.1 dX8_nights_43 rfl (lv_at hl 0 rfl) ?_
    refine lv_iconst (v := 0) C.1.1 C.1.2.1 dX8_nights_44 (by decide) ?_
    refine lv_iconst (v := 0) C.1.1 C.1.2.1 dX8_nights_45 (by decide) ?_
    refine q_cVv C w [.int 0, .int 0] (c_X8_nightOn  h) kv_X8_nightOn k_126 (rcv C w kc_X8 hm_0 lm_0) rfl hl.1 (Nat.le_of_ble_eq_true rfl) ⟨Nat.le_of_ble_eq_true rfl, Nat.le_of_ble_eq_true rfl⟩ dX8_nights_46 (fun M8 H locs h w => ?_)
    refine lv_iinc (v := x2 + 1) (lv' := [(2, .int (x2 + 1)), (0, .ref (ga g 0)), (1, .int x1)]) C.1.1 C.1.2.1 dX8_nights_49 hl (k := 2) rfl rfl (by decide) rfl (fun ls hl => ?_)
    refine lv_goto (tgt := 38) C.1.1 C.1.2.1 dX8_nights_52 (by decide) ?_
    exact hK38 _ _ _ _ _ h w (lv_sub hl [1, 2, 0] rfl)
set_option maxHeartbeats 4000000 in
set_option maxRecDepth 100000 in
theorem l_X8_nights_38 {x1 : Int32} {Q : Int32 → Mem → Prop} (C : Cx p s m args c cX8_nights 3 RX8 g) (hr : meth.sig.returnType = (some .int)) (hk : meth.locks = false)  : ∀ (n : Nat) (x2 : Int32) (M : Mem) (H : Heap) (locs : List Loc) (ls : Array Slot), fu2 (w_X8_nights_38 x1 Q) n x2 M → Wd g layM 12 s.heap M H locs → lv_has ls 3 [(0, .ref (ga g 0)), (1, .int x1), (2, .int x2)] → W p l e (rmOf 4 97) s m args below meth c H locs 0 0 (MQ below (va_Qi Q (PostW g layM 12) (gF g)) args s 0 0 (gF g)) (F0 m 38 ls []) := by
  intro n
  induction n with
  | zero => intro x2 M H locs ls h; exact h.elim
  | succ n ih => intro x2 M H locs ls h w hl; exact v_X8_nights_38 C hr hk   ih h w hl
set_option maxHeartbeats 4000000 in
set_option maxRecDepth 100000 in
theorem c_X8_nights {l : Launch} {g : Gt} {x1 : Int32} {M : Mem} {Q : Int32 → Mem → Prop} (h : w_X8_nights x1 M Q) : MI l yX8_nights cX8_nights 3 (some .int) 4 97 g layM 12 [.ref (ga g 0), .int x1] M Q :=
  m_of (by decide +kernel) (Nat.le_of_ble_eq_true rfl) (fun p e s m args below meth c ls C hr hk w hl => by
    have C : Cx p s m args c cX8_nights 3 RX8 g := C
    have hl : lv_has ls 3 [(0, .ref (ga g 0)), (1, .int x1)] := hl
    unfold w_X8_nights at h
    obtain ⟨H, eH⟩ : ∃ H : Heap, H = s.heap := ⟨_, rfl⟩
    obtain ⟨locs, el⟩ : ∃ locs : List Loc, locs = [] := ⟨_, rfl⟩
    have w : Wd g layM 12 s.heap M H locs := by rw [eH, el]; exact w
    suffices hw : W p l e (rmOf 4 97) s m args below meth c H locs 0 0 (MQ below (va_Qi Q (PostW g layM 12) (gF g)) args s 0 0 (gF g)) (F0 m 0 ls []) by rw [eH, el] at hw; exact hw
    clear eH el
    refine lv_iload_n C.1.1 C.1.2.1 dX8_nights_0 rfl (lv_at hl 1 rfl) ?_
    refine lv_i2l C.1.1 C.1.2.1 dX8_nights_1 rfl ?_
    refine lv_lconst (v := 0) C.1.1 C.1.2.1 dX8_nights_2 (by decide) ?_
    refine q_ldc2 C k_124 dX8_nights_3 ?_
    refine q_pSi C w [.long (x1.toInt64), .long 0, .long 30] (c_X8_in  h) ks_X8_in k_95  rfl hl.1 (Nat.le_of_ble_eq_true rfl) ⟨Nat.le_of_ble_eq_true rfl, Nat.le_of_ble_eq_true rfl⟩ dX8_nights_6 (fun r1 H locs h w => ?_)
    refine lv_if_ne (tgt := 14) C.1.1 C.1.2.1 dX8_nights_9 (by decide) (fun hc2 => ?_) (fun hc2 => ?_)
    · replace h := h.2 hc2
      refine lv_aload_n C.1.1 C.1.2.1 dX8_nights_14 rfl (lv_at hl 0 rfl) ?_
      refine gr_RX8_7 C w hm_0 lm_0 rfl dX8_nights_15 ?_
      refine lv_bipush (v := 42) C.1.1 C.1.2.1 dX8_nights_18 (by decide) ?_
      refine q_ial C w hm_1 lm_1 h.1 dX8_nights_20 ?_
      replace h := h.2
      refine lv_iload_n C.1.1 C.1.2.1 dX8_nights_21 rfl (lv_at hl 1 rfl) ?_
      refine lv_iadd C.1.1 C.1.2.1 dX8_nights_22 ?_
      refine lv_sipush (v := 999) C.1.1 C.1.2.1 dX8_nights_23 (by decide) ?_
      refine lv_icmp_le (tgt := 32) C.1.1 C.1.2.1 dX8_nights_26 (by decide) (fun hc3 => ?_) (fun hc3 => ?_)
      · replace h := h.1 hc3
        refine lv_aload_n C.1.1 C.1.2.1 dX8_nights_32 rfl (lv_at hl 0 rfl) ?_
        refine q_cVv C w [] (c_X8_startCounts  h) kv_X8_startCounts k_125 (rcv C w kc_X8 hm_0 lm_0) rfl hl.1 (Nat.le_of_ble_eq_true rfl) ⟨Nat.le_of_ble_eq_true rfl, Nat.le_of_ble_eq_true rfl⟩ dX8_nights_33 (fun M5 H locs h w => ?_)
        refine lv_iconst (v := 0) C.1.1 C.1.2.1 dX8_nights_36 (by decide) ?_
        refine lv_istore_n (lv' := [(2, .int 0), (0, .ref (ga g 0)), (1, .int x1)]) C.1.1 C.1.2.1 dX8_nights_37 rfl hl (by decide) rfl (fun ls hl => ?_)
        obtain ⟨n, h⟩ := h
        exact l_X8_nights_38 C hr hk   n _ _ _ _ _ h w (lv_sub hl [1, 2, 0] rfl)
      · replace h := h.2 hc3
        refine lv_bipush (v := (-3)) C.1.1 C.1.2.1 dX8_nights_29 (by decide) ?_
        exact q_iret C hr hk w rfl h dX8_nights_31
    · replace h := h.1 hc2
      refine lv_iconst (v := (-1)) C.1.1 C.1.2.1 dX8_nights_12 (by decide) ?_
      exact q_iret C hr hk w rfl h dX8_nights_13)
-- copies
set_option maxHeartbeats 4000000 in
set_option maxRecDepth 100000 in
theorem v_X8_copies_2 {x1 : Int32} {x2 : Int32} {x3 : Int32} {M : Mem} {K2 : Int32 → Mem → Prop} {Q : Mem → Prop} {H : Heap} {locs : List Loc} {ls : Array Slot} (C : Cx p s m args c cX8_copies 4 RX8 g) (hr : meth.sig.returnType = none) (hk : meth.locks = false) (hK2 : ∀ (x3 : Int32) (M : Mem) (H : Heap) (locs : List Loc) (ls : Array Slot), K2 x3 M → Wd g layM 12 s.heap M H locs → lv_has ls 4 [(0, .ref (ga g 0)), (1, .int x1), (2, .int x2), (3, .int x3)] → W p l e (rmOf 0 0) s m args below meth c H locs 0 0 (MQ below (va_Qv Q (PostW g layM 12) (gF g)) args s 0 0 (gF g)) (F0 m 2 ls [])) (h : w_X8_copies_2 x1 x2 Q K2 x3 M) (w : Wd g layM 12 s.heap M H locs) (hl : lv_has ls 4 [(0, .ref (ga g 0)), (1, .int x1), (2, .int x2), (3, .int x3)]) : W p l e (rmOf 0 0) s m args below meth c H locs 0 0 (MQ below (va_Qv Q (PostW g layM 12) (gF g)) args s 0 0 (gF g)) (F0 m 2 ls []) := by
  unfold w_X8_copies_2 at h
  refine lv_iload_n C.1.1 C.1.2.1 dX8_copies_2 rfl (lv_at hl 3 rfl) ?_
  refine lv_bipush (v := 44) C.1.1 C.1.2.1 dX8_copies_3 (by decide) ?_
  refine lv_icmp_ge (tgt := 30) C.1.1 C.1.2.1 dX8_copies_5 (by decide) (fun hc1 => ?_) (fun hc1 => ?_)
  · replace h := h.1 hc1
    exact q_vret C hr hk w h dX8_copies_30
  · replace h := h.2 hc1
    refine lv_aload_n C.1.1 C.1.2.1 dX8_copies_8 rfl (lv_at hl 0 rfl) ?_
    refine gr_RX8_7 C w hm_0 lm_0 rfl dX8_copies_9 ?_
    refine lv_iload_n C.1.1 C.1.2.1 dX8_copies_12 rfl (lv_at hl 2 rfl) ?_
    refine lv_iload_n C.1.1 C.1.2.1 dX8_copies_13 rfl (lv_at hl 3 rfl) ?_
    refine lv_iadd C.1.1 C.1.2.1 dX8_copies_14 ?_
    refine lv_aload_n C.1.1 C.1.2.1 dX8_copies_15 rfl (lv_at hl 0 rfl) ?_
    refine gr_RX8_7 C w hm_0 lm_0 rfl dX8_copies_16 ?_
    refine lv_iload_n C.1.1 C.1.2.1 dX8_copies_19 rfl (lv_at hl 1 rfl) ?_
    refine lv_iload_n C.1.1 C.1.2.1 dX8_copies_20 rfl (lv_at hl 3 rfl) ?_
    refine lv_iadd C.1.1 C.1.2.1 dX8_copies_21 ?_
    refine q_ial C w hm_1 lm_1 h.1 dX8_copies_22 ?_
    replace h := h.2
    refine q_ias C w hm_1 lm_1 h.1 dX8_copies_23 (fun M2 H locs eM2 w => ?_)
    replace h := h.2 M2 eM2
    refine lv_iinc (v := x3 + 1) (lv' := [(3, .int (x3 + 1)), (0, .ref (ga g 0)), (1, .int x1), (2, .int x2)]) C.1.1 C.1.2.1 dX8_copies_24 hl (k := 3) rfl rfl (by decide) rfl (fun ls hl => ?_)
    refine lv_goto (tgt := 2) C.1.1 C.1.2.1 dX8_copies_27 (by decide) ?_
    exact hK2 _ _ _ _ _ h w (lv_sub hl [1, 2, 3, 0] rfl)
set_option maxHeartbeats 4000000 in
set_option maxRecDepth 100000 in
theorem l_X8_copies_2 {x1 : Int32} {x2 : Int32} {Q : Mem → Prop} (C : Cx p s m args c cX8_copies 4 RX8 g) (hr : meth.sig.returnType = none) (hk : meth.locks = false)  : ∀ (n : Nat) (x3 : Int32) (M : Mem) (H : Heap) (locs : List Loc) (ls : Array Slot), fu2 (w_X8_copies_2 x1 x2 Q) n x3 M → Wd g layM 12 s.heap M H locs → lv_has ls 4 [(0, .ref (ga g 0)), (1, .int x1), (2, .int x2), (3, .int x3)] → W p l e (rmOf 0 0) s m args below meth c H locs 0 0 (MQ below (va_Qv Q (PostW g layM 12) (gF g)) args s 0 0 (gF g)) (F0 m 2 ls []) := by
  intro n
  induction n with
  | zero => intro x3 M H locs ls h; exact h.elim
  | succ n ih => intro x3 M H locs ls h w hl; exact v_X8_copies_2 C hr hk   ih h w hl
set_option maxHeartbeats 4000000 in
set_option maxRecDepth 100000 in
theorem c_X8_copies {l : Launch} {g : Gt} {x1 : Int32} {x2 : Int32} {M : Mem} {Q : Mem → Prop} (h : w_X8_copies x1 x2 M Q) : MV l yX8_copies cX8_copies 4 none 0 0 g layM 12 [.ref (ga g 0), .int x1, .int x2] M Q :=
  m_of (by decide +kernel) (Nat.le_of_ble_eq_true rfl) (fun p e s m args below meth c ls C hr hk w hl => by
    have C : Cx p s m args c cX8_copies 4 RX8 g := C
    have hl : lv_has ls 4 [(0, .ref (ga g 0)), (1, .int x1), (2, .int x2)] := hl
    unfold w_X8_copies at h
    obtain ⟨H, eH⟩ : ∃ H : Heap, H = s.heap := ⟨_, rfl⟩
    obtain ⟨locs, el⟩ : ∃ locs : List Loc, locs = [] := ⟨_, rfl⟩
    have w : Wd g layM 12 s.heap M H locs := by rw [eH, el]; exact w
    suffices hw : W p l e (rmOf 0 0) s m args below meth c H locs 0 0 (MQ below (va_Qv Q (PostW g layM 12) (gF g)) args s 0 0 (gF g)) (F0 m 0 ls []) by rw [eH, el] at hw; exact hw
    clear eH el
    refine lv_iconst (v := 0) C.1.1 C.1.2.1 dX8_copies_0 (by decide) ?_
    refine lv_istore_n (lv' := [(3, .int 0), (0, .ref (ga g 0)), (1, .int x1), (2, .int x2)]) C.1.1 C.1.2.1 dX8_copies_1 rfl hl (by decide) rfl (fun ls hl => ?_)
    obtain ⟨n, h⟩ := h
    exact l_X8_copies_2 C hr hk   n _ _ _ _ _ h w (lv_sub hl [1, 2, 3, 0] rfl))
-- nightsGo
set_option maxHeartbeats 4000000 in
set_option maxRecDepth 100000 in
theorem v_X8_nightsGo_67 {M : Mem} {Q : Int32 → Mem → Prop} {H : Heap} {locs : List Loc} {ls : Array Slot} (C : Cx p s m args c cX8_nightsGo 4 RX8 g) (hr : meth.sig.returnType = (some .int)) (hk : meth.locks = false)  (h : w_X8_nightsGo_67 M Q) (w : Wd g layM 12 s.heap M H locs) (hl : lv_has ls 4 [(0, .ref (ga g 0))]) : W p l e (rmOf 4 97) s m args below meth c H locs 0 0 (MQ below (va_Qi Q (PostW g layM 12) (gF g)) args s 0 0 (gF g)) (F0 m 67 ls []) := by
  unfold w_X8_nightsGo_67 at h
  refine lv_aload_n C.1.1 C.1.2.1 dX8_nightsGo_67 rfl (lv_at hl 0 rfl) ?_
  refine gi_RX8_128 C w hm_0 lm_0 rfl dX8_nightsGo_68 ?_
  exact q_iret C hr hk w rfl h dX8_nightsGo_71
set_option maxHeartbeats 4000000 in
set_option maxRecDepth 100000 in
theorem v_X8_nightsGo_20 {x2 : Int32} {x3 : Int32} {M : Mem} {K20 : Int32 → Mem → Prop} {Q : Int32 → Mem → Prop} {H : Heap} {locs : List Loc} {ls : Array Slot} (C : Cx p s m args c cX8_nightsGo 4 RX8 g) (hr : meth.sig.returnType = (some .int)) (hk : meth.locks = false) (hK20 : ∀ (x3 : Int32) (M : Mem) (H : Heap) (locs : List Loc) (ls : Array Slot), K20 x3 M → Wd g layM 12 s.heap M H locs → lv_has ls 4 [(0, .ref (ga g 0)), (2, .int x2), (3, .int x3)] → W p l e (rmOf 4 97) s m args below meth c H locs 0 0 (MQ below (va_Qi Q (PostW g layM 12) (gF g)) args s 0 0 (gF g)) (F0 m 20 ls [])) (h : w_X8_nightsGo_20 x2 Q K20 x3 M) (w : Wd g layM 12 s.heap M H locs) (hl : lv_has ls 4 [(0, .ref (ga g 0)), (2, .int x2), (3, .int x3)]) : W p l e (rmOf 4 97) s m args below meth c H locs 0 0 (MQ below (va_Qi Q (PostW g layM 12) (gF g)) args s 0 0 (gF g)) (F0 m 20 ls []) := by
  unfold w_X8_nightsGo_20 at h
  refine lv_iload_n C.1.1 C.1.2.1 dX8_nightsGo_20 rfl (lv_at hl 2 rfl) ?_
  refine lv_iload_n C.1.1 C.1.2.1 dX8_nightsGo_21 rfl (lv_at hl 1 rfl) ?_
  refine lv_icmp_gt (tgt := 67) C.1.1 C.1.2.1 dX8_nightsGo_22 (by decide) (fun hc6 => ?_) (fun hc6 => ?_)
  · replace h := h.1 hc6
    exact v_X8_nightsGo_67 C hr hk   h w (lv_sub hl [0] rfl)
  · replace h := h.2 hc6
    refine lv_aload_n C.1.1 C.1.2.1 dX8_nightsGo_25 rfl (lv_at hl 0 rfl) ?_
    refine lv_sipush (v := 176) C.1.1 C.1.2.1 dX8_nightsGo_26 (by decide) ?_
    refine lv_iconst (v := 0) C.1.1 C.1.2.1 dX8_nightsGo_29 (by decide) ?_
    refine q_cVv C w [.int 176, .int 0] (c_X8_nightOn  h) kv_X8_nightOn k_126 (rcv C w kc_X8 hm_0 lm_0) rfl hl.1 (Nat.le_of_ble_eq_true rfl) ⟨Nat.le_of_ble_eq_true rfl, Nat.le_of_ble_eq_true rfl⟩ dX8_nightsGo_30 (fun M8 H locs h w => ?_)
    refine lv_aload_n C.1.1 C.1.2.1 dX8_nightsGo_33 rfl (lv_at hl 0 rfl) ?_
    refine lv_aload_n C.1.1 C.1.2.1 dX8_nightsGo_34 rfl (lv_at hl 0 rfl) ?_
    refine gi_RX8_194 C w hm_0 lm_0 rfl dX8_nightsGo_35 ?_
    refine lv_bipush (v := (-4)) C.1.1 C.1.2.1 dX8_nightsGo_38 (by decide) ?_
    have J : ∀ ls : Array Slot, lv_has ls 4 [(0, .ref (ga g 0)), (2, .int x2), (3, .int x3)] → W p l e (rmOf 4 97) s m args below meth c H locs 0 0 (MQ below (va_Qi Q (PostW g layM 12) (gF g)) args s 0 0 (gF g)) (F0 m 58 ls [.int (if (M8 0 19) = (-4) then (if (M8 0 18) ≤ 0 then (M8 0 19) else x3) else (M8 0 19)), .ref (ga g 0)]) := by
      intro ls hl
      refine pi_RX8_194 C w hm_0 lm_0 rfl dX8_nightsGo_58 (fun M11 H locs eM11 w => ?_)
      replace h := h M11 eM11
      refine lv_iinc (v := x3 + 1) (lv' := [(3, .int (x3 + 1)), (0, .ref (ga g 0)), (2, .int x2)]) C.1.1 C.1.2.1 dX8_nightsGo_61 hl (k := 2) rfl rfl (by decide) rfl (fun ls hl => ?_)
      refine lv_goto (tgt := 20) C.1.1 C.1.2.1 dX8_nightsGo_64 (by decide) ?_
      exact hK20 _ _ _ _ _ h w (lv_sub hl [1, 2, 0] rfl)
    refine lv_icmp_ne (tgt := 54) C.1.1 C.1.2.1 dX8_nightsGo_40 (by decide) (fun hc9 => ?_) (fun hc9 => ?_)
    · refine lv_aload_n C.1.1 C.1.2.1 dX8_nightsGo_54 rfl (lv_at hl 0 rfl) ?_
      refine gi_RX8_194 C w hm_0 lm_0 rfl dX8_nightsGo_55 ?_
      simp only [if_neg hc9] at J hl
      exact J ls (lv_sub hl [0, 1, 2] rfl)
    · refine lv_aload_n C.1.1 C.1.2.1 dX8_nightsGo_43 rfl (lv_at hl 0 rfl) ?_
      refine gi_RX8_134 C w hm_0 lm_0 rfl dX8_nightsGo_44 ?_
      refine lv_if_le (tgt := 54) C.1.1 C.1.2.1 dX8_nightsGo_47 (by decide) (fun hc10 => ?_) (fun hc10 => ?_)
      · refine lv_aload_n C.1.1 C.1.2.1 dX8_nightsGo_54 rfl (lv_at hl 0 rfl) ?_
        refine gi_RX8_194 C w hm_0 lm_0 rfl dX8_nightsGo_55 ?_
        simp only [if_pos hc9, if_pos hc10] at J hl
        exact J ls (lv_sub hl [0, 1, 2] rfl)
      · refine lv_iload_n C.1.1 C.1.2.1 dX8_nightsGo_50 rfl (lv_at hl 2 rfl) ?_
        refine lv_goto (tgt := 58) C.1.1 C.1.2.1 dX8_nightsGo_51 (by decide) ?_
        simp only [if_pos hc9, if_neg hc10] at J hl
        exact J ls (lv_sub hl [0, 1, 2] rfl)
set_option maxHeartbeats 4000000 in
set_option maxRecDepth 100000 in
theorem l_X8_nightsGo_20 {x2 : Int32} {Q : Int32 → Mem → Prop} (C : Cx p s m args c cX8_nightsGo 4 RX8 g) (hr : meth.sig.returnType = (some .int)) (hk : meth.locks = false)  : ∀ (n : Nat) (x3 : Int32) (M : Mem) (H : Heap) (locs : List Loc) (ls : Array Slot), fu2 (w_X8_nightsGo_20 x2 Q) n x3 M → Wd g layM 12 s.heap M H locs → lv_has ls 4 [(0, .ref (ga g 0)), (2, .int x2), (3, .int x3)] → W p l e (rmOf 4 97) s m args below meth c H locs 0 0 (MQ below (va_Qi Q (PostW g layM 12) (gF g)) args s 0 0 (gF g)) (F0 m 20 ls []) := by
  intro n
  induction n with
  | zero => intro x3 M H locs ls h; exact h.elim
  | succ n ih => intro x3 M H locs ls h w hl; exact v_X8_nightsGo_20 C hr hk   ih h w hl
set_option maxHeartbeats 4000000 in
set_option maxRecDepth 100000 in
theorem c_X8_nightsGo {l : Launch} {g : Gt} {x1 : Int32} {x2 : Int32} {M : Mem} {Q : Int32 → Mem → Prop} (h : w_X8_nightsGo x1 x2 M Q) : MI l yX8_nightsGo cX8_nightsGo 4 (some .int) 4 97 g layM 12 [.ref (ga g 0), .int x1, .int x2] M Q :=
  m_of (by decide +kernel) (Nat.le_of_ble_eq_true rfl) (fun p e s m args below meth c ls C hr hk w hl => by
    have C : Cx p s m args c cX8_nightsGo 4 RX8 g := C
    have hl : lv_has ls 4 [(0, .ref (ga g 0)), (1, .int x1), (2, .int x2)] := hl
    unfold w_X8_nightsGo at h
    obtain ⟨H, eH⟩ : ∃ H : Heap, H = s.heap := ⟨_, rfl⟩
    obtain ⟨locs, el⟩ : ∃ locs : List Loc, locs = [] := ⟨_, rfl⟩
    have w : Wd g layM 12 s.heap M H locs := by rw [eH, el]; exact w
    suffices hw : W p l e (rmOf 4 97) s m args below meth c H locs 0 0 (MQ below (va_Qi Q (PostW g layM 12) (gF g)) args s 0 0 (gF g)) (F0 m 0 ls []) by rw [eH, el] at hw; exact hw
    clear eH el
    refine lv_aload_n C.1.1 C.1.2.1 dX8_nightsGo_0 rfl (lv_at hl 0 rfl) ?_
    refine lv_iload_n C.1.1 C.1.2.1 dX8_nightsGo_1 rfl (lv_at hl 1 rfl) ?_
    refine lv_sipush (v := 176) C.1.1 C.1.2.1 dX8_nightsGo_2 (by decide) ?_
    refine q_cVv C w [.int x1, .int 176] (c_X8_copies  h) kv_X8_copies k_127 (rcv C w kc_X8 hm_0 lm_0) rfl hl.1 (Nat.le_of_ble_eq_true rfl) ⟨Nat.le_of_ble_eq_true rfl, Nat.le_of_ble_eq_true rfl⟩ dX8_nightsGo_5 (fun M2 H locs h w => ?_)
    refine lv_aload_n C.1.1 C.1.2.1 dX8_nightsGo_8 rfl (lv_at hl 0 rfl) ?_
    refine q_cVv C w [] (c_X8_startCounts  h) kv_X8_startCounts k_125 (rcv C w kc_X8 hm_0 lm_0) rfl hl.1 (Nat.le_of_ble_eq_true rfl) ⟨Nat.le_of_ble_eq_true rfl, Nat.le_of_ble_eq_true rfl⟩ dX8_nightsGo_9 (fun M4 H locs h w => ?_)
    refine lv_aload_n C.1.1 C.1.2.1 dX8_nightsGo_12 rfl (lv_at hl 0 rfl) ?_
    refine lv_bipush (v := (-4)) C.1.1 C.1.2.1 dX8_nightsGo_13 (by decide) ?_
    refine pi_RX8_194 C w hm_0 lm_0 rfl dX8_nightsGo_15 (fun M5 H locs eM5 w => ?_)
    replace h := h M5 eM5
    refine lv_iconst (v := 1) C.1.1 C.1.2.1 dX8_nightsGo_18 (by decide) ?_
    refine lv_istore_n (lv' := [(3, .int 1), (0, .ref (ga g 0)), (1, .int x1), (2, .int x2)]) C.1.1 C.1.2.1 dX8_nightsGo_19 rfl hl (by decide) rfl (fun ls hl => ?_)
    obtain ⟨n, h⟩ := h
    exact l_X8_nightsGo_20 C hr hk   n _ _ _ _ _ h w (lv_sub hl [1, 3, 0] rfl))
-- runs
set_option maxHeartbeats 4000000 in
set_option maxRecDepth 100000 in
theorem c_X8_runs {l : Launch} {g : Gt} {x1 : Int32} {x2 : Int32} {M : Mem} {Q : Int32 → Mem → Prop} (h : w_X8_runs x1 x2 M Q) : MI l yX8_runs cX8_runs 4 (some .int) 5 120 g layM 12 [.ref (ga g 0), .int x1, .int x2] M Q :=
  m_of (by decide +kernel) (Nat.le_of_ble_eq_true rfl) (fun p e s m args below meth c ls C hr hk w hl => by
    have C : Cx p s m args c cX8_runs 4 RX8 g := C
    have hl : lv_has ls 4 [(0, .ref (ga g 0)), (1, .int x1), (2, .int x2)] := hl
    unfold w_X8_runs at h
    obtain ⟨H, eH⟩ : ∃ H : Heap, H = s.heap := ⟨_, rfl⟩
    obtain ⟨locs, el⟩ : ∃ locs : List Loc, locs = [] := ⟨_, rfl⟩
    have w : Wd g layM 12 s.heap M H locs := by rw [eH, el]; exact w
    suffices hw : W p l e (rmOf 5 120) s m args below meth c H locs 0 0 (MQ below (va_Qi Q (PostW g layM 12) (gF g)) args s 0 0 (gF g)) (F0 m 0 ls []) by rw [eH, el] at hw; exact hw
    clear eH el
    refine lv_iload_n C.1.1 C.1.2.1 dX8_runs_0 rfl (lv_at hl 1 rfl) ?_
    refine lv_i2l C.1.1 C.1.2.1 dX8_runs_1 rfl ?_
    refine lv_lconst (v := 0) C.1.1 C.1.2.1 dX8_runs_2 (by decide) ?_
    refine q_ldc2 C k_122 dX8_runs_3 ?_
    refine q_pSi C w [.long (x1.toInt64), .long 0, .long 60] (c_X8_in  h) ks_X8_in k_95  rfl hl.1 (Nat.le_of_ble_eq_true rfl) ⟨Nat.le_of_ble_eq_true rfl, Nat.le_of_ble_eq_true rfl⟩ dX8_runs_6 (fun r1 H locs h w => ?_)
    refine lv_if_eq (tgt := 24) C.1.1 C.1.2.1 dX8_runs_9 (by decide) (fun hc2 => ?_) (fun hc2 => ?_)
    · replace h := h.1 hc2
      refine lv_iconst (v := (-1)) C.1.1 C.1.2.1 dX8_runs_24 (by decide) ?_
      exact q_iret C hr hk w rfl h dX8_runs_25
    · replace h := h.2 hc2
      refine lv_iload_n C.1.1 C.1.2.1 dX8_runs_12 rfl (lv_at hl 2 rfl) ?_
      refine lv_i2l C.1.1 C.1.2.1 dX8_runs_13 rfl ?_
      refine lv_lconst (v := 0) C.1.1 C.1.2.1 dX8_runs_14 (by decide) ?_
      refine q_ldc2 C k_128 dX8_runs_15 ?_
      refine q_pSi C w [.long (x2.toInt64), .long 0, .long 4] (c_X8_in  h) ks_X8_in k_95  rfl hl.1 (Nat.le_of_ble_eq_true rfl) ⟨Nat.le_of_ble_eq_true rfl, Nat.le_of_ble_eq_true rfl⟩ dX8_runs_18 (fun r3 H locs h w => ?_)
      refine lv_if_ne (tgt := 26) C.1.1 C.1.2.1 dX8_runs_21 (by decide) (fun hc4 => ?_) (fun hc4 => ?_)
      · replace h := h.2 hc4
        refine lv_aload_n C.1.1 C.1.2.1 dX8_runs_26 rfl (lv_at hl 0 rfl) ?_
        refine lv_iconst (v := 0) C.1.1 C.1.2.1 dX8_runs_27 (by decide) ?_
        refine lv_iload_n C.1.1 C.1.2.1 dX8_runs_28 rfl (lv_at hl 1 rfl) ?_
        refine q_cVi C w [.int 0, .int x1] (c_X8_nightsGo  h) kv_X8_nightsGo k_129 (rcv C w kc_X8 hm_0 lm_0) rfl hl.1 (Nat.le_of_ble_eq_true rfl) ⟨Nat.le_of_ble_eq_true rfl, Nat.le_of_ble_eq_true rfl⟩ dX8_runs_29 (fun r5 M6 H locs h w => ?_)
        refine lv_istore_n (lv' := [(3, .int r5), (0, .ref (ga g 0)), (1, .int x1), (2, .int x2)]) C.1.1 C.1.2.1 dX8_runs_32 rfl hl (by decide) rfl (fun ls hl => ?_)
        refine lv_iload_n C.1.1 C.1.2.1 dX8_runs_33 rfl (lv_at hl 3 rfl) ?_
        refine lv_if_ne (tgt := 41) C.1.1 C.1.2.1 dX8_runs_34 (by decide) (fun hc7 => ?_) (fun hc7 => ?_)
        · replace h := h.2 hc7
          refine lv_iload_n C.1.1 C.1.2.1 dX8_runs_41 rfl (lv_at hl 3 rfl) ?_
          refine lv_iconst (v := 1) C.1.1 C.1.2.1 dX8_runs_42 (by decide) ?_
          refine lv_icmp_ne (tgt := 53) C.1.1 C.1.2.1 dX8_runs_43 (by decide) (fun hc8 => ?_) (fun hc8 => ?_)
          · replace h := h.2 hc8
            refine lv_iload_n C.1.1 C.1.2.1 dX8_runs_53 rfl (lv_at hl 3 rfl) ?_
            refine lv_iconst (v := 2) C.1.1 C.1.2.1 dX8_runs_54 (by decide) ?_
            refine lv_icmp_ne (tgt := 65) C.1.1 C.1.2.1 dX8_runs_55 (by decide) (fun hc9 => ?_) (fun hc9 => ?_)
            · replace h := h.2 hc9
              refine lv_iload_n C.1.1 C.1.2.1 dX8_runs_65 rfl (lv_at hl 3 rfl) ?_
              refine lv_iconst (v := 3) C.1.1 C.1.2.1 dX8_runs_66 (by decide) ?_
              refine lv_icmp_ne (tgt := 80) C.1.1 C.1.2.1 dX8_runs_67 (by decide) (fun hc10 => ?_) (fun hc10 => ?_)
              · replace h := h.2 hc10
                refine lv_aload_n C.1.1 C.1.2.1 dX8_runs_80 rfl (lv_at hl 1 rfl) ?_
                refine gi_RX8_194 C w hm_0 lm_0 rfl dX8_runs_81 ?_
                exact q_iret C hr hk w rfl h dX8_runs_84
              · replace h := h.1 hc10
                refine lv_aload_n C.1.1 C.1.2.1 dX8_runs_70 rfl (lv_at hl 1 rfl) ?_
                refine lv_sipush (v := 176) C.1.1 C.1.2.1 dX8_runs_71 (by decide) ?_
                refine q_pVi C w [.int 176] (c_X8_lightOn  h) kv_X8_lightOn k_113 (rcv C w kc_X8 hm_0 lm_0) rfl hl.1 (Nat.le_of_ble_eq_true rfl) ⟨Nat.le_of_ble_eq_true rfl, Nat.le_of_ble_eq_true rfl⟩ dX8_runs_74 (fun r11 H locs h w => ?_)
                refine lv_goto (tgt := 84) C.1.1 C.1.2.1 dX8_runs_77 (by decide) ?_
                exact q_iret C hr hk w rfl h dX8_runs_84
            · replace h := h.1 hc9
              refine lv_aload_n C.1.1 C.1.2.1 dX8_runs_58 rfl (lv_at hl 1 rfl) ?_
              refine gi_RX8_134 C w hm_0 lm_0 rfl dX8_runs_59 ?_
              refine lv_goto (tgt := 84) C.1.1 C.1.2.1 dX8_runs_62 (by decide) ?_
              exact q_iret C hr hk w rfl h dX8_runs_84
          · replace h := h.1 hc8
            refine lv_aload_n C.1.1 C.1.2.1 dX8_runs_46 rfl (lv_at hl 1 rfl) ?_
            refine gi_RX8_131 C w hm_0 lm_0 rfl dX8_runs_47 ?_
            refine lv_goto (tgt := 84) C.1.1 C.1.2.1 dX8_runs_50 (by decide) ?_
            exact q_iret C hr hk w rfl h dX8_runs_84
        · replace h := h.1 hc7
          refine lv_iload_n C.1.1 C.1.2.1 dX8_runs_37 rfl (lv_at hl 0 rfl) ?_
          refine lv_goto (tgt := 84) C.1.1 C.1.2.1 dX8_runs_38 (by decide) ?_
          exact q_iret C hr hk w rfl h dX8_runs_84
      · replace h := h.1 hc4
        refine lv_iconst (v := (-1)) C.1.1 C.1.2.1 dX8_runs_24 (by decide) ?_
        exact q_iret C hr hk w rfl h dX8_runs_25)
-- ahead
set_option maxHeartbeats 4000000 in
set_option maxRecDepth 100000 in
theorem c_X8_ahead {l : Launch} {g : Gt} {x1 : Int32} {x2 : Int32} {x3 : Int32} {M : Mem} {Q : Int32 → Mem → Prop} (h : w_X8_ahead x1 x2 x3 M Q) : MI l yX8_ahead cX8_ahead 4 (some .int) 5 120 g layM 12 [.ref (ga g 0), .int x1, .int x2, .int x3] M Q :=
  m_of (by decide +kernel) (Nat.le_of_ble_eq_true rfl) (fun p e s m args below meth c ls C hr hk w hl => by
    have C : Cx p s m args c cX8_ahead 4 RX8 g := C
    have hl : lv_has ls 4 [(0, .ref (ga g 0)), (1, .int x1), (2, .int x2), (3, .int x3)] := hl
    unfold w_X8_ahead at h
    obtain ⟨H, eH⟩ : ∃ H : Heap, H = s.heap := ⟨_, rfl⟩
    obtain ⟨locs, el⟩ : ∃ locs : List Loc, locs = [] := ⟨_, rfl⟩
    have w : Wd g layM 12 s.heap M H locs := by rw [eH, el]; exact w
    suffices hw : W p l e (rmOf 5 120) s m args below meth c H locs 0 0 (MQ below (va_Qi Q (PostW g layM 12) (gF g)) args s 0 0 (gF g)) (F0 m 0 ls []) by rw [eH, el] at hw; exact hw
    clear eH el
    refine lv_aload_n C.1.1 C.1.2.1 dX8_ahead_0 rfl (lv_at hl 0 rfl) ?_
    refine lv_iload_n C.1.1 C.1.2.1 dX8_ahead_1 rfl (lv_at hl 1 rfl) ?_
    refine q_pVi C w [.int x1] (c_X8_isTaker  h) kv_X8_isTaker k_116 (rcv C w kc_X8 hm_0 lm_0) rfl hl.1 (Nat.le_of_ble_eq_true rfl) ⟨Nat.le_of_ble_eq_true rfl, Nat.le_of_ble_eq_true rfl⟩ dX8_ahead_2 (fun r1 H locs h w => ?_)
    refine lv_if_eq (tgt := 30) C.1.1 C.1.2.1 dX8_ahead_5 (by decide) (fun hc2 => ?_) (fun hc2 => ?_)
    · replace h := h.1 hc2
      refine lv_iconst (v := (-1)) C.1.1 C.1.2.1 dX8_ahead_30 (by decide) ?_
      exact q_iret C hr hk w rfl h dX8_ahead_31
    · replace h := h.2 hc2
      refine lv_iload_n C.1.1 C.1.2.1 dX8_ahead_8 rfl (lv_at hl 2 rfl) ?_
      refine lv_i2l C.1.1 C.1.2.1 dX8_ahead_9 rfl ?_
      refine lv_lconst (v := 0) C.1.1 C.1.2.1 dX8_ahead_10 (by decide) ?_
      refine q_ldc2 C k_122 dX8_ahead_11 ?_
      refine q_pSi C w [.long (x2.toInt64), .long 0, .long 60] (c_X8_in  h) ks_X8_in k_95  rfl hl.1 (Nat.le_of_ble_eq_true rfl) ⟨Nat.le_of_ble_eq_true rfl, Nat.le_of_ble_eq_true rfl⟩ dX8_ahead_14 (fun r3 H locs h w => ?_)
      refine lv_if_eq (tgt := 30) C.1.1 C.1.2.1 dX8_ahead_17 (by decide) (fun hc4 => ?_) (fun hc4 => ?_)
      · replace h := h.1 hc4
        refine lv_iconst (v := (-1)) C.1.1 C.1.2.1 dX8_ahead_30 (by decide) ?_
        exact q_iret C hr hk w rfl h dX8_ahead_31
      · replace h := h.2 hc4
        refine lv_iload_n C.1.1 C.1.2.1 dX8_ahead_20 rfl (lv_at hl 3 rfl) ?_
        refine lv_i2l C.1.1 C.1.2.1 dX8_ahead_21 rfl ?_
        refine lv_lconst (v := 0) C.1.1 C.1.2.1 dX8_ahead_22 (by decide) ?_
        refine lv_lconst (v := 1) C.1.1 C.1.2.1 dX8_ahead_23 (by decide) ?_
        refine q_pSi C w [.long (x3.toInt64), .long 0, .long 1] (c_X8_in  h) ks_X8_in k_95  rfl hl.1 (Nat.le_of_ble_eq_true rfl) ⟨Nat.le_of_ble_eq_true rfl, Nat.le_of_ble_eq_true rfl⟩ dX8_ahead_24 (fun r5 H locs h w => ?_)
        refine lv_if_ne (tgt := 32) C.1.1 C.1.2.1 dX8_ahead_27 (by decide) (fun hc6 => ?_) (fun hc6 => ?_)
        · replace h := h.2 hc6
          refine lv_aload_n C.1.1 C.1.2.1 dX8_ahead_32 rfl (lv_at hl 0 rfl) ?_
          refine lv_iconst (v := 0) C.1.1 C.1.2.1 dX8_ahead_33 (by decide) ?_
          refine lv_iload_n C.1.1 C.1.2.1 dX8_ahead_34 rfl (lv_at hl 2 rfl) ?_
          refine q_cVi C w [.int 0, .int x2] (c_X8_nightsGo  h) kv_X8_nightsGo k_129 (rcv C w kc_X8 hm_0 lm_0) rfl hl.1 (Nat.le_of_ble_eq_true rfl) ⟨Nat.le_of_ble_eq_true rfl, Nat.le_of_ble_eq_true rfl⟩ dX8_ahead_35 (fun r7 M8 H locs h w => ?_)
          refine lv_pop C.1.1 C.1.2.1 dX8_ahead_38 rfl ?_
          refine lv_aload_n C.1.1 C.1.2.1 dX8_ahead_39 rfl (lv_at hl 0 rfl) ?_
          refine gr_RX8_7 C w hm_0 lm_0 rfl dX8_ahead_40 ?_
          refine lv_sipush (v := 198) C.1.1 C.1.2.1 dX8_ahead_43 (by decide) ?_
          refine lv_iconst (v := 5) C.1.1 C.1.2.1 dX8_ahead_46 (by decide) ?_
          refine lv_iload_n C.1.1 C.1.2.1 dX8_ahead_47 rfl (lv_at hl 3 rfl) ?_
          refine lv_imul C.1.1 C.1.2.1 dX8_ahead_48 ?_
          refine lv_iadd C.1.1 C.1.2.1 dX8_ahead_49 ?_
          refine lv_iload_n C.1.1 C.1.2.1 dX8_ahead_50 rfl (lv_at hl 1 rfl) ?_
          refine lv_iadd C.1.1 C.1.2.1 dX8_ahead_51 ?_
          refine q_ial C w hm_1 lm_1 h.1 dX8_ahead_52 ?_
          replace h := h.2
          exact q_iret C hr hk w rfl h dX8_ahead_53
        · replace h := h.1 hc6
          refine lv_iconst (v := (-1)) C.1.1 C.1.2.1 dX8_ahead_30 (by decide) ?_
          exact q_iret C hr hk w rfl h dX8_ahead_31)
end
