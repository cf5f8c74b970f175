/-! the reference's lines -/
/-- a taker's line, from behind its name -/
theorem m_taker {M : Mem} {n p f0 i : Nat} {b : Nat → Nat} {D : Es} {G : Int32} {Q : Mem → Prop} (t : TD M n b) (hp : p ≤ n) (s : St M b n p) (h2 : P2 M D) (h4 : M 0 4 = G) (w : WD D) (hi : i < 4) (hk : D 44 < 5) (q : NQ M b n (tkF b n p f0 D) (tB b n (tB b n p)) (addE D i (tV b n p)) G Q) : w_X8_readMore (nI i) M (fun M10 => mEnd M10 Q) := by
  obtain ⟨g1, g2, -⟩ := tB_le (b := b) hp
  unfold tkF at q
  rw [if_neg (by omega)] at q
  unfold w_X8_readMore
  refine ⟨fun z => absurd z (nI_nlt (a := 3) (b := i) (by omega) (by omega)), fun _ => ?_⟩
  rw [h2.2, j12, nI_clamp (by omega)]
  refine ⟨vp_in_nI (by omega) (by omega), fun M1 e1 => ?_⟩
  have y1 : yM M M1 := by rw [e1]; exact yM.rf.mu2
  have r1 : M1 0 = M 0 := by rw [e1, mu_c (by omega)]
  rw [r1, h2.2, j17, nI_clamp (by omega)]
  refine m_num (lo := 0) (hi := 5) (y1.td t) hp (s.cg (fun k _ _ => by rw [r1])) (by omega) (by omega) ⟨fun z1 M2 z2 s2 => ⟨vp_in_nI (by omega) (by omega), fun M3 e3 M4 e4 => ?_⟩, fun z1 M2 z2 a8 a9 => ⟨vp_in_nI (by omega) (by omega), fun M3 e3 M4 e4 => ?_⟩⟩
  · rw [th_0 z1] at q
    have r3 : M3 0 = M2 0 := by rw [e3, mu_c (by omega)]
    have b3 : M3 0 3 = nI (D 44) := by rw [r3, z2.2 3 (by omega), r1, h2.2]
    rw [b3, nI_1] at e4
    have y4 : yM M M4 := by rw [e4, e3]; exact ((y1.tr z2.y).mu2).mu0 (by omega)
    have o4 : ∀ k, k ≠ 3 → M4 0 k = M2 0 k := fun k hk => by rw [e4, mu_at, if_neg (by omega), r3]
    have c4 : M4 2 = M3 2 := by rw [e4, mu_c (by omega)]
    refine m_end (y4.td t) g2 (s2.cg (fun k h8 _ => o4 k (by omega))) ⟨fun z5 M5 z6 s6 => ?_, fun z5 M5 z6 a8 a9 => q.bad rfl z5 (y4.tr z6.y) a8 a9⟩
    refine q.1 z5 M5 (y4.tr z6.y) s6 ⟨fun j hj => ?_, ?_⟩ ?_
    · have L : M5 2 j = if j = 17 + D 44 then nI (tV b n p) else if j = 12 + D 44 then nI i else M 2 j := by rw [z6.1 2 (by omega), c4, e3, mu_s, z2.1 2 (by omega), e1, mu_s]
      rw [L]
      unfold addE
      rw [if_neg (show ¬ j = 44 by omega)]
      by_cases q2 : j = 27 + D 44
      · rw [if_neg (show ¬ j = 17 + D 44 by omega), if_neg (show ¬ j = 12 + D 44 by omega), if_pos q2, h2.1 j hj, w.2.1 j (by omega) (by omega)]
      · rw [if_neg q2]
        by_cases q3 : j = 22 + D 44
        · rw [if_neg (show ¬ j = 17 + D 44 by omega), if_neg (show ¬ j = 12 + D 44 by omega), if_pos q3, h2.1 j hj, w.2.1 j (by omega) (by omega)]
        · rw [if_neg q3]
          by_cases q4 : j = 17 + D 44
          · rw [if_pos q4, if_pos q4, off0 (by omega), sub0]
          · rw [if_neg q4, if_neg q4]
            by_cases q5 : j = 12 + D 44
            · rw [if_pos q5, if_pos q5, off0 (by omega), sub0]
            · rw [if_neg q5, if_neg q5]
              exact h2.1 j hj
    · rw [z6.2 3 (by omega), e4, mu_at, if_pos ⟨rfl, rfl⟩, addE_44]
    · rw [z6.2 4 (by omega), o4 4 (by omega), z2.2 4 (by omega), r1, h4]
  · have l3 := nF_le (b := b) (n := n) (p := p) (lo := 0) (hi := 5)
    have r3 : M3 0 = M2 0 := by rw [e3, mu_c (by omega)]
    have o4 : ∀ k, k ≠ 3 → M4 0 k = M2 0 k := fun k hk => by rw [e4, mu_at, if_neg (by omega), r3]
    have y4 : yM M M4 := by rw [e4, e3]; exact ((y1.tr z2.y).mu2).mu0 (by omega)
    have h8 : M4 0 8 = nI (nF b n p 0 5) := by rw [o4 8 (by omega), a8]
    exact m_endB h8 (by omega) (by omega) (q.bad (by rw [th_n z1]) z1 y4 h8 (by rw [o4 9 (by omega), a9]))
/-- broken in this way -/
def brk (M N : Mem) (f pl : Nat) : Prop := yM M N ∧ N 0 8 = nI f ∧ N 0 9 = nI pl
theorem brk.mu2 {M N : Mem} {f pl k : Nat} {v : Int32} (h : brk M N f pl) : brk M (mu N 2 k v) f pl := ⟨h.1.mu2, by rw [mu_c (by omega)]; exact h.2.1, by rw [mu_c (by omega)]; exact h.2.2⟩
theorem brk.mu0 {M N : Mem} {f pl k : Nat} {v : Int32} (h : brk M N f pl) (hk : k = 3 ∨ k = 4) : brk M (mu N 0 k v) f pl := ⟨h.1.mu0 hk, by rw [mu_at, if_neg (by omega)]; exact h.2.1, by rw [mu_at, if_neg (by omega)]; exact h.2.2⟩
theorem m_keeper {M : Mem} {n p f0 : Nat} {b : Nat → Nat} {D : Es} {G : Int32} {Q : Mem → Prop} (t : TD M n b) (hp : p ≤ n) (s : St M b n p) (h2 : P2 M D) (h4 : M 0 4 = G) (w : WD D) (hk : D 41 < 3) (q : NQ M b n (kpF b n p f0 D) (tB b n (tB b n (tB b n (tB b n p)))) (hirE D (tV b n p) (tV b n (tB b n p)) (tV b n (tB b n (tB b n p)))) G Q) : w_X8_readMore (nI 4) M (fun M10 => mEnd M10 Q) := by
  obtain ⟨g1, g2, -⟩ := tB_le (b := b) hp
  obtain ⟨i1, i2, -⟩ := tB_le (b := b) g2
  obtain ⟨j1, j2, -⟩ := tB_le (b := b) i2
  unfold kpF at q
  rw [if_neg (by omega)] at q
  have i41 : vp_in 41 44 := vp_in_nI (n := 41) (by omega) (by omega)
  have v32 : vp_in (nI (32 + D 41)) 44 := vp_in_nI (by omega) (by omega)
  have v35 : vp_in (nI (35 + D 41)) 44 := vp_in_nI (by omega) (by omega)
  have v38 : vp_in (nI (38 + D 41)) 44 := vp_in_nI (by omega) (by omega)
  unfold w_X8_readMore
  refine ⟨fun _ => ⟨fun _ => ⟨i41, ?_⟩, fun z => absurd rfl z⟩, fun z => absurd (nI_lt (a := 3) (b := 4) (by omega) (by omega)) z⟩
  rw [k41, h2.z (i := 41) (by omega) (by omega), j32, j35, j38, nI_clamp (n := 32 + D 41) (by omega), nI_clamp (n := 35 + D 41) (by omega), nI_clamp (n := 38 + D 41) (by omega)]
  have bad3 : ∀ f pl, 1 ≤ f → f ≤ 3 → (∀ N, brk M N f pl → Q N) → ∀ r N, brk M N f pl → (vp_in (nI (38 + D 41)) 44 ∧ ∀ M27, M27 = mu N 2 (38 + D 41) r → vp_in 41 44 ∧ vp_in 41 44 ∧ ∀ M28, M28 = mu M27 2 41 (M27 2 41 + 1) → mEnd M28 Q) := by
    intro f pl hf hf3 hQ r N hN
    refine ⟨v38, fun M27 e27 => ⟨i41, i41, fun M28 e28 => ?_⟩⟩
    have c : brk M M28 f pl := by rw [e28, e27]; exact hN.mu2.mu2
    exact m_endB c.2.1 hf (by omega) (hQ M28 c)
  have bad2 : ∀ f pl, 1 ≤ f → f ≤ 3 → (∀ N, brk M N f pl → Q N) → ∀ r N, brk M N f pl → (vp_in (nI (35 + D 41)) 44 ∧ ∀ M24, M24 = mu N 2 (35 + D 41) r → w_X8_number 1 9 M24 (fun r25 M26 => vp_in (nI (38 + D 41)) 44 ∧ ∀ M27, M27 = mu M26 2 (38 + D 41) r25 → vp_in 41 44 ∧ vp_in 41 44 ∧ ∀ M28, M28 = mu M27 2 41 (M27 2 41 + 1) → mEnd M28 Q)) := by
    intro f pl hf hf3 hQ r N hN
    refine ⟨v35, fun M24 e24 => ?_⟩
    have c : brk M M24 f pl := by rw [e24]; exact hN.mu2
    exact m_numB c.2.1 hf (by omega) (bad3 f pl hf hf3 hQ _ _ c)
  refine m_num (lo := 0) (hi := 5) t hp s (by omega) (by omega) ⟨fun z1 M1 y1 s1 => ⟨v32, fun M2 e2 => ?_⟩, fun z1 M1 y1 a8 a9 => ⟨v32, fun M2 e2 => ?_⟩⟩
  · rw [th_0 z1] at q
    have y2 : yM M M2 := by rw [e2]; exact y1.y.mu2
    have r2 : M2 0 = M1 0 := by rw [e2, mu_c (by omega)]
    refine m_num (lo := 0) (hi := 5) (y2.td t) g2 (s1.cg (fun k _ _ => by rw [r2])) (by omega) (by omega) ⟨fun z3 M3 y3 s3 => ⟨v35, fun M4 e4 => ?_⟩, fun z3 M3 y3 a8 a9 => ?_⟩
    · rw [th_0 z3] at q
      have y4 : yM M M4 := by rw [e4]; exact (y2.tr y3.y).mu2
      have r4 : M4 0 = M3 0 := by rw [e4, mu_c (by omega)]
      refine m_num (lo := 1) (hi := 9) (y4.td t) i2 (s3.cg (fun k _ _ => by rw [r4])) (by omega) (by omega) ⟨fun z5 M5 y5 s5 => ⟨v38, fun M6 e6 => ⟨i41, i41, fun M7 e7 => ?_⟩⟩, fun z5 M5 y5 a8 a9 => ?_⟩
      · rw [th_0 z5] at q
        have c6 : M6 2 41 = nI (D 41) := by
          rw [e6, mu_s, if_neg (by omega), y5.1 2 (by omega), e4, mu_s, if_neg (by omega), y3.1 2 (by omega), e2, mu_s, if_neg (by omega), y1.1 2 (by omega), h2.z (i := 41) (by omega) (by omega)]
        rw [c6, nI_1] at e7
        have y7 : yM M M7 := by rw [e7, e6]; exact (y4.tr y5.y).mu2.mu2
        have r7 : M7 0 = M5 0 := by rw [e7, e6, mu_c (by omega), mu_c (by omega)]
        refine m_end (y7.td t) j2 (s5.cg (fun k _ _ => by rw [r7])) ⟨fun z8 M8 y8 s8 => ?_, fun z8 M8 y8 a8 a9 => q.bad rfl z8 (y7.tr y8.y) a8 a9⟩
        have o3 : ∀ k, k < 8 → M8 0 k = M 0 k := fun k hk => by rw [y8.2 k (by omega), r7, y5.2 k (by omega), r4, y3.2 k (by omega), r2, y1.2 k (by omega)]
        refine q.1 z8 M8 (y7.tr y8.y) s8 ⟨fun j hj => ?_, ?_⟩ ?_
        · have L : M8 2 j = if j = 41 then nI (D 41 + 1) else if j = 38 + D 41 then nI (tV b n (tB b n (tB b n p))) else if j = 35 + D 41 then nI (tV b n (tB b n p)) else if j = 32 + D 41 then nI (tV b n p) else M 2 j := by
            rw [y8.1 2 (by omega), e7, mu_s, e6, mu_s, y5.1 2 (by omega), e4, mu_s, y3.1 2 (by omega), e2, mu_s, y1.1 2 (by omega)]
          rw [L]
          unfold hirE
          by_cases q1 : j = 41
          · rw [if_pos q1, if_pos q1, off0 (by omega), sub0]
          · rw [if_neg q1, if_neg q1]
            by_cases q2 : j = 38 + D 41
            · rw [if_pos q2, if_pos q2, off0 (by omega), sub0]
            · rw [if_neg q2, if_neg q2]
              by_cases q3 : j = 35 + D 41
              · rw [if_pos q3, if_pos q3, off0 (by omega), sub0]
              · rw [if_neg q3, if_neg q3]
                by_cases q4 : j = 32 + D 41
                · rw [if_pos q4, if_pos q4, off0 (by omega), sub0]
                · rw [if_neg q4, if_neg q4]
                  exact h2.1 j hj
        · rw [o3 3 (by omega), h2.2, hirE_44 hk]
        · rw [o3 4 (by omega), h4]
      · have l3 := nF_le (b := b) (n := n) (p := tB b n (tB b n p)) (lo := 1) (hi := 9)
        exact bad3 _ _ (by omega) l3 (fun N hN => q.bad (by rw [th_n z5]) z5 hN.1 hN.2.1 hN.2.2) _ _ ⟨y4.tr y5.y, a8, a9⟩
    · have l3 := nF_le (b := b) (n := n) (p := tB b n p) (lo := 0) (hi := 5)
      exact bad2 _ _ (by omega) l3 (fun N hN => q.bad (by rw [th_n z3]) z3 hN.1 hN.2.1 hN.2.2) _ _ ⟨y2.tr y3.y, a8, a9⟩
  · have l3 := nF_le (b := b) (n := n) (p := p) (lo := 0) (hi := 5)
    have c : brk M M2 (nF b n p 0 5) (tF b n p) := by rw [e2]; exact (show brk M M1 (nF b n p 0 5) (tF b n p) from ⟨y1.y, a8, a9⟩).mu2
    exact m_numB c.2.1 (by omega) (by omega) (bad2 _ _ (by omega) l3 (fun N hN => q.bad (by rw [th_n z1]) z1 hN.1 hN.2.1 hN.2.2) _ _ c)
theorem m_gate {M : Mem} {n p : Nat} {b : Nat → Nat} {D : Es} {G : Int32} {Q : Mem → Prop} (t : TD M n b) (hp : p ≤ n) (s : St M b n p) (nb : ¬ tBad b n p) (h2 : P2 M D) (h4 : M 0 4 = G) (q : NQ M b n (gtF b n p G) (tB b n (tB b n (tB b n (tB b n p)))) (gatE D (tV b n p) (tV b n (tB b n p)) (tV b n (tB b n (tB b n p)))) (G ||| sl 1 (nI (tV b n p))) Q) : w_X8_readMore (nI 5) M (fun M10 => mEnd M10 Q) := by
  obtain ⟨g1, g2, -⟩ := tB_le (b := b) hp
  obtain ⟨i1, i2, -⟩ := tB_le (b := b) g2
  obtain ⟨j1, j2, -⟩ := tB_le (b := b) i2
  have s3 := tS_le (b := b) (n := n) (p := p)
  unfold gtF at q
  have bad3 : ∀ f pl v, v ≤ 5 → 1 ≤ f → f ≤ 4 → (∀ N, brk M N f pl → Q N) → ∀ r N, brk M N f pl → (vp_in (6 + nI v) 44 ∧ ∀ M12, M12 = mu N 2 (6 + nI v).toNatClampNeg (r - 2) → mEnd M12 Q) := by
    intro f pl v hv hf hf3 hQ r N hN
    rw [j6]
    refine ⟨vp_in_nI (by omega) (by omega), fun M12 e12 => ?_⟩
    have c : brk M M12 f pl := by rw [e12]; exact hN.mu2
    exact m_endB c.2.1 hf (by omega) (hQ M12 c)
  have bad2 : ∀ f pl v, v ≤ 5 → 1 ≤ f → f ≤ 4 → (∀ N, brk M N f pl → Q N) → ∀ r N, brk M N f pl → (vp_in (nI v) 44 ∧ ∀ M9, M9 = mu N 2 (nI v).toNatClampNeg (r - 30) → w_X8_number 0 9 M9 (fun r10 M11 => vp_in (6 + nI v) 44 ∧ ∀ M12, M12 = mu M11 2 (6 + nI v).toNatClampNeg (r10 - 2) → mEnd M12 Q)) := by
    intro f pl v hv hf hf3 hQ r N hN
    refine ⟨vp_in_nI (by omega) (by omega), fun M9 e9 => ?_⟩
    have c : brk M M9 f pl := by rw [e9]; exact hN.mu2
    exact m_numB c.2.1 hf (by omega) (bad3 f pl v hv hf hf3 hQ _ _ c)
  have bad1 : ∀ f pl, 1 ≤ f → f ≤ 4 → (∀ N, brk M N f pl → Q N) → ∀ N, brk M N f pl → (∀ M6, M6 = mu N 0 4 (N 0 4 ||| sl 1 (nI 0)) → w_X8_number 0 60 M6 (fun r7 M8 => vp_in (nI 0) 44 ∧ ∀ M9, M9 = mu M8 2 (nI 0).toNatClampNeg (r7 - 30) → w_X8_number 0 9 M9 (fun r10 M11 => vp_in (6 + nI 0) 44 ∧ ∀ M12, M12 = mu M11 2 (6 + nI 0).toNatClampNeg (r10 - 2) → mEnd M12 Q))) := by
    intro f pl hf hf3 hQ N hN M6 e6
    have c : brk M M6 f pl := by rw [e6]; exact hN.mu0 (by omega)
    exact m_numB c.2.1 hf (by omega) (bad2 f pl 0 (by omega) hf hf3 hQ _ _ c)
  have go : (nF b n p 0 5 = 0 → ¬ (sr G (nI (tV b n p)) &&& 1) = 1) → w_X8_readMore_172 M (fun M10 => mEnd M10 Q) := by
    intro nt
    unfold w_X8_readMore_172
    refine m_num (lo := 0) (hi := 5) t hp s (by omega) (by omega) ⟨fun z1 M1 y1 s1 M2 e2 => ?_, fun z1 M1 y1 a8 a9 => ?_⟩
    · rw [th_0 z1, if_neg (nt z1)] at q
      obtain ⟨-, -, -, v5⟩ := nF_0 z1
      rw [y1.2 4 (by omega), h4] at e2
      have y2 : yM M M2 := by rw [e2]; exact y1.y.mu0 (by omega)
      have o2 : ∀ k, k ≠ 4 → M2 0 k = M1 0 k := fun k hk => by rw [e2, mu_at, if_neg (by omega)]
      have p2 : M2 0 4 = G ||| sl 1 (nI (tV b n p)) := by rw [e2, mu_at, if_pos ⟨rfl, rfl⟩]
      have c2 : M2 2 = M 2 := by rw [e2, mu_c (by omega), y1.1 2 (by omega)]
      refine m_num (lo := 0) (hi := 60) (y2.td t) g2 (s1.cg (fun k _ _ => o2 k (by omega))) (by omega) (by omega) ⟨fun z3 M3 y3 s3 => ⟨vp_in_nI (by omega) (by omega), fun M4 e4 => ?_⟩, fun z3 M3 y3 a8 a9 => ?_⟩
      · rw [th_0 z3] at q
        rw [nI_clamp (by omega)] at e4
        have y4 : yM M M4 := by rw [e4]; exact (y2.tr y3.y).mu2
        have r4 : M4 0 = M3 0 := by rw [e4, mu_c (by omega)]
        refine m_num (lo := 0) (hi := 9) (y4.td t) i2 (s3.cg (fun k _ _ => by rw [r4])) (by omega) (by omega) ⟨fun z5 M5 y5 s5 => ?_, fun z5 M5 y5 a8 a9 => ?_⟩
        · rw [th_0 z5] at q
          rw [j6, nI_clamp (by omega)]
          refine ⟨vp_in_nI (by omega) (by omega), fun M6 e6 => ?_⟩
          have y6 : yM M M6 := by rw [e6]; exact (y4.tr y5.y).mu2
          have r6 : M6 0 = M5 0 := by rw [e6, mu_c (by omega)]
          refine m_end (y6.td t) j2 (s5.cg (fun k _ _ => by rw [r6])) ⟨fun z8 M8 y8 s8 => ?_, fun z8 M8 y8 a8 a9 => q.bad rfl z8 (y6.tr y8.y) a8 a9⟩
          have o3 : ∀ k, k < 8 → M8 0 k = M2 0 k := fun k hk => by rw [y8.2 k (by omega), r6, y5.2 k (by omega), r4, y3.2 k (by omega)]
          refine q.1 z8 M8 (y6.tr y8.y) s8 ⟨fun j hj => ?_, ?_⟩ ?_
          · have L : M8 2 j = if j = 6 + tV b n p then nI (tV b n (tB b n (tB b n p))) - 2 else if j = tV b n p then nI (tV b n (tB b n p)) - 30 else M 2 j := by
              rw [y8.1 2 (by omega), e6, mu_s, y5.1 2 (by omega), e4, mu_s, y3.1 2 (by omega), c2]
            rw [L]
            unfold gatE up off
            by_cases q1 : j = 6 + tV b n p
            · rw [if_pos q1, if_pos q1, if_neg (show ¬ j < 6 by omega), if_pos (show j < 12 by omega)]
              rfl
            · rw [if_neg q1, if_neg q1]
              by_cases q2 : j = tV b n p
              · rw [if_pos q2, if_pos q2, if_pos (show j < 6 by omega)]
                rfl
              · rw [if_neg q2, if_neg q2]
                exact h2.1 j hj
          · rw [o3 3 (by omega), o2 3 (by omega), y1.2 3 (by omega), h2.2]
            unfold gatE
            rw [up_n (by omega), up_n (by omega)]
          · rw [o3 4 (by omega), p2]
        · have l3 := nF_le (b := b) (n := n) (p := tB b n (tB b n p)) (lo := 0) (hi := 9)
          exact bad3 _ _ _ v5 (by omega) (by omega) (fun N hN => q.bad (by rw [th_n z5]) z5 hN.1 hN.2.1 hN.2.2) _ _ ⟨y4.tr y5.y, a8, a9⟩
      · have l3 := nF_le (b := b) (n := n) (p := tB b n p) (lo := 0) (hi := 60)
        exact bad2 _ _ _ v5 (by omega) (by omega) (fun N hN => q.bad (by rw [th_n z3]) z3 hN.1 hN.2.1 hN.2.2) _ _ ⟨y2.tr y3.y, a8, a9⟩
    · have l3 := nF_le (b := b) (n := n) (p := p) (lo := 0) (hi := 5)
      exact bad1 _ _ (by omega) (by omega) (fun N hN => q.bad (by rw [th_n z1]) z1 hN.1 hN.2.1 hN.2.2) _ ⟨y1.y, a8, a9⟩
  obtain ⟨e8, e10, e11, e12, e13⟩ := s.2 nb
  unfold w_X8_readMore
  refine ⟨fun _ => ⟨fun z => absurd z (by decide), fun _ => ?_⟩, fun z => absurd (nI_lt (a := 3) (b := 5) (by omega) (by omega)) z⟩
  rw [e8, e12]
  refine b0 (pk_eq (tS b n p) 2 (fun z => ?_) (fun z => ?_))
  · have v := tV_lt (fun j hj => (t.2.2 j hj).1) hp z nb
    rw [e13 z, h4]
    refine m_rng (v := tV b n p) (lo := 0) (hi := 5) (by omega) (by omega) (by omega) ⟨fun y => b1 ⟨fun u => ?_, fun u => go (fun _ => u)⟩, fun y => b0 (go (fun e => ?_))⟩
    · have e : nF b n p 0 5 = 0 := by unfold nF; rw [if_neg nb, if_pos z, if_pos y]
      rw [th_0 e, if_pos u] at q
      refine m_fail (f := 4) e8 e11 (fun M1 y1 a8 a9 => ?_)
      unfold w_X8_readMore_172
      exact m_numB a8 (by omega) (by omega) (bad1 _ _ (by omega) (by omega) (fun N hN => q.bad rfl (by omega) hN.1 hN.2.1 hN.2.2) _ ⟨y1.y, a8, a9⟩)
    · exact absurd ⟨(nF_0 e).2.2.1, (nF_0 e).2.2.2⟩ y
  · exact go (fun e => absurd (nF_0 e).2.1 z)
