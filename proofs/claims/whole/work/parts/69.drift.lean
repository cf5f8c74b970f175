/-! by a seed -/
theorem bvs (x : BitVec 32) : (x >>> 16) &&& 32767#32 = (x.sshiftRight 16) &&& 32767#32 := by
  apply BitVec.eq_of_getLsbD_eq
  intro i hi
  rw [BitVec.getLsbD_and, BitVec.getLsbD_and, BitVec.getLsbD_ushiftRight, BitVec.getLsbD_sshiftRight]
  by_cases h : i < 15
  · have h1 : 16 + i < 32 := by omega
    have h4 : ¬ 32 ≤ i := by omega
    simp [h1, h4]
  · have : (32767#32).getLsbD i = false := by
      have : ∀ i, i < 32 → ¬ i < 15 → (32767#32).getLsbD i = false := by decide
      exact this i hi h
    rw [this, Bool.and_false, Bool.and_false]
theorem sus (d : Int32) : su d 16 &&& 32767 = sr d 16 &&& 32767 := by
  apply Int32.toBitVec_inj.mp
  unfold su sr
  rw [Int32.toBitVec_and, Int32.toBitVec_and, Int32.toBitVec_shiftRight, show (16 &&& 31 : Int32).toBitVec.smod 32 = 16#32 from by decide]
  exact bvs d.toBitVec
def dD (d : Int32) : Int32 := (d * 1103515245) + 12345
def dG (d : Int32) : Nat := (sr (dD d) 16 &&& 32767).toNatClampNeg
theorem dG_eq (d : Int32) : sr (dD d) 16 &&& 32767 = nI (dG d) ∧ dG d < 32768 := by
  obtain ⟨j, hj, e⟩ := pk_andE (sr (dD d) 16) (m := 32767) 15 (by decide)
  unfold dG
  rw [e, nI_clamp (by omega)]
  exact ⟨rfl, by omega⟩
def ds (x : Int32) : Nat → Int32
  | 0 => x
  | i + 1 => dD (ds x i)
def dU (T : Nat) (d : Int32) (E : Es) : Es := up E (17 + dG d % T) (dG d / 8 % 6)
def dsE (T : Nat) (x : Int32) (E : Es) : Nat → Es
  | 0 => E
  | i + 1 => nE false (dU T (ds x i) (dsE T x E i))
def dsT (T : Nat) (x : Int32) (E : Es) : Nat → Nat
  | 0 => 0
  | i + 1 => dsT T x E i + nT false (dU T (ds x i) (dsE T x E i))
def dsC (T : Nat) (x : Int32) (E : Es) : Nat → Nat
  | 0 => 0
  | i + 1 => dsC T x E i + nC false (dU T (ds x i) (dsE T x E i))
theorem dU_fix {E : Es} {T : Nat} (w : WF E) (h0 : 0 < T) (hT5 : T ≤ 5) (d : Int32) : WF (dU T d E) ∧ dU T d E 44 = E 44 ∧ dU T d E 41 = E 41 ∧ dU T d E 42 = E 42 := by
  have hm := Nat.mod_lt (dG d) h0
  unfold dU
  exact ⟨up_WF w (by omega) (by omega) (by omega), up_n (by omega), up_n (by omega), up_n (by omega)⟩
theorem dsE_fix {E : Es} {T : Nat} (w : WF E) (h0 : 0 < T) (hT5 : T ≤ 5) (x : Int32) : ∀ i, E 42 + i ≤ 5000 → WF (dsE T x E i) ∧ dsE T x E i 44 = E 44 ∧ dsE T x E i 42 = E 42 + i
  | 0, _ => ⟨w, rfl, rfl⟩
  | i + 1, h => by
    obtain ⟨a, b, c⟩ := dsE_fix w h0 hT5 x i (by omega)
    obtain ⟨a2, b2, c2, d2⟩ := dU_fix a h0 hT5 (ds x i)
    obtain ⟨a3, b3, c3, d3⟩ := nE_fix false _ a2 (by omega)
    exact ⟨a3, b3.trans (b2.trans b), d3.trans (by omega)⟩
theorem c_drift {X : Mem} {E : Es} {n : Nat} {x y : Int32} {Q : Int32 → Mem → Prop} (h : EX X 1 E) (w : WF E) (h9 : E 42 ≤ 999) (hn : n ≤ 60) (h0 : 0 < E 44) (q : ∀ X', qX X X' → Q (if y = 0 then nI (dsT (E 44) x E n) else nI (dsC (E 44) x E n)) X') : w_X6_begin X (fun M7 => ∃ m, fu3 (w_X7_drift_51 (nI n) y Q) m x 0 M7) := by
  have h5 := w.2.2.2.2.1
  refine w_begin h (fun X7 t7 g7 => ?_)
  refine pk_loop (fun m i N => fu3 (w_X7_drift_51 (nI n) y Q) m (ds x i) (nI i) N) (fun i N => gX X N ∧ ∃ B F, F ≤ i ∧ TX N (dsE (E 44) x E i) i (dsT (E 44) x E i) (dsC (E 44) x E i) B F) n 0 X7 (by omega) ⟨g7, 0, 0, Nat.le_refl _, t7⟩ (fun m N hI => ?_) (fun m i N hi hI ih => ?_)
  · obtain ⟨g, B, F, hF, t⟩ := hI
    refine pk_le n n (fun _ => ?_) (fun z => by omega)
    unfold w_X7_drift_123
    rw [t.2.2.1, t.2.2.2.1]
    exact q N g.q
  · obtain ⟨g, B, F, hF, t⟩ := hI
    show w_X7_drift_51 (nI n) y Q (fu3 (w_X7_drift_51 (nI n) y Q) m) _ _ _
    generalize fu3 (w_X7_drift_51 (nI n) y Q) m = K at ih ⊢
    refine pk_le n i (fun z => by omega) (fun _ => ?_)
    rw [(g.ex h).tk]
    obtain ⟨e1, e2⟩ := dG_eq (ds x i)
    rw [show (su (((ds x i) * 1103515245) + 12345) 16) &&& 32767 = nI (dG (ds x i)) from (sus _).trans e1]
    have hm := Nat.mod_lt (dG (ds x i)) h0
    rw [show irm (nI (dG (ds x i))) (nI (E 44)) = nI (dG (ds x i) % E 44) from pk_rem (by omega) h0 (by omega), show nI (dG (ds x i)) / 8 = nI (dG (ds x i) / 8) from pk_div (d := 8) (by omega) (by omega) (by omega), irm6 (by omega), nI_clamp (by omega)]
    refine ⟨nI_ne0 h0 (by omega), vp_in_nI (by omega) (by omega), fun X10 e10 => ?_⟩
    obtain ⟨a, b, c⟩ := dsE_fix w h0 h5 x i (by omega)
    obtain ⟨a2, b2, c2, d2⟩ := dU_fix a h0 h5 (ds x i)
    have t10 : TX X10 (dU (E 44) (ds x i) (dsE (E 44) x E i)) i (dsT (E 44) x E i) (dsC (E 44) x E i) B F := by
      obtain ⟨y0, y1, y2, y3, y4, y5⟩ := t
      rw [e10]
      exact ⟨y0.set' (cxt (dG (ds x i) % E 44) (by omega)).2.1 (by omega) (by omega) (by omega), by rw [mu_c (by omega)]; exact y1, by rw [mu_c (by omega)]; exact y2, by rw [mu_c (by omega)]; exact y3, by rw [mu_c (by omega)]; exact y4, by rw [mu_c (by omega)]; exact y5⟩
    have g10 : gX X X10 := by
      rw [e10]
      exact g.mu (by omega) (by omega)
    refine w_one (hz := false) t10 a2 (by omega) (by omega) ⟨fun _ => rfl, fun _ => rfl⟩ (fun X12 t12 g12 => ?_)
    rw [nI_1]
    exact ih X12 ⟨g10.tr g12, _, _, fst_le hF, t12⟩
theorem m_drift {M : Mem} {E : Es} {n : Nat} {x y : Int32} {Q : Int32 → Mem → Prop} (h : PM M 0 E) (hTk : M 0 1 = nI (E 44)) (w : WF E) (h9 : E 42 ≤ 999) (hn : n ≤ 60) (h0 : 0 < E 44) (q : ∀ M', qM M M' → Q (if y = 0 then nI (dsT (E 44) x E n) else nI (dsC (E 44) x E n)) M') : w_X8_copies 0 176 M (fun M7 => w_X8_startCounts M7 (fun M9 => ∃ m, fu3 (w_X8_drift_52 (nI n) y Q) m x 0 M9)) := by
  have h5 := w.2.2.2.2.1
  refine m_begin (p := 0) h (by omega) (fun M9 t9 g9 => ?_)
  refine pk_loop (fun m i N => fu3 (w_X8_drift_52 (nI n) y Q) m (ds x i) (nI i) N) (fun i N => gM M N ∧ PM N 176 (dsE (E 44) x E i) ∧ N 0 16 = nI (dsT (E 44) x E i) ∧ N 0 18 = nI (dsC (E 44) x E i)) n 0 M9 (by omega) ⟨g9, (t9 no).1, (t9 no).2.1, (t9 no).2.2.2⟩ (fun m N hI => ?_) (fun m i N hi hI ih => ?_)
  · obtain ⟨g, p, t1, t2⟩ := hI
    refine pk_le n n (fun _ => ?_) (fun z => by omega)
    unfold w_X8_drift_118
    rw [t1, t2]
    exact q N g.u.q
  · obtain ⟨g, p, t1, t2⟩ := hI
    show w_X8_drift_52 (nI n) y Q (fu3 (w_X8_drift_52 (nI n) y Q) m) _ _ _
    generalize fu3 (w_X8_drift_52 (nI n) y Q) m = K at ih ⊢
    refine pk_le n i (fun z => by omega) (fun _ => ?_)
    rw [g.tk, hTk]
    obtain ⟨e1, e2⟩ := dG_eq (ds x i)
    rw [show (sr (((ds x i) * 1103515245) + 12345) 16) &&& 32767 = nI (dG (ds x i)) from e1]
    have hm := Nat.mod_lt (dG (ds x i)) h0
    rw [show irm (nI (dG (ds x i))) (nI (E 44)) = nI (dG (ds x i) % E 44) from pk_rem (by omega) h0 (by omega), show nI (dG (ds x i)) / 8 = nI (dG (ds x i) / 8) from pk_div (d := 8) (by omega) (by omega) (by omega), irm6 (by omega), show (193 : Int32) + nI (dG (ds x i) % E 44) = nI (176 + (17 + dG (ds x i) % E 44)) from (nI_add 193 _).trans (by congr 1; omega), nI_clamp (by omega)]
    refine ⟨nI_ne0 h0 (by omega), vp_in_nI (by omega) (by omega), fun M12 e12 => ?_⟩
    obtain ⟨a, b, c⟩ := dsE_fix w h0 h5 x i (by omega)
    obtain ⟨a2, b2, c2, d2⟩ := dU_fix a h0 h5 (ds x i)
    have p12 : PM M12 176 (dU (E 44) (ds x i) (dsE (E 44) x E i)) := by
      rw [e12]
      exact p.set0 (by omega) (by omega) (by omega)
    have f12 : frM 176 N M12 := by
      rw [e12]
      exact frM.rf.pg (by omega)
    refine m_night (p := 176) (hz := false) p12 (by rw [f12.2.2 1 (by omega) (by omega) (by omega), g.tk, b2, b]; exact hTk) a2 (by omega) ⟨fun _ => rfl, fun _ => rfl⟩ (fun M14 p14 f14 a1 a2' a3 => ?_)
    rw [nI_1]
    have d12 : M12 0 = N 0 := by rw [e12, mu_c (by omega)]
    refine ih M14 ⟨(g.tr f12.g).tr f14.g, p14, ?_, ?_⟩
    · rw [a1, d12, t1, nI_add]
      rfl
    · rw [a3, d12, t2, nI_add]
      rfl
theorem op_drift_ok : op_drift Rel0 := by
  intro X M x y z ⟨E, hN, hR⟩
  have hN' := hN
  obtain ⟨w, h9, hX, hM, hTk⟩ := hN
  have h5 := w.2.2.2.2.1
  unfold w_X7_drift w_X8_drift
  rw [hX.tk, hTk]
  rcases dR y 1 60 with ⟨n, hn1, hn, rfl⟩ | hno
  · refine c_io1 (a := 1) (b := 60) hn1 hn (by omega) (b0 ?_)
    rcases dR z 0 1 with ⟨k, -, hk, rfl⟩ | hno
    · refine c_io1 (a := 0) (b := 1) (by omega) hk (by omega) (b0 ?_)
      refine pk_lt 0 (E 44) (fun h => ?_) (fun h => ?_)
      · refine c_drift hX w h9 hn h (fun X' f => ?_)
        refine m_in1 (a := 1) (b := 60) hn1 hn (by omega) (b1 (m_in1 (a := 0) (b := 1) (by omega) hk (by omega) (b1 (pk_eq (E 44) 0 (fun z => by omega) (fun _ => ?_)))))
        exact m_drift hM hTk w h9 hn h (fun M' g => ⟨rfl, Rel0.q hN' hR f g⟩)
      · exact m_in1 (a := 1) (b := 60) hn1 hn (by omega) (b1 (m_in1 (a := 0) (b := 1) (by omega) hk (by omega) (b1 (pk_eq (E 44) 0 (fun _ => ⟨rfl, E, hN', hR⟩) (fun z => by omega)))))
    · exact c_io0 (a := 0) (b := 1) hno (by omega) (by omega) (b1 (m_in1 (a := 1) (b := 60) hn1 hn (by omega) (b1 (m_in0 (a := 0) (b := 1) hno (by omega) (by omega) (b0 ⟨rfl, E, hN', hR⟩)))))
  · exact c_io0 (a := 1) (b := 60) hno (by omega) (by omega) (b1 (m_in0 (a := 1) (b := 60) hno (by omega) (by omega) (b0 ⟨rfl, E, hN', hR⟩)))
