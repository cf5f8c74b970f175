/-! the class's cells: 0 the object; 1.. now; 11 the trial, 12.. its estate; 22 the tape, 23 its bytes; 24 the reader; 25.. what is seen; 29 the outlook, 30 its rows, 31..36; 37 images, 38 kept, 39 sheets; 40.., 50.. the images; 60.. the sheets -/
def imgI (j : Nat) : Nat := 40 + 10 * j
def shI (j : Nat) : Nat := 60 + 2 * j
def rowI (j : Nat) : Nat := 31 + j
def estL (o : Nat) : Lay := .inl (0, [some (o + 1), some (o + 2), some (o + 3), some (o + 4), some (o + 5), some (o + 6), some (o + 7), some (o + 8), some (o + 9), none, none, none, none, none])
def eLen (k : Nat) : Nat := if k < 2 then 6 else if k < 6 then 5 else 3
def arrL (t n : Nat) : Lay := .inr (.inl (t, n))
def estB (o : Nat) : List Lay := [estL o, arrL 0 6, arrL 0 6, arrL 0 5, arrL 0 5, arrL 0 5, arrL 0 5, arrL 0 3, arrL 0 3, arrL 0 3]
def shB (o : Nat) : List Lay := [.inl (2, [some (o + 1), none, none]), arrL 0 40]
def layXL : List Lay := [.inl (7, [some 1, some 11, some 24, some 22, some 25, some 29, some 37, some 38, some 39, none, none])] ++ estB 1 ++ [.inl (6, [some 12, none, none, none, none, none])] ++ estB 12 ++ [.inl (4, [some 23, none]), arrL 1 160, .inl (5, [some 22, none, none, none, none, none, none, none]), .inl (3, [some 26, some 27, some 28, none]), arrL 0 6, arrL 0 6, arrL 0 6, .inl (1, [some 30, none]), .inr (.inr (5, 6, rowI)), arrL 0 126, arrL 0 126, arrL 0 126, arrL 0 126, arrL 0 126, arrL 0 126, .inr (.inr (3, 2, imgI)), arrL 2 2, .inr (.inr (4, 4, shI))] ++ estB 40 ++ estB 50 ++ shB 60 ++ shB 62 ++ shB 64 ++ shB 66
def layX (o : Nat) : Lay := layXL.getD o (arrL 0 0)
/-- the reference's cells: 0 the object, then its arrays -/
def layML : List Lay := [.inl (8, [some 1, none, some 2, none, none, some 3, none, none, none, none, none, none, none, none, some 4, some 5, none, none, none, none, some 6, none, some 7, some 8, some 9, some 10, some 11, none]), arrL 0 264, arrL 0 44, arrL 0 160, arrL 0 7, arrL 0 25, arrL 0 18, arrL 0 756, arrL 2 2, arrL 0 4, arrL 0 4, arrL 0 160]
def layM (o : Nat) : Lay := layML.getD o (arrL 0 0)
def isE (o : Nat) : Prop := o = 1 ∨ o = 12 ∨ o = 40 ∨ o = 50
def isS (o : Nat) : Prop := o = 60 ∨ o = 62 ∨ o = 64 ∨ o = 66
theorem isE_1 : isE 1 := Or.inl rfl
theorem isE_12 : isE 12 := Or.inr (Or.inl rfl)
theorem isE_40 : isE 40 := Or.inr (Or.inr (Or.inl rfl))
theorem isE_50 : isE 50 := Or.inr (Or.inr (Or.inr rfl))
theorem vp_in2 {i : Int32} (h : vp_in i 2) : i.toNatClampNeg = 0 ∨ i.toNatClampNeg = 1 := by
  have : i.toNatClampNeg < 2 := Nat.not_le.mp fun q => h (Or.inr q)
  omega
theorem vp_in4 {i : Int32} (h : vp_in i 4) : i.toNatClampNeg = 0 ∨ i.toNatClampNeg = 1 ∨ i.toNatClampNeg = 2 ∨ i.toNatClampNeg = 3 := by
  have : i.toNatClampNeg < 4 := Nat.not_le.mp fun q => h (Or.inr q)
  omega
theorem isE_img {i : Int32} (h : vp_in i 2) : isE (imgI i.toNatClampNeg) := by
  rcases vp_in2 h with e | e <;> rw [e]
  · exact isE_40
  · exact isE_50
theorem isS_sh {i : Int32} (h : vp_in i 4) : isS (shI i.toNatClampNeg) := by
  rcases vp_in4 h with e | e | e | e <;> rw [e]
  · exact Or.inl rfl
  · exact Or.inr (Or.inl rfl)
  · exact Or.inr (Or.inr (Or.inl rfl))
  · exact Or.inr (Or.inr (Or.inr rfl))
theorem eO {o : Nat} (h : isE o) : o < 68 := by unfold isE at h; omega
theorem eL {o : Nat} (h : isE o) : layX o = .inl (0, [some (o + 1), some (o + 2), some (o + 3), some (o + 4), some (o + 5), some (o + 6), some (o + 7), some (o + 8), some (o + 9), none, none, none, none, none]) := by
  rcases h with rfl | rfl | rfl | rfl <;> rfl
theorem eA0 {o : Nat} (h : isE o) : o + 1 < 68 ∧ layX (o + 1) = .inr (.inl (0, 6)) := by rcases h with rfl | rfl | rfl | rfl <;> exact ⟨by omega, rfl⟩
theorem eA1 {o : Nat} (h : isE o) : o + 2 < 68 ∧ layX (o + 2) = .inr (.inl (0, 6)) := by rcases h with rfl | rfl | rfl | rfl <;> exact ⟨by omega, rfl⟩
theorem eA2 {o : Nat} (h : isE o) : o + 3 < 68 ∧ layX (o + 3) = .inr (.inl (0, 5)) := by rcases h with rfl | rfl | rfl | rfl <;> exact ⟨by omega, rfl⟩
theorem eA3 {o : Nat} (h : isE o) : o + 4 < 68 ∧ layX (o + 4) = .inr (.inl (0, 5)) := by rcases h with rfl | rfl | rfl | rfl <;> exact ⟨by omega, rfl⟩
theorem eA4 {o : Nat} (h : isE o) : o + 5 < 68 ∧ layX (o + 5) = .inr (.inl (0, 5)) := by rcases h with rfl | rfl | rfl | rfl <;> exact ⟨by omega, rfl⟩
theorem eA5 {o : Nat} (h : isE o) : o + 6 < 68 ∧ layX (o + 6) = .inr (.inl (0, 5)) := by rcases h with rfl | rfl | rfl | rfl <;> exact ⟨by omega, rfl⟩
theorem eA6 {o : Nat} (h : isE o) : o + 7 < 68 ∧ layX (o + 7) = .inr (.inl (0, 3)) := by rcases h with rfl | rfl | rfl | rfl <;> exact ⟨by omega, rfl⟩
theorem eA7 {o : Nat} (h : isE o) : o + 8 < 68 ∧ layX (o + 8) = .inr (.inl (0, 3)) := by rcases h with rfl | rfl | rfl | rfl <;> exact ⟨by omega, rfl⟩
theorem eA8 {o : Nat} (h : isE o) : o + 9 < 68 ∧ layX (o + 9) = .inr (.inl (0, 3)) := by rcases h with rfl | rfl | rfl | rfl <;> exact ⟨by omega, rfl⟩
theorem sO {o : Nat} (h : isS o) : o < 68 := by unfold isS at h; omega
theorem sL {o : Nat} (h : isS o) : layX o = .inl (2, [some (o + 1), none, none]) := by rcases h with rfl | rfl | rfl | rfl <;> rfl
theorem sA {o : Nat} (h : isS o) : o + 1 < 68 ∧ layX (o + 1) = .inr (.inl (0, 40)) := by rcases h with rfl | rfl | rfl | rfl <;> exact ⟨by omega, rfl⟩
theorem rA {i : Int32} (h : vp_in i 6) : rowI i.toNatClampNeg < 68 ∧ layX (rowI i.toNatClampNeg) = .inr (.inl (0, 126)) := by
  have : i.toNatClampNeg < 6 := Nat.not_le.mp fun q => h (Or.inr q)
  generalize i.toNatClampNeg = j at this
  rcases (show j = 0 ∨ j = 1 ∨ j = 2 ∨ j = 3 ∨ j = 4 ∨ j = 5 by omega) with rfl | rfl | rfl | rfl | rfl | rfl <;> exact ⟨by decide, rfl⟩
theorem aw0 {w : Cond} (i : Nat) (h : (k2_sels lw_privs)[i]? = some w) (g : goodWord w = true) : w ∈ ALL := List.mem_filter.mpr ⟨List.mem_append_left _ (List.mem_of_getElem? h), g⟩
theorem aw_t {w : Cond} (h : w ∈ tables_1) (g : goodWord w = true) : w ∈ ALL := List.mem_filter.mpr ⟨List.mem_append_right _ h, g⟩
theorem aw1 {w : Cond} (i : Nat) (h : tables_1_1[i]? = some w) (g : goodWord w = true) : w ∈ ALL := aw_t (List.mem_append_left _ (List.mem_of_getElem? h)) g
theorem aw2 {w : Cond} (i : Nat) (h : tables_1_2[i]? = some w) (g : goodWord w = true) : w ∈ ALL := aw_t (List.mem_append_right _ (List.mem_append_left _ (List.mem_of_getElem? h))) g
theorem aw3 {w : Cond} (i : Nat) (h : tables_1_3[i]? = some w) (g : goodWord w = true) : w ∈ ALL := aw_t (List.mem_append_right _ (List.mem_append_right _ (List.mem_append_left _ (List.mem_of_getElem? h)))) g
theorem aw4 {w : Cond} (i : Nat) (h : tables_1_4[i]? = some w) (g : goodWord w = true) : w ∈ ALL := aw_t (List.mem_append_right _ (List.mem_append_right _ (List.mem_append_right _ (List.mem_append_left _ (List.mem_of_getElem? h))))) g
theorem aw5 {w : Cond} (i : Nat) (h : tables_1_5[i]? = some w) (g : goodWord w = true) : w ∈ ALL := aw_t (List.mem_append_right _ (List.mem_append_right _ (List.mem_append_right _ (List.mem_append_right _ (List.mem_of_getElem? h))))) g
