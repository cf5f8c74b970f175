/-! at first -/
def E00 : Es := fun i => if i < 6 then 30 else if i < 12 then 2 else 0
theorem E00_WF : WF E00 := by
  refine ⟨fun g hg => ⟨?_, ?_⟩, fun t ht => ?_, fun k hk => ?_, ?_, ?_, ?_, ?_⟩
  · show (if g < 6 then 30 else if g < 12 then 2 else 0) ≤ 60
    rw [if_pos hg]
    omega
  · show (if 6 + g < 6 then 30 else if 6 + g < 12 then 2 else 0) ≤ 9
    rw [if_neg (by omega), if_pos (by omega)]
    omega
  · exact absurd (show t < 0 from ht) (Nat.not_lt_zero _)
  · exact absurd (show k < 0 from hk) (Nat.not_lt_zero _)
  all_goals decide
theorem ok0 : ∀ i, i < 45 → ok 0 0 i → i < 12 ∨ 41 ≤ i := fun i hi h => by
  rcases h with h | h | h | h <;> omega
theorem E00_l : ∀ i, i < 6 → E00 i = 30 := fun i hi => if_pos hi
theorem E00_g : ∀ i, 6 ≤ i → i < 12 → E00 i = 2 := fun i h1 h2 => by
  show (if i < 6 then 30 else if i < 12 then 2 else 0) = 2
  rw [if_neg (by omega), if_pos h2]
theorem E00_z : ∀ i, 12 ≤ i → E00 i = 0 := fun i h1 => by
  show (if i < 6 then 30 else if i < 12 then 2 else 0) = 0
  rw [if_neg (by omega), if_neg (by omega)]
theorem clr_EX {X : Mem} {o : Nat} (h : clr (fun i => X (o + i))) : EX X o E00 := by
  intro i hi hok
  have h12 := ok0 i hi hok
  obtain ⟨c1, c2, c3, c4, c5, -⟩ := h
  by_cases z : i < 6
  · rw [(cxg i z).1, E00_l i z]
    exact (c1 i z).1
  · by_cases z2 : i < 12
    · have e := (cxg (i - 6) (by omega)).2
      rw [show 6 + (i - 6) = i by omega] at e
      rw [e, E00_g i (by omega) z2]
      exact (c1 (i - 6) (by omega)).2
    · rw [E00_z i (by omega)]
      rcases (show i = 41 ∨ i = 42 ∨ i = 43 ∨ i = 44 by omega) with rfl | rfl | rfl | rfl
      · exact c3
      · exact c4
      · exact c5
      · exact c2
theorem zero_PM {M : Mem} {p : Nat} (h : ∀ i, i < 44 → M 1 (p + i) = 0) : PM M p E00 := by
  intro i hi hok
  have h12 := ok0 i (by omega) hok
  rw [h i hi]
  unfold off
  by_cases z : i < 6
  · rw [if_pos z, E00_l i z]
    exact (Int32.sub_self _).symm
  · by_cases z2 : i < 12
    · rw [if_neg z, if_pos z2, E00_g i (by omega) z2]
      exact (Int32.sub_self _).symm
    · rw [if_neg z, if_neg z2, E00_z i (by omega)]
      exact (Int32.sub_self _).symm
theorem rel_init : ∀ X, initX X → Rel0 X mm8 := by
  intro X ⟨a1, a12, a40, a50, h0, h11, h22, h24, h25, h29, h38, h60, h62, h64, h66⟩
  refine ⟨E00, ⟨E00_WF, by decide, clr_EX a1, zero_PM (fun i _ => rfl), rfl⟩, fun k hk => ⟨by rw [h38]; rfl, Or.inl rfl⟩, ⟨0, by omega, h22 1, rfl, fun j hj => by omega⟩, ⟨0, by omega, h25 3, rfl, fun j hj => by omega⟩, fun k hk => ?_, ⟨h0 9, h0 10⟩, ⟨rfl, rfl⟩⟩
  rcases (show k = 0 ∨ k = 1 ∨ k = 2 ∨ k = 3 by omega) with rfl | rfl | rfl | rfl
  · exact Or.inl ⟨h60, rfl⟩
  · exact Or.inl ⟨h62, rfl⟩
  · exact Or.inl ⟨h64, rfl⟩
  · exact Or.inl ⟨h66, rfl⟩
