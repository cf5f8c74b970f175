/-! at first -/
def E00 : Es := fun i => if i < 6 then 30 else if i < 12 then 2 else 0
theorem E00_WF : WF E00 := by
  refine ⟨fun g hg => ⟨?_, ?_⟩, fun t ht => ?_, fun k hk => ?_, ?_, ?_, ?_, ?_⟩
  · show (if g < 6 then 30 else if g < 12 then 2 else 0) ≤ 60
    rw [if_pos hg]
    omega
  · show (if 6 + g < 6 then 30 else if 6 + g < 12 then 2 else 0) ≤ 9
    rw [if_neg (by omega), if_pos (by omega)]
    omega
  · exact absurd ht (by decide)
  · exact absurd hk (by decide)
  all_goals decide
