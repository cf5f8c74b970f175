def Rel0 : Mem → Mem → Prop := fun _ _ => True
theorem rel_ops : Ops Rel0 := sorry
theorem rel_init : ∀ X, initX X → Rel0 X mm8 := fun _ _ => trivial
