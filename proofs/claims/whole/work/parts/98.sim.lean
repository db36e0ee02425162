def Rel0 : Nat → ST → ST → Prop := fun _ _ _ => True
theorem sim_main : Sim Rel0 := sorry
