/-! ===== the simulation ===== -/
theorem sim_main : Sim Rel0 := sim_but_read sim_read
