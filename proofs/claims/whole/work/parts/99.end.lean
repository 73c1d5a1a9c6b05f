/-! THE END -/
theorem zMain : zGoal := sorry
theorem i_vc : Claimed_1_1 ∧ Claimed_1_2 := law_of zMain
