/-! THE END -/
theorem i_vc : Claimed_1_1 ∧ Claimed_1_2 := law_of2 zMain2
