/-! WHAT IS OWED -/
theorem i_vc : Claimed_1_1 ∧ Claimed_1_2 := en_vc en_G_ok
