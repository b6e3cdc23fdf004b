theorem i_vc : Claimed_1_1 ∧ Claimed_1_2 := sx_claim sy_all
