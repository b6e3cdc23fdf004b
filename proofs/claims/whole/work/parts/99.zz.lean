theorem i_vc : Claimed_1_1 ∧ Claimed_1_2 := sx_claim (fun xs h => l_true xs h)
