set_option maxRecDepth 1000000 in
set_option maxHeartbeats 0 in
theorem tst3 : ((sx_exec sxP sxD [] 100000 1 0 [(0, .ref 1)] [] (sx_push (0, 0, []) 121 (.inl (1, sxD 1)))).isSome) = true := by decide +kernel
theorem i_vc : Claimed_1_1 ∧ Claimed_1_2 := sorry
