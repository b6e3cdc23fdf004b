/-! ===== boxes of scripts: printed by wip/gen/gen4.py ===== -/
theorem sy_bx4 : sy_good 6 (sy_env 2147483652 0 2147483650 0 4294967295 0 4294967295) = true := by decide +kernel
theorem sy_bx5 : sy_good 6 (sy_env 2147483652 2147483651 2147483653 0 4294967295 0 4294967295) = true := by decide +kernel
theorem sy_bx6 : sy_good 6 (sy_env 2147483652 2147483654 2147483656 0 4294967295 0 4294967295) = true := by decide +kernel
theorem sy_bx7 : sy_good 6 (sy_env 2147483652 2147483657 2147483659 0 4294967295 0 4294967295) = true := by decide +kernel
theorem sy_bx8 : sy_good 6 (sy_env 2147483652 2147483660 2147483662 0 4294967295 0 4294967295) = true := by decide +kernel
theorem sy_bx9 : sy_good 6 (sy_env 2147483652 2147483663 2147483665 0 4294967295 0 4294967295) = true := by decide +kernel
theorem sy_bx10 : sy_good 6 (sy_env 2147483652 2147483666 2147483668 0 4294967295 0 4294967295) = true := by decide +kernel
theorem sy_bx11 : sy_good 6 (sy_env 2147483652 2147483669 4294967295 0 4294967295 0 4294967295) = true := by decide +kernel
