/-! ===== boxes of scripts: printed by wip/gen/gen4.py ===== -/
theorem sy_bx12 : sy_good 6 (sy_env 2147483653 0 2147483653 0 4294967295 0 4294967295) = true := by decide +kernel
theorem sy_bx13 : sy_good 6 (sy_env 2147483653 2147483654 2147483659 0 4294967295 0 4294967295) = true := by decide +kernel
theorem sy_bx14 : sy_good 6 (sy_env 2147483653 2147483660 2147483665 0 4294967295 0 4294967295) = true := by decide +kernel
theorem sy_bx15 : sy_good 6 (sy_env 2147483653 2147483666 4294967295 0 4294967295 0 4294967295) = true := by decide +kernel
theorem sy_bx16 : sy_good 6 (sy_env 2147483654 0 2147483651 0 4294967295 0 4294967295) = true := by decide +kernel
theorem sy_bx17 : sy_good 6 (sy_env 2147483654 2147483652 2147483655 0 4294967295 0 4294967295) = true := by decide +kernel
theorem sy_bx18 : sy_good 6 (sy_env 2147483654 2147483656 2147483659 0 4294967295 0 4294967295) = true := by decide +kernel
theorem sy_bx19 : sy_good 6 (sy_env 2147483654 2147483660 2147483663 0 4294967295 0 4294967295) = true := by decide +kernel
theorem sy_bx20 : sy_good 6 (sy_env 2147483654 2147483664 2147483667 0 4294967295 0 4294967295) = true := by decide +kernel
theorem sy_bx21 : sy_good 6 (sy_env 2147483654 2147483668 4294967295 0 4294967295 0 4294967295) = true := by decide +kernel
