/-! ===== boxes of scripts: printed by wip/gen/gen6.py ===== -/
theorem sz_bx12 : sz_good 6 (sy_env 2147483653 0 2147483653 0 4294967295 0 4294967295) = true := by decide +kernel
theorem sz_bx13 : sz_good 6 (sy_env 2147483653 2147483654 2147483659 0 4294967295 0 4294967295) = true := by decide +kernel
theorem sz_bx14 : sz_good 6 (sy_env 2147483653 2147483660 2147483665 0 4294967295 0 4294967295) = true := by decide +kernel
theorem sz_bx15 : sz_good 6 (sy_env 2147483653 2147483666 4294967295 0 4294967295 0 4294967295) = true := by decide +kernel
theorem sz_bx16 : sz_good 6 (sy_env 2147483654 0 2147483651 0 4294967295 0 4294967295) = true := by decide +kernel
theorem sz_bx17 : sz_good 6 (sy_env 2147483654 2147483652 2147483655 0 4294967295 0 4294967295) = true := by decide +kernel
theorem sz_bx18 : sz_good 6 (sy_env 2147483654 2147483656 2147483659 0 4294967295 0 4294967295) = true := by decide +kernel
theorem sz_bx19 : sz_good 6 (sy_env 2147483654 2147483660 2147483663 0 4294967295 0 4294967295) = true := by decide +kernel
theorem sz_bx20 : sz_good 6 (sy_env 2147483654 2147483664 2147483667 0 4294967295 0 4294967295) = true := by decide +kernel
theorem sz_bx21 : sz_good 6 (sy_env 2147483654 2147483668 4294967295 0 4294967295 0 4294967295) = true := by decide +kernel
