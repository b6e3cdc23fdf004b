/-! ===== boxes of scripts: printed by wip/gen/gen6.py ===== -/
theorem sz_bx4 : sz_good 6 (sy_env 2147483652 0 2147483650 0 4294967295 0 4294967295) = true := by decide +kernel
theorem sz_bx5 : sz_good 6 (sy_env 2147483652 2147483651 2147483653 0 4294967295 0 4294967295) = true := by decide +kernel
theorem sz_bx6 : sz_good 6 (sy_env 2147483652 2147483654 2147483656 0 4294967295 0 4294967295) = true := by decide +kernel
theorem sz_bx7 : sz_good 6 (sy_env 2147483652 2147483657 2147483659 0 4294967295 0 4294967295) = true := by decide +kernel
theorem sz_bx8 : sz_good 6 (sy_env 2147483652 2147483660 2147483662 0 4294967295 0 4294967295) = true := by decide +kernel
theorem sz_bx9 : sz_good 6 (sy_env 2147483652 2147483663 2147483665 0 4294967295 0 4294967295) = true := by decide +kernel
theorem sz_bx10 : sz_good 6 (sy_env 2147483652 2147483666 2147483668 0 4294967295 0 4294967295) = true := by decide +kernel
theorem sz_bx11 : sz_good 6 (sy_env 2147483652 2147483669 4294967295 0 4294967295 0 4294967295) = true := by decide +kernel
