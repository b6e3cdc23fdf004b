/-! ===== boxes of scripts: printed by wip/gen/gen6.py ===== -/
theorem sz_bx22 : sz_good 6 (sy_env 2147483655 0 2147483653 0 4294967295 0 4294967295) = true := by decide +kernel
theorem sz_bx23 : sz_good 6 (sy_env 2147483655 2147483654 2147483659 0 4294967295 0 4294967295) = true := by decide +kernel
theorem sz_bx24 : sz_good 6 (sy_env 2147483655 2147483660 2147483665 0 4294967295 0 4294967295) = true := by decide +kernel
theorem sz_bx25 : sz_good 6 (sy_env 2147483655 2147483666 4294967295 0 4294967295 0 4294967295) = true := by decide +kernel
theorem sz_bx95 : sz_good 6 (sy_env 2147483659 0 2147483653 0 4294967295 0 4294967295) = true := by decide +kernel
theorem sz_bx96 : sz_good 6 (sy_env 2147483659 2147483654 2147483659 0 4294967295 0 4294967295) = true := by decide +kernel
theorem sz_bx97 : sz_good 6 (sy_env 2147483659 2147483660 2147483665 0 4294967295 0 4294967295) = true := by decide +kernel
theorem sz_bx98 : sz_good 6 (sy_env 2147483659 2147483666 4294967295 0 4294967295 0 4294967295) = true := by decide +kernel
theorem sz_bx99 : sz_good 6 (sy_env 2147483660 0 2147483657 0 4294967295 0 4294967295) = true := by decide +kernel
theorem sz_bx100 : sz_good 6 (sy_env 2147483660 2147483658 2147483665 0 4294967295 0 4294967295) = true := by decide +kernel
theorem sz_bx101 : sz_good 6 (sy_env 2147483660 2147483666 4294967295 0 4294967295 0 4294967295) = true := by decide +kernel
