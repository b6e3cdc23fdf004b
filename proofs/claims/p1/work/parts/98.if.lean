/-! ===== boxes of scripts: printed by wip/gen/gen4.py ===== -/
theorem sy_bx22 : sy_good 6 (sy_env 2147483655 0 2147483653 0 4294967295 0 4294967295) = true := by decide +kernel
theorem sy_bx23 : sy_good 6 (sy_env 2147483655 2147483654 2147483659 0 4294967295 0 4294967295) = true := by decide +kernel
theorem sy_bx24 : sy_good 6 (sy_env 2147483655 2147483660 2147483665 0 4294967295 0 4294967295) = true := by decide +kernel
theorem sy_bx25 : sy_good 6 (sy_env 2147483655 2147483666 4294967295 0 4294967295 0 4294967295) = true := by decide +kernel
theorem sy_bx95 : sy_good 6 (sy_env 2147483659 0 2147483653 0 4294967295 0 4294967295) = true := by decide +kernel
theorem sy_bx96 : sy_good 6 (sy_env 2147483659 2147483654 2147483659 0 4294967295 0 4294967295) = true := by decide +kernel
theorem sy_bx97 : sy_good 6 (sy_env 2147483659 2147483660 2147483665 0 4294967295 0 4294967295) = true := by decide +kernel
theorem sy_bx98 : sy_good 6 (sy_env 2147483659 2147483666 4294967295 0 4294967295 0 4294967295) = true := by decide +kernel
theorem sy_bx99 : sy_good 6 (sy_env 2147483660 0 2147483657 0 4294967295 0 4294967295) = true := by decide +kernel
theorem sy_bx100 : sy_good 6 (sy_env 2147483660 2147483658 2147483665 0 4294967295 0 4294967295) = true := by decide +kernel
theorem sy_bx101 : sy_good 6 (sy_env 2147483660 2147483666 4294967295 0 4294967295 0 4294967295) = true := by decide +kernel
