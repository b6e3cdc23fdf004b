/-! ===== the reference's constructor: printed by wip/gen/gen3.py ===== -/
theorem sx_ctor2 : sy_eq1 (sy_execk sxlim sxP sxKc sxDn 99 48559 2 (sxKc 2) 0 [] [(0, .inl (.ref 1422))] [] (sy_push sxTB (sxDn 1).1 (.inl (1, (sxDn 1).2)))) sxTC = true := by decide +kernel
