/-! ===== boxes of scripts: printed by wip/gen/gen6.py ===== -/
def sy_env (c a1 b1 a2 b2 a3 b3 : Nat) : sy_E := [(0, 4294967295), (a1, b1), (a2, b2), (a3, b3), (0, 4294967295), (0, 4294967295), (c, c)]
theorem sy_b_max (x : Int32) : sy_b x ≤ 4294967295 := by
  unfold sy_b
  omega
theorem sy_env_ok {ρ : Nat → Int32} {c a1 b1 a2 b2 a3 b3 : Nat} (h6 : sy_b (ρ 6) = c) (h1 : a1 ≤ sy_b (ρ 1) ∧ sy_b (ρ 1) ≤ b1) (h2 : a2 ≤ sy_b (ρ 2) ∧ sy_b (ρ 2) ≤ b2) (h3 : a3 ≤ sy_b (ρ 3) ∧ sy_b (ρ 3) ≤ b3) : sy_e ρ (sy_env c a1 b1 a2 b2 a3 b3) := by
  intro k
  match k with
  | 0 => exact ⟨Nat.zero_le _, sy_b_max _⟩
  | 1 => exact h1
  | 2 => exact h2
  | 3 => exact h3
  | 4 => exact ⟨Nat.zero_le _, sy_b_max _⟩
  | 5 => exact ⟨Nat.zero_le _, sy_b_max _⟩
  | 6 => exact ⟨Nat.le_of_eq h6.symm, Nat.le_of_eq h6⟩
  | k + 7 => exact ⟨Nat.zero_le _, sy_b_max _⟩
theorem sz_q0 : sz_good 0 [] = true := by decide +kernel
theorem sz_q1 : sz_good 1 [] = true := by decide +kernel
theorem sz_q2 : sz_good 2 [] = true := by decide +kernel
theorem sz_q3 : sz_good 3 [] = true := by decide +kernel
theorem sz_q4 : sz_good 4 [] = true := by decide +kernel
theorem sz_q5 : sz_good 5 [] = true := by decide +kernel
theorem sz_bx0 : sz_good 6 (sy_env 2147483648 0 4294967295 0 4294967295 0 4294967295) = true := by decide +kernel
theorem sz_bx1 : sz_good 6 (sy_env 2147483649 0 4294967295 0 4294967295 0 4294967295) = true := by decide +kernel
theorem sz_bx2 : sz_good 6 (sy_env 2147483650 0 4294967295 0 4294967295 0 4294967295) = true := by decide +kernel
theorem sz_bx3 : sz_good 6 (sy_env 2147483651 0 4294967295 0 4294967295 0 4294967295) = true := by decide +kernel
theorem sz_bx26 : sz_good 6 (sy_env 2147483656 0 4294967295 0 4294967295 0 4294967295) = true := by decide +kernel
theorem sz_bx27 : sz_good 6 (sy_env 2147483657 0 4294967295 0 4294967295 0 4294967295) = true := by decide +kernel
theorem sz_bx102 : sz_good 6 (sy_env 2147483661 0 4294967295 0 4294967295 0 4294967295) = true := by decide +kernel
theorem sz_bx103 : sz_good 6 (sy_env 2147483662 0 4294967295 0 4294967295 0 4294967295) = true := by decide +kernel
theorem sz_bx104 : sz_good 6 (sy_env 2147483663 0 4294967295 0 4294967295 0 4294967295) = true := by decide +kernel
theorem sz_bx105 : sz_good 6 (sy_env 2147483664 0 4294967295 0 4294967295 0 4294967295) = true := by decide +kernel
theorem sz_bx106 : sz_good 6 (sy_env 2147483665 0 4294967295 0 4294967295 0 4294967295) = true := by decide +kernel
theorem sz_bx107 : sz_good 6 (sy_env 2147483666 0 4294967295 0 4294967295 0 4294967295) = true := by decide +kernel
theorem sz_bx108 : sz_good 6 (sy_env 2147483667 0 4294967295 0 4294967295 0 4294967295) = true := by decide +kernel
theorem sz_bx109 : sz_good 6 [(0, 4294967295), (0, 4294967295), (0, 4294967295), (0, 4294967295), (0, 4294967295), (0, 4294967295), (2147483668, 2147483679)] = true := by decide +kernel
