/-! ===== the boxes cover all scripts: printed by wip/gen/gen6.py ===== -/
theorem sz_case0 {ρ : Nat → Int32} (h6 : sy_b (ρ 6) = 2147483648) : ∃ E, sy_e ρ E ∧ sz_good 6 E = true := by
  have m1 := sy_b_max (ρ 1)
  have m2 := sy_b_max (ρ 2)
  have m3 := sy_b_max (ρ 3)
  exact ⟨_, sy_env_ok h6 ⟨by omega, by omega⟩ ⟨by omega, by omega⟩ ⟨by omega, by omega⟩, sz_bx0⟩
theorem sz_case1 {ρ : Nat → Int32} (h6 : sy_b (ρ 6) = 2147483649) : ∃ E, sy_e ρ E ∧ sz_good 6 E = true := by
  have m1 := sy_b_max (ρ 1)
  have m2 := sy_b_max (ρ 2)
  have m3 := sy_b_max (ρ 3)
  exact ⟨_, sy_env_ok h6 ⟨by omega, by omega⟩ ⟨by omega, by omega⟩ ⟨by omega, by omega⟩, sz_bx1⟩
theorem sz_case2 {ρ : Nat → Int32} (h6 : sy_b (ρ 6) = 2147483650) : ∃ E, sy_e ρ E ∧ sz_good 6 E = true := by
  have m1 := sy_b_max (ρ 1)
  have m2 := sy_b_max (ρ 2)
  have m3 := sy_b_max (ρ 3)
  exact ⟨_, sy_env_ok h6 ⟨by omega, by omega⟩ ⟨by omega, by omega⟩ ⟨by omega, by omega⟩, sz_bx2⟩
theorem sz_case3 {ρ : Nat → Int32} (h6 : sy_b (ρ 6) = 2147483651) : ∃ E, sy_e ρ E ∧ sz_good 6 E = true := by
  have m1 := sy_b_max (ρ 1)
  have m2 := sy_b_max (ρ 2)
  have m3 := sy_b_max (ρ 3)
  exact ⟨_, sy_env_ok h6 ⟨by omega, by omega⟩ ⟨by omega, by omega⟩ ⟨by omega, by omega⟩, sz_bx3⟩
theorem sz_case4 {ρ : Nat → Int32} (h6 : sy_b (ρ 6) = 2147483652) : ∃ E, sy_e ρ E ∧ sz_good 6 E = true := by
  have m1 := sy_b_max (ρ 1)
  have m2 := sy_b_max (ρ 2)
  have m3 := sy_b_max (ρ 3)
  by_cases h10 : sy_b (ρ 1) < 2147483651
  · exact ⟨_, sy_env_ok h6 ⟨by omega, by omega⟩ ⟨by omega, by omega⟩ ⟨by omega, by omega⟩, sz_bx4⟩
  by_cases h11 : sy_b (ρ 1) < 2147483654
  · exact ⟨_, sy_env_ok h6 ⟨by omega, by omega⟩ ⟨by omega, by omega⟩ ⟨by omega, by omega⟩, sz_bx5⟩
  by_cases h12 : sy_b (ρ 1) < 2147483657
  · exact ⟨_, sy_env_ok h6 ⟨by omega, by omega⟩ ⟨by omega, by omega⟩ ⟨by omega, by omega⟩, sz_bx6⟩
  by_cases h13 : sy_b (ρ 1) < 2147483660
  · exact ⟨_, sy_env_ok h6 ⟨by omega, by omega⟩ ⟨by omega, by omega⟩ ⟨by omega, by omega⟩, sz_bx7⟩
  by_cases h14 : sy_b (ρ 1) < 2147483663
  · exact ⟨_, sy_env_ok h6 ⟨by omega, by omega⟩ ⟨by omega, by omega⟩ ⟨by omega, by omega⟩, sz_bx8⟩
  by_cases h15 : sy_b (ρ 1) < 2147483666
  · exact ⟨_, sy_env_ok h6 ⟨by omega, by omega⟩ ⟨by omega, by omega⟩ ⟨by omega, by omega⟩, sz_bx9⟩
  by_cases h16 : sy_b (ρ 1) < 2147483669
  · exact ⟨_, sy_env_ok h6 ⟨by omega, by omega⟩ ⟨by omega, by omega⟩ ⟨by omega, by omega⟩, sz_bx10⟩
  exact ⟨_, sy_env_ok h6 ⟨by omega, by omega⟩ ⟨by omega, by omega⟩ ⟨by omega, by omega⟩, sz_bx11⟩
theorem sz_case5 {ρ : Nat → Int32} (h6 : sy_b (ρ 6) = 2147483653) : ∃ E, sy_e ρ E ∧ sz_good 6 E = true := by
  have m1 := sy_b_max (ρ 1)
  have m2 := sy_b_max (ρ 2)
  have m3 := sy_b_max (ρ 3)
  by_cases h10 : sy_b (ρ 1) < 2147483654
  · exact ⟨_, sy_env_ok h6 ⟨by omega, by omega⟩ ⟨by omega, by omega⟩ ⟨by omega, by omega⟩, sz_bx12⟩
  by_cases h11 : sy_b (ρ 1) < 2147483660
  · exact ⟨_, sy_env_ok h6 ⟨by omega, by omega⟩ ⟨by omega, by omega⟩ ⟨by omega, by omega⟩, sz_bx13⟩
  by_cases h12 : sy_b (ρ 1) < 2147483666
  · exact ⟨_, sy_env_ok h6 ⟨by omega, by omega⟩ ⟨by omega, by omega⟩ ⟨by omega, by omega⟩, sz_bx14⟩
  exact ⟨_, sy_env_ok h6 ⟨by omega, by omega⟩ ⟨by omega, by omega⟩ ⟨by omega, by omega⟩, sz_bx15⟩
theorem sz_case6 {ρ : Nat → Int32} (h6 : sy_b (ρ 6) = 2147483654) : ∃ E, sy_e ρ E ∧ sz_good 6 E = true := by
  have m1 := sy_b_max (ρ 1)
  have m2 := sy_b_max (ρ 2)
  have m3 := sy_b_max (ρ 3)
  by_cases h10 : sy_b (ρ 1) < 2147483652
  · exact ⟨_, sy_env_ok h6 ⟨by omega, by omega⟩ ⟨by omega, by omega⟩ ⟨by omega, by omega⟩, sz_bx16⟩
  by_cases h11 : sy_b (ρ 1) < 2147483656
  · exact ⟨_, sy_env_ok h6 ⟨by omega, by omega⟩ ⟨by omega, by omega⟩ ⟨by omega, by omega⟩, sz_bx17⟩
  by_cases h12 : sy_b (ρ 1) < 2147483660
  · exact ⟨_, sy_env_ok h6 ⟨by omega, by omega⟩ ⟨by omega, by omega⟩ ⟨by omega, by omega⟩, sz_bx18⟩
  by_cases h13 : sy_b (ρ 1) < 2147483664
  · exact ⟨_, sy_env_ok h6 ⟨by omega, by omega⟩ ⟨by omega, by omega⟩ ⟨by omega, by omega⟩, sz_bx19⟩
  by_cases h14 : sy_b (ρ 1) < 2147483668
  · exact ⟨_, sy_env_ok h6 ⟨by omega, by omega⟩ ⟨by omega, by omega⟩ ⟨by omega, by omega⟩, sz_bx20⟩
  exact ⟨_, sy_env_ok h6 ⟨by omega, by omega⟩ ⟨by omega, by omega⟩ ⟨by omega, by omega⟩, sz_bx21⟩
theorem sz_case7 {ρ : Nat → Int32} (h6 : sy_b (ρ 6) = 2147483655) : ∃ E, sy_e ρ E ∧ sz_good 6 E = true := by
  have m1 := sy_b_max (ρ 1)
  have m2 := sy_b_max (ρ 2)
  have m3 := sy_b_max (ρ 3)
  by_cases h10 : sy_b (ρ 1) < 2147483654
  · exact ⟨_, sy_env_ok h6 ⟨by omega, by omega⟩ ⟨by omega, by omega⟩ ⟨by omega, by omega⟩, sz_bx22⟩
  by_cases h11 : sy_b (ρ 1) < 2147483660
  · exact ⟨_, sy_env_ok h6 ⟨by omega, by omega⟩ ⟨by omega, by omega⟩ ⟨by omega, by omega⟩, sz_bx23⟩
  by_cases h12 : sy_b (ρ 1) < 2147483666
  · exact ⟨_, sy_env_ok h6 ⟨by omega, by omega⟩ ⟨by omega, by omega⟩ ⟨by omega, by omega⟩, sz_bx24⟩
  exact ⟨_, sy_env_ok h6 ⟨by omega, by omega⟩ ⟨by omega, by omega⟩ ⟨by omega, by omega⟩, sz_bx25⟩
theorem sz_case8 {ρ : Nat → Int32} (h6 : sy_b (ρ 6) = 2147483656) : ∃ E, sy_e ρ E ∧ sz_good 6 E = true := by
  have m1 := sy_b_max (ρ 1)
  have m2 := sy_b_max (ρ 2)
  have m3 := sy_b_max (ρ 3)
  exact ⟨_, sy_env_ok h6 ⟨by omega, by omega⟩ ⟨by omega, by omega⟩ ⟨by omega, by omega⟩, sz_bx26⟩
theorem sz_case9 {ρ : Nat → Int32} (h6 : sy_b (ρ 6) = 2147483657) : ∃ E, sy_e ρ E ∧ sz_good 6 E = true := by
  have m1 := sy_b_max (ρ 1)
  have m2 := sy_b_max (ρ 2)
  have m3 := sy_b_max (ρ 3)
  exact ⟨_, sy_env_ok h6 ⟨by omega, by omega⟩ ⟨by omega, by omega⟩ ⟨by omega, by omega⟩, sz_bx27⟩
theorem sz_case10 {ρ : Nat → Int32} (h6 : sy_b (ρ 6) = 2147483658) : ∃ E, sy_e ρ E ∧ sz_good 6 E = true := by
  have m1 := sy_b_max (ρ 1)
  have m2 := sy_b_max (ρ 2)
  have m3 := sy_b_max (ρ 3)
  by_cases h10 : sy_b (ρ 1) < 2147483648
  · exact ⟨_, sy_env_ok h6 ⟨by omega, by omega⟩ ⟨by omega, by omega⟩ ⟨by omega, by omega⟩, sz_bx28⟩
  by_cases h11 : sy_b (ρ 1) < 2147483649
  · exact ⟨_, sy_env_ok h6 ⟨by omega, by omega⟩ ⟨by omega, by omega⟩ ⟨by omega, by omega⟩, sz_bx29⟩
  by_cases h12 : sy_b (ρ 1) < 2147483650
  · exact ⟨_, sy_env_ok h6 ⟨by omega, by omega⟩ ⟨by omega, by omega⟩ ⟨by omega, by omega⟩, sz_bx30⟩
  by_cases h13 : sy_b (ρ 1) < 2147483651
  · exact ⟨_, sy_env_ok h6 ⟨by omega, by omega⟩ ⟨by omega, by omega⟩ ⟨by omega, by omega⟩, sz_bx31⟩
  by_cases h14 : sy_b (ρ 1) < 2147483652
  · by_cases h20 : sy_b (ρ 2) < 2147483651
    · exact ⟨_, sy_env_ok h6 ⟨by omega, by omega⟩ ⟨by omega, by omega⟩ ⟨by omega, by omega⟩, sz_bx32⟩
    by_cases h21 : sy_b (ρ 2) < 2147483653
    · exact ⟨_, sy_env_ok h6 ⟨by omega, by omega⟩ ⟨by omega, by omega⟩ ⟨by omega, by omega⟩, sz_bx33⟩
    by_cases h22 : sy_b (ρ 2) < 2147483655
    · exact ⟨_, sy_env_ok h6 ⟨by omega, by omega⟩ ⟨by omega, by omega⟩ ⟨by omega, by omega⟩, sz_bx34⟩
    by_cases h23 : sy_b (ρ 2) < 2147483657
    · exact ⟨_, sy_env_ok h6 ⟨by omega, by omega⟩ ⟨by omega, by omega⟩ ⟨by omega, by omega⟩, sz_bx35⟩
    by_cases h24 : sy_b (ρ 2) < 2147483659
    · exact ⟨_, sy_env_ok h6 ⟨by omega, by omega⟩ ⟨by omega, by omega⟩ ⟨by omega, by omega⟩, sz_bx36⟩
    by_cases h25 : sy_b (ρ 2) < 2147483661
    · exact ⟨_, sy_env_ok h6 ⟨by omega, by omega⟩ ⟨by omega, by omega⟩ ⟨by omega, by omega⟩, sz_bx37⟩
    by_cases h26 : sy_b (ρ 2) < 2147483663
    · exact ⟨_, sy_env_ok h6 ⟨by omega, by omega⟩ ⟨by omega, by omega⟩ ⟨by omega, by omega⟩, sz_bx38⟩
    by_cases h27 : sy_b (ρ 2) < 2147483665
    · exact ⟨_, sy_env_ok h6 ⟨by omega, by omega⟩ ⟨by omega, by omega⟩ ⟨by omega, by omega⟩, sz_bx39⟩
    by_cases h28 : sy_b (ρ 2) < 2147483667
    · exact ⟨_, sy_env_ok h6 ⟨by omega, by omega⟩ ⟨by omega, by omega⟩ ⟨by omega, by omega⟩, sz_bx40⟩
    by_cases h29 : sy_b (ρ 2) < 2147483669
    · exact ⟨_, sy_env_ok h6 ⟨by omega, by omega⟩ ⟨by omega, by omega⟩ ⟨by omega, by omega⟩, sz_bx41⟩
    by_cases h210 : sy_b (ρ 2) < 2147483671
    · exact ⟨_, sy_env_ok h6 ⟨by omega, by omega⟩ ⟨by omega, by omega⟩ ⟨by omega, by omega⟩, sz_bx42⟩
    exact ⟨_, sy_env_ok h6 ⟨by omega, by omega⟩ ⟨by omega, by omega⟩ ⟨by omega, by omega⟩, sz_bx43⟩
  by_cases h15 : sy_b (ρ 1) < 2147483653
  · by_cases h20 : sy_b (ρ 2) < 2147483650
    · exact ⟨_, sy_env_ok h6 ⟨by omega, by omega⟩ ⟨by omega, by omega⟩ ⟨by omega, by omega⟩, sz_bx44⟩
    by_cases h21 : sy_b (ρ 2) < 2147483651
    · exact ⟨_, sy_env_ok h6 ⟨by omega, by omega⟩ ⟨by omega, by omega⟩ ⟨by omega, by omega⟩, sz_bx45⟩
    by_cases h22 : sy_b (ρ 2) < 2147483652
    · exact ⟨_, sy_env_ok h6 ⟨by omega, by omega⟩ ⟨by omega, by omega⟩ ⟨by omega, by omega⟩, sz_bx46⟩
    by_cases h23 : sy_b (ρ 2) < 2147483653
    · exact ⟨_, sy_env_ok h6 ⟨by omega, by omega⟩ ⟨by omega, by omega⟩ ⟨by omega, by omega⟩, sz_bx47⟩
    by_cases h24 : sy_b (ρ 2) < 2147483654
    · exact ⟨_, sy_env_ok h6 ⟨by omega, by omega⟩ ⟨by omega, by omega⟩ ⟨by omega, by omega⟩, sz_bx48⟩
    by_cases h25 : sy_b (ρ 2) < 2147483655
    · exact ⟨_, sy_env_ok h6 ⟨by omega, by omega⟩ ⟨by omega, by omega⟩ ⟨by omega, by omega⟩, sz_bx49⟩
    by_cases h26 : sy_b (ρ 2) < 2147483656
    · exact ⟨_, sy_env_ok h6 ⟨by omega, by omega⟩ ⟨by omega, by omega⟩ ⟨by omega, by omega⟩, sz_bx50⟩
    by_cases h27 : sy_b (ρ 2) < 2147483657
    · exact ⟨_, sy_env_ok h6 ⟨by omega, by omega⟩ ⟨by omega, by omega⟩ ⟨by omega, by omega⟩, sz_bx51⟩
    by_cases h28 : sy_b (ρ 2) < 2147483658
    · exact ⟨_, sy_env_ok h6 ⟨by omega, by omega⟩ ⟨by omega, by omega⟩ ⟨by omega, by omega⟩, sz_bx52⟩
    by_cases h29 : sy_b (ρ 2) < 2147483659
    · exact ⟨_, sy_env_ok h6 ⟨by omega, by omega⟩ ⟨by omega, by omega⟩ ⟨by omega, by omega⟩, sz_bx53⟩
    by_cases h210 : sy_b (ρ 2) < 2147483660
    · exact ⟨_, sy_env_ok h6 ⟨by omega, by omega⟩ ⟨by omega, by omega⟩ ⟨by omega, by omega⟩, sz_bx54⟩
    by_cases h211 : sy_b (ρ 2) < 2147483661
    · exact ⟨_, sy_env_ok h6 ⟨by omega, by omega⟩ ⟨by omega, by omega⟩ ⟨by omega, by omega⟩, sz_bx55⟩
    by_cases h212 : sy_b (ρ 2) < 2147483662
    · exact ⟨_, sy_env_ok h6 ⟨by omega, by omega⟩ ⟨by omega, by omega⟩ ⟨by omega, by omega⟩, sz_bx56⟩
    by_cases h213 : sy_b (ρ 2) < 2147483663
    · exact ⟨_, sy_env_ok h6 ⟨by omega, by omega⟩ ⟨by omega, by omega⟩ ⟨by omega, by omega⟩, sz_bx57⟩
    by_cases h214 : sy_b (ρ 2) < 2147483664
    · exact ⟨_, sy_env_ok h6 ⟨by omega, by omega⟩ ⟨by omega, by omega⟩ ⟨by omega, by omega⟩, sz_bx58⟩
    by_cases h215 : sy_b (ρ 2) < 2147483665
    · exact ⟨_, sy_env_ok h6 ⟨by omega, by omega⟩ ⟨by omega, by omega⟩ ⟨by omega, by omega⟩, sz_bx59⟩
    by_cases h216 : sy_b (ρ 2) < 2147483666
    · exact ⟨_, sy_env_ok h6 ⟨by omega, by omega⟩ ⟨by omega, by omega⟩ ⟨by omega, by omega⟩, sz_bx60⟩
    by_cases h217 : sy_b (ρ 2) < 2147483667
    · exact ⟨_, sy_env_ok h6 ⟨by omega, by omega⟩ ⟨by omega, by omega⟩ ⟨by omega, by omega⟩, sz_bx61⟩
    by_cases h218 : sy_b (ρ 2) < 2147483668
    · exact ⟨_, sy_env_ok h6 ⟨by omega, by omega⟩ ⟨by omega, by omega⟩ ⟨by omega, by omega⟩, sz_bx62⟩
    by_cases h219 : sy_b (ρ 2) < 2147483669
    · exact ⟨_, sy_env_ok h6 ⟨by omega, by omega⟩ ⟨by omega, by omega⟩ ⟨by omega, by omega⟩, sz_bx63⟩
    by_cases h220 : sy_b (ρ 2) < 2147483670
    · exact ⟨_, sy_env_ok h6 ⟨by omega, by omega⟩ ⟨by omega, by omega⟩ ⟨by omega, by omega⟩, sz_bx64⟩
    by_cases h221 : sy_b (ρ 2) < 2147483671
    · exact ⟨_, sy_env_ok h6 ⟨by omega, by omega⟩ ⟨by omega, by omega⟩ ⟨by omega, by omega⟩, sz_bx65⟩
    by_cases h222 : sy_b (ρ 2) < 2147483672
    · exact ⟨_, sy_env_ok h6 ⟨by omega, by omega⟩ ⟨by omega, by omega⟩ ⟨by omega, by omega⟩, sz_bx66⟩
    exact ⟨_, sy_env_ok h6 ⟨by omega, by omega⟩ ⟨by omega, by omega⟩ ⟨by omega, by omega⟩, sz_bx67⟩
  by_cases h16 : sy_b (ρ 1) < 2147483654
  · exact ⟨_, sy_env_ok h6 ⟨by omega, by omega⟩ ⟨by omega, by omega⟩ ⟨by omega, by omega⟩, sz_bx68⟩
  by_cases h17 : sy_b (ρ 1) < 2147483655
  · by_cases h20 : sy_b (ρ 2) < 2147483650
    · exact ⟨_, sy_env_ok h6 ⟨by omega, by omega⟩ ⟨by omega, by omega⟩ ⟨by omega, by omega⟩, sz_bx69⟩
    by_cases h21 : sy_b (ρ 2) < 2147483651
    · exact ⟨_, sy_env_ok h6 ⟨by omega, by omega⟩ ⟨by omega, by omega⟩ ⟨by omega, by omega⟩, sz_bx70⟩
    by_cases h22 : sy_b (ρ 2) < 2147483652
    · exact ⟨_, sy_env_ok h6 ⟨by omega, by omega⟩ ⟨by omega, by omega⟩ ⟨by omega, by omega⟩, sz_bx71⟩
    by_cases h23 : sy_b (ρ 2) < 2147483653
    · exact ⟨_, sy_env_ok h6 ⟨by omega, by omega⟩ ⟨by omega, by omega⟩ ⟨by omega, by omega⟩, sz_bx72⟩
    by_cases h24 : sy_b (ρ 2) < 2147483654
    · exact ⟨_, sy_env_ok h6 ⟨by omega, by omega⟩ ⟨by omega, by omega⟩ ⟨by omega, by omega⟩, sz_bx73⟩
    by_cases h25 : sy_b (ρ 2) < 2147483655
    · exact ⟨_, sy_env_ok h6 ⟨by omega, by omega⟩ ⟨by omega, by omega⟩ ⟨by omega, by omega⟩, sz_bx74⟩
    by_cases h26 : sy_b (ρ 2) < 2147483656
    · exact ⟨_, sy_env_ok h6 ⟨by omega, by omega⟩ ⟨by omega, by omega⟩ ⟨by omega, by omega⟩, sz_bx75⟩
    by_cases h27 : sy_b (ρ 2) < 2147483657
    · exact ⟨_, sy_env_ok h6 ⟨by omega, by omega⟩ ⟨by omega, by omega⟩ ⟨by omega, by omega⟩, sz_bx76⟩
    by_cases h28 : sy_b (ρ 2) < 2147483658
    · exact ⟨_, sy_env_ok h6 ⟨by omega, by omega⟩ ⟨by omega, by omega⟩ ⟨by omega, by omega⟩, sz_bx77⟩
    by_cases h29 : sy_b (ρ 2) < 2147483659
    · exact ⟨_, sy_env_ok h6 ⟨by omega, by omega⟩ ⟨by omega, by omega⟩ ⟨by omega, by omega⟩, sz_bx78⟩
    by_cases h210 : sy_b (ρ 2) < 2147483660
    · exact ⟨_, sy_env_ok h6 ⟨by omega, by omega⟩ ⟨by omega, by omega⟩ ⟨by omega, by omega⟩, sz_bx79⟩
    by_cases h211 : sy_b (ρ 2) < 2147483661
    · exact ⟨_, sy_env_ok h6 ⟨by omega, by omega⟩ ⟨by omega, by omega⟩ ⟨by omega, by omega⟩, sz_bx80⟩
    by_cases h212 : sy_b (ρ 2) < 2147483662
    · exact ⟨_, sy_env_ok h6 ⟨by omega, by omega⟩ ⟨by omega, by omega⟩ ⟨by omega, by omega⟩, sz_bx81⟩
    by_cases h213 : sy_b (ρ 2) < 2147483663
    · exact ⟨_, sy_env_ok h6 ⟨by omega, by omega⟩ ⟨by omega, by omega⟩ ⟨by omega, by omega⟩, sz_bx82⟩
    by_cases h214 : sy_b (ρ 2) < 2147483664
    · exact ⟨_, sy_env_ok h6 ⟨by omega, by omega⟩ ⟨by omega, by omega⟩ ⟨by omega, by omega⟩, sz_bx83⟩
    by_cases h215 : sy_b (ρ 2) < 2147483665
    · exact ⟨_, sy_env_ok h6 ⟨by omega, by omega⟩ ⟨by omega, by omega⟩ ⟨by omega, by omega⟩, sz_bx84⟩
    by_cases h216 : sy_b (ρ 2) < 2147483666
    · exact ⟨_, sy_env_ok h6 ⟨by omega, by omega⟩ ⟨by omega, by omega⟩ ⟨by omega, by omega⟩, sz_bx85⟩
    by_cases h217 : sy_b (ρ 2) < 2147483667
    · exact ⟨_, sy_env_ok h6 ⟨by omega, by omega⟩ ⟨by omega, by omega⟩ ⟨by omega, by omega⟩, sz_bx86⟩
    by_cases h218 : sy_b (ρ 2) < 2147483668
    · exact ⟨_, sy_env_ok h6 ⟨by omega, by omega⟩ ⟨by omega, by omega⟩ ⟨by omega, by omega⟩, sz_bx87⟩
    by_cases h219 : sy_b (ρ 2) < 2147483669
    · exact ⟨_, sy_env_ok h6 ⟨by omega, by omega⟩ ⟨by omega, by omega⟩ ⟨by omega, by omega⟩, sz_bx88⟩
    by_cases h220 : sy_b (ρ 2) < 2147483670
    · exact ⟨_, sy_env_ok h6 ⟨by omega, by omega⟩ ⟨by omega, by omega⟩ ⟨by omega, by omega⟩, sz_bx89⟩
    by_cases h221 : sy_b (ρ 2) < 2147483671
    · exact ⟨_, sy_env_ok h6 ⟨by omega, by omega⟩ ⟨by omega, by omega⟩ ⟨by omega, by omega⟩, sz_bx90⟩
    by_cases h222 : sy_b (ρ 2) < 2147483672
    · exact ⟨_, sy_env_ok h6 ⟨by omega, by omega⟩ ⟨by omega, by omega⟩ ⟨by omega, by omega⟩, sz_bx91⟩
    exact ⟨_, sy_env_ok h6 ⟨by omega, by omega⟩ ⟨by omega, by omega⟩ ⟨by omega, by omega⟩, sz_bx92⟩
  by_cases h18 : sy_b (ρ 1) < 2147483656
  · exact ⟨_, sy_env_ok h6 ⟨by omega, by omega⟩ ⟨by omega, by omega⟩ ⟨by omega, by omega⟩, sz_bx93⟩
  exact ⟨_, sy_env_ok h6 ⟨by omega, by omega⟩ ⟨by omega, by omega⟩ ⟨by omega, by omega⟩, sz_bx94⟩
theorem sz_case11 {ρ : Nat → Int32} (h6 : sy_b (ρ 6) = 2147483659) : ∃ E, sy_e ρ E ∧ sz_good 6 E = true := by
  have m1 := sy_b_max (ρ 1)
  have m2 := sy_b_max (ρ 2)
  have m3 := sy_b_max (ρ 3)
  by_cases h10 : sy_b (ρ 1) < 2147483654
  · exact ⟨_, sy_env_ok h6 ⟨by omega, by omega⟩ ⟨by omega, by omega⟩ ⟨by omega, by omega⟩, sz_bx95⟩
  by_cases h11 : sy_b (ρ 1) < 2147483660
  · exact ⟨_, sy_env_ok h6 ⟨by omega, by omega⟩ ⟨by omega, by omega⟩ ⟨by omega, by omega⟩, sz_bx96⟩
  by_cases h12 : sy_b (ρ 1) < 2147483666
  · exact ⟨_, sy_env_ok h6 ⟨by omega, by omega⟩ ⟨by omega, by omega⟩ ⟨by omega, by omega⟩, sz_bx97⟩
  exact ⟨_, sy_env_ok h6 ⟨by omega, by omega⟩ ⟨by omega, by omega⟩ ⟨by omega, by omega⟩, sz_bx98⟩
theorem sz_case12 {ρ : Nat → Int32} (h6 : sy_b (ρ 6) = 2147483660) : ∃ E, sy_e ρ E ∧ sz_good 6 E = true := by
  have m1 := sy_b_max (ρ 1)
  have m2 := sy_b_max (ρ 2)
  have m3 := sy_b_max (ρ 3)
  by_cases h10 : sy_b (ρ 1) < 2147483658
  · exact ⟨_, sy_env_ok h6 ⟨by omega, by omega⟩ ⟨by omega, by omega⟩ ⟨by omega, by omega⟩, sz_bx99⟩
  by_cases h11 : sy_b (ρ 1) < 2147483666
  · exact ⟨_, sy_env_ok h6 ⟨by omega, by omega⟩ ⟨by omega, by omega⟩ ⟨by omega, by omega⟩, sz_bx100⟩
  exact ⟨_, sy_env_ok h6 ⟨by omega, by omega⟩ ⟨by omega, by omega⟩ ⟨by omega, by omega⟩, sz_bx101⟩
theorem sz_case13 {ρ : Nat → Int32} (h6 : sy_b (ρ 6) = 2147483661) : ∃ E, sy_e ρ E ∧ sz_good 6 E = true := by
  have m1 := sy_b_max (ρ 1)
  have m2 := sy_b_max (ρ 2)
  have m3 := sy_b_max (ρ 3)
  exact ⟨_, sy_env_ok h6 ⟨by omega, by omega⟩ ⟨by omega, by omega⟩ ⟨by omega, by omega⟩, sz_bx102⟩
theorem sz_case14 {ρ : Nat → Int32} (h6 : sy_b (ρ 6) = 2147483662) : ∃ E, sy_e ρ E ∧ sz_good 6 E = true := by
  have m1 := sy_b_max (ρ 1)
  have m2 := sy_b_max (ρ 2)
  have m3 := sy_b_max (ρ 3)
  exact ⟨_, sy_env_ok h6 ⟨by omega, by omega⟩ ⟨by omega, by omega⟩ ⟨by omega, by omega⟩, sz_bx103⟩
theorem sz_case15 {ρ : Nat → Int32} (h6 : sy_b (ρ 6) = 2147483663) : ∃ E, sy_e ρ E ∧ sz_good 6 E = true := by
  have m1 := sy_b_max (ρ 1)
  have m2 := sy_b_max (ρ 2)
  have m3 := sy_b_max (ρ 3)
  exact ⟨_, sy_env_ok h6 ⟨by omega, by omega⟩ ⟨by omega, by omega⟩ ⟨by omega, by omega⟩, sz_bx104⟩
theorem sz_case16 {ρ : Nat → Int32} (h6 : sy_b (ρ 6) = 2147483664) : ∃ E, sy_e ρ E ∧ sz_good 6 E = true := by
  have m1 := sy_b_max (ρ 1)
  have m2 := sy_b_max (ρ 2)
  have m3 := sy_b_max (ρ 3)
  exact ⟨_, sy_env_ok h6 ⟨by omega, by omega⟩ ⟨by omega, by omega⟩ ⟨by omega, by omega⟩, sz_bx105⟩
theorem sz_case17 {ρ : Nat → Int32} (h6 : sy_b (ρ 6) = 2147483665) : ∃ E, sy_e ρ E ∧ sz_good 6 E = true := by
  have m1 := sy_b_max (ρ 1)
  have m2 := sy_b_max (ρ 2)
  have m3 := sy_b_max (ρ 3)
  exact ⟨_, sy_env_ok h6 ⟨by omega, by omega⟩ ⟨by omega, by omega⟩ ⟨by omega, by omega⟩, sz_bx106⟩
theorem sz_case18 {ρ : Nat → Int32} (h6 : sy_b (ρ 6) = 2147483666) : ∃ E, sy_e ρ E ∧ sz_good 6 E = true := by
  have m1 := sy_b_max (ρ 1)
  have m2 := sy_b_max (ρ 2)
  have m3 := sy_b_max (ρ 3)
  exact ⟨_, sy_env_ok h6 ⟨by omega, by omega⟩ ⟨by omega, by omega⟩ ⟨by omega, by omega⟩, sz_bx107⟩
theorem sz_case19 {ρ : Nat → Int32} (h6 : sy_b (ρ 6) = 2147483667) : ∃ E, sy_e ρ E ∧ sz_good 6 E = true := by
  have m1 := sy_b_max (ρ 1)
  have m2 := sy_b_max (ρ 2)
  have m3 := sy_b_max (ρ 3)
  exact ⟨_, sy_env_ok h6 ⟨by omega, by omega⟩ ⟨by omega, by omega⟩ ⟨by omega, by omega⟩, sz_bx108⟩
theorem sz_case20 {ρ : Nat → Int32} (h6 : 2147483668 ≤ sy_b (ρ 6) ∧ sy_b (ρ 6) ≤ 2147483679) : ∃ E, sy_e ρ E ∧ sz_good 6 E = true := by
  refine ⟨_, fun k => ?_, sz_bx109⟩
  match k with
  | 0 | 1 | 2 | 3 | 4 | 5 => exact ⟨Nat.zero_le _, sy_b_max _⟩
  | 6 => exact h6
  | k + 7 => exact ⟨Nat.zero_le _, sy_b_max _⟩
theorem sy_and31 (x : Int32) : 2147483648 ≤ sy_b (x &&& 31) ∧ sy_b (x &&& 31) ≤ 2147483679 := by
  have h : (x &&& 31).toBitVec.toNat ≤ 31 := by
    rw [Int32.toBitVec_and, BitVec.toNat_and]
    exact Nat.and_le_right
  unfold sy_b
  omega
/-- p1's scripts -/
theorem sy_all (xs : List Int32) (hx : xs.length ≤ 6) : sx_True xs := by
  have hcx : sy_cx (fun k => if k = 6 then sx_lg 0 xs 0 &&& 31 else sx_lg 0 xs k) xs xs.length := ⟨fun _ => ⟨rfl, fun j hj => (if_neg (show ¬ j = 6 by omega)).symm⟩, rfl⟩
  have hlen : xs.length = 0 ∨ xs.length = 1 ∨ xs.length = 2 ∨ xs.length = 3 ∨ xs.length = 4 ∨ xs.length = 5 ∨ xs.length = 6 := by omega
  have hnil : sy_e (fun k => if k = 6 then sx_lg 0 xs 0 &&& 31 else sx_lg 0 xs k) [] := fun k => ⟨Nat.zero_le _, sy_b_max _⟩
  rcases hlen with h | h | h | h | h | h | h
  · rw [h] at hcx; exact sz_good_ok sz_q0 hcx hnil
  · rw [h] at hcx; exact sz_good_ok sz_q1 hcx hnil
  · rw [h] at hcx; exact sz_good_ok sz_q2 hcx hnil
  · rw [h] at hcx; exact sz_good_ok sz_q3 hcx hnil
  · rw [h] at hcx; exact sz_good_ok sz_q4 hcx hnil
  · rw [h] at hcx; exact sz_good_ok sz_q5 hcx hnil
  · rw [h] at hcx
    generalize (fun k => if k = 6 then sx_lg 0 xs 0 &&& 31 else sx_lg 0 xs k : Nat → Int32) = ρ at hcx
    have h31 := sy_and31 (ρ 0)
    rw [← hcx.2] at h31
    have hd : sy_b (ρ 6) = 2147483648 ∨ sy_b (ρ 6) = 2147483649 ∨ sy_b (ρ 6) = 2147483650 ∨ sy_b (ρ 6) = 2147483651 ∨ sy_b (ρ 6) = 2147483652 ∨ sy_b (ρ 6) = 2147483653 ∨ sy_b (ρ 6) = 2147483654 ∨ sy_b (ρ 6) = 2147483655 ∨ sy_b (ρ 6) = 2147483656 ∨ sy_b (ρ 6) = 2147483657 ∨ sy_b (ρ 6) = 2147483658 ∨ sy_b (ρ 6) = 2147483659 ∨ sy_b (ρ 6) = 2147483660 ∨ sy_b (ρ 6) = 2147483661 ∨ sy_b (ρ 6) = 2147483662 ∨ sy_b (ρ 6) = 2147483663 ∨ sy_b (ρ 6) = 2147483664 ∨ sy_b (ρ 6) = 2147483665 ∨ sy_b (ρ 6) = 2147483666 ∨ sy_b (ρ 6) = 2147483667 ∨ (2147483668 ≤ sy_b (ρ 6) ∧ sy_b (ρ 6) ≤ 2147483679) := by omega
    rcases hd with h6 | h6 | h6 | h6 | h6 | h6 | h6 | h6 | h6 | h6 | h6 | h6 | h6 | h6 | h6 | h6 | h6 | h6 | h6 | h6 | h6
    · obtain ⟨E, h1, h2⟩ := sz_case0 h6; exact sz_good_ok h2 hcx h1
    · obtain ⟨E, h1, h2⟩ := sz_case1 h6; exact sz_good_ok h2 hcx h1
    · obtain ⟨E, h1, h2⟩ := sz_case2 h6; exact sz_good_ok h2 hcx h1
    · obtain ⟨E, h1, h2⟩ := sz_case3 h6; exact sz_good_ok h2 hcx h1
    · obtain ⟨E, h1, h2⟩ := sz_case4 h6; exact sz_good_ok h2 hcx h1
    · obtain ⟨E, h1, h2⟩ := sz_case5 h6; exact sz_good_ok h2 hcx h1
    · obtain ⟨E, h1, h2⟩ := sz_case6 h6; exact sz_good_ok h2 hcx h1
    · obtain ⟨E, h1, h2⟩ := sz_case7 h6; exact sz_good_ok h2 hcx h1
    · obtain ⟨E, h1, h2⟩ := sz_case8 h6; exact sz_good_ok h2 hcx h1
    · obtain ⟨E, h1, h2⟩ := sz_case9 h6; exact sz_good_ok h2 hcx h1
    · obtain ⟨E, h1, h2⟩ := sz_case10 h6; exact sz_good_ok h2 hcx h1
    · obtain ⟨E, h1, h2⟩ := sz_case11 h6; exact sz_good_ok h2 hcx h1
    · obtain ⟨E, h1, h2⟩ := sz_case12 h6; exact sz_good_ok h2 hcx h1
    · obtain ⟨E, h1, h2⟩ := sz_case13 h6; exact sz_good_ok h2 hcx h1
    · obtain ⟨E, h1, h2⟩ := sz_case14 h6; exact sz_good_ok h2 hcx h1
    · obtain ⟨E, h1, h2⟩ := sz_case15 h6; exact sz_good_ok h2 hcx h1
    · obtain ⟨E, h1, h2⟩ := sz_case16 h6; exact sz_good_ok h2 hcx h1
    · obtain ⟨E, h1, h2⟩ := sz_case17 h6; exact sz_good_ok h2 hcx h1
    · obtain ⟨E, h1, h2⟩ := sz_case18 h6; exact sz_good_ok h2 hcx h1
    · obtain ⟨E, h1, h2⟩ := sz_case19 h6; exact sz_good_ok h2 hcx h1
    · obtain ⟨E, h1, h2⟩ := sz_case20 h6; exact sz_good_ok h2 hcx h1
