/-! ===== SG, the methods: printed by wip/gen/gen5.py ===== -/
section
variable {S : List Int32} {ρ : Nat → Int32} {q : Nat} {Q : sx_R → Prop} {ret : sz_K} {go : Nat → sz_Q}
/-! KeyGroupsModel.flushTerm(I)V -/
theorem szp_80 : sxP 80 = some (2, 1, 0, [], sxc80) := rfl
noncomputable def szb_80_0 (q : Nat) (ret : sz_K) (go : Nat → sz_Q) : sz_Q := sz_p2 0 0 (sz_p0 0 0 (sz_o47 1 56 (sz_p2 0 0 (sz_p1 1 0 (sz_ca 56 2 1 (szm_76 q) (sz_p2 0 0 (sz_ca 56 1 1 (szm_78 q) (sz_o59 ret) (sz_t0 ret))) (sz_t0 ret))))))
theorem szb_80_0k (hr : sz_rt ρ Q ret) (hg : ∀ t, sz_at S ρ q Q 80 t (go t)) : sz_at S ρ q Q 80 0 (szb_80_0 q ret go) := sz_p2_ok (i := 0) (by decide +kernel) (sz_p0_ok (i := 1) (by decide +kernel) (sz_o47_ok (i := 2) (by decide +kernel) (sz_p2_ok (i := 3) (by decide +kernel) (sz_p1_ok (i := 4) (by decide +kernel) (sz_ca_ok (i := 5) (a := 76) (b := 2) (by decide +kernel) rfl rfl szp_76 rfl (fun _ _ h => szm_76k h) (sz_p2_ok (i := 6) (by decide +kernel) (sz_ca_ok (i := 7) (a := 78) (b := 1) (by decide +kernel) rfl rfl szp_78 rfl (fun _ _ h => szm_78k h) (sz_o59_ok (i := 8) (a := 0) (b := 0) szp_80 rfl (by decide +kernel) hr) (sz_t0_ok szp_80 rfl hr))) (sz_t0_ok szp_80 rfl hr))))))
noncomputable def szm_80 (q : Nat) (ret : sz_K) : sz_Q := szb_80_0 q ret sz_nog
theorem szm_80k (hr : sz_rt ρ Q ret) : sz_at S ρ q Q 80 0 (szm_80 q ret) := szb_80_0k hr sz_nog_ok
/-! KeyGroupsModel.learn(I)V -/
theorem szp_56 : sxP 56 = some (2, 1, 0, [], sxc56) := rfl
noncomputable def szb_56_8 (q : Nat) (ret : sz_K) (go : Nat → sz_Q) : sz_Q := sz_F1 0 1 16 (sz_p1 1 0 (sz_p0 1 0 (sz_o43 0 0 (sz_p2 0 0 (sz_p0 0 0 (sz_o47 1 1019 (sz_o59 ret)))))))
theorem szb_56_8k (hr : sz_rt ρ Q ret) (hg : ∀ t, sz_at S ρ q Q 56 t (go t)) : sz_at S ρ q Q 56 8 (szb_56_8 q ret go) := sz_F1_ok (i := 8) (by decide +kernel) (by decide +kernel) (sz_p1_ok (i := 10) (by decide +kernel) (sz_p0_ok (i := 11) (by decide +kernel) (sz_o43_ok (i := 12) (by decide +kernel) (sz_p2_ok (i := 13) (by decide +kernel) (sz_p0_ok (i := 14) (by decide +kernel) (sz_o47_ok (i := 15) (by decide +kernel) (sz_o59_ok (i := 16) (a := 0) (b := 0) szp_56 rfl (by decide +kernel) hr)))))))
noncomputable def szb_56_7 (q : Nat) (ret : sz_K) (go : Nat → sz_Q) : sz_Q := sz_o59 ret
theorem szb_56_7k (hr : sz_rt ρ Q ret) (hg : ∀ t, sz_at S ρ q Q 56 t (go t)) : sz_at S ρ q Q 56 7 (szb_56_7 q ret go) := sz_o59_ok (i := 7) (a := 0) (b := 0) szp_56 rfl (by decide +kernel) hr
noncomputable def szb_56_2 (q : Nat) (ret : sz_K) (go : Nat → sz_Q) : sz_Q := sz_F39 0 1 16 1 (sz_p23 8 0 (szb_56_8 q ret go) (szb_56_7 q ret go))
theorem szb_56_2k (hr : sz_rt ρ Q ret) (hg : ∀ t, sz_at S ρ q Q 56 t (go t)) : sz_at S ρ q Q 56 2 (szb_56_2 q ret go) := sz_F39_ok (i := 2) (by decide +kernel) (by decide +kernel) (by decide +kernel) (by decide +kernel) (sz_p23_ok (i := 6) (by decide +kernel) (szb_56_8k hr hg) (szb_56_7k hr hg))
noncomputable def szb_56_0 (q : Nat) (ret : sz_K) (go : Nat → sz_Q) : sz_Q := sz_p1 1 0 (sz_p23 7 0 (szb_56_7 q ret go) (szb_56_2 q ret go))
theorem szb_56_0k (hr : sz_rt ρ Q ret) (hg : ∀ t, sz_at S ρ q Q 56 t (go t)) : sz_at S ρ q Q 56 0 (szb_56_0 q ret go) := sz_p1_ok (i := 0) (by decide +kernel) (sz_p23_ok (i := 1) (by decide +kernel) (szb_56_7k hr hg) (szb_56_2k hr hg))
noncomputable def szm_56 (q : Nat) (ret : sz_K) : sz_Q := szb_56_0 q ret sz_nog
theorem szm_56k (hr : sz_rt ρ Q ret) : sz_at S ρ q Q 56 0 (szm_56 q ret) := szb_56_0k hr sz_nog_ok
/-! KeyGroupsModel.close(Z)I -/
theorem szp_81 : sxP 81 = some (4, 1, 1, [], sxc81) := rfl
noncomputable def szb_81_49 (q : Nat) (ret : sz_K) (go : Nat → sz_Q) : sz_Q := sz_p2 0 0 (sz_F1 0 1 110 (sz_o47 1 23 (sz_p1 2 0 (sz_o60 1 ret))))
theorem szb_81_49k (hr : sz_rt ρ Q ret) (hg : ∀ t, sz_at S ρ q Q 81 t (go t)) : sz_at S ρ q Q 81 49 (szb_81_49 q ret go) := sz_p2_ok (i := 49) (by decide +kernel) (sz_F1_ok (i := 50) (by decide +kernel) (by decide +kernel) (sz_o47_ok (i := 52) (by decide +kernel) (sz_p1_ok (i := 53) (by decide +kernel) (sz_o60_ok (i := 54) (a := 0) (b := 0) szp_81 rfl (by decide +kernel) hr))))
noncomputable def szb_81_47 (q : Nat) (ret : sz_K) (go : Nat → sz_Q) : sz_Q := sz_o5 3 1 (go 27)
theorem szb_81_47k (hr : sz_rt ρ Q ret) (hg : ∀ t, sz_at S ρ q Q 81 t (go t)) : sz_at S ρ q Q 81 47 (szb_81_47 q ret go) := sz_o5_ok (i := 47) (by decide +kernel) (sz_o35_ok (i := 48) (a := 27) (b := 0) (by decide +kernel) (hg 27))
noncomputable def szb_81_39 (q : Nat) (ret : sz_K) (go : Nat → sz_Q) : sz_Q := sz_p2 0 0 (sz_F38 q 0 1 26 3 (sz_p0 256 0 (sz_p10 0 0 (sz_ca 56 2 1 (szm_56 q) (szb_81_47 q ret go) (sz_t0 ret)))))
theorem szb_81_39k (hr : sz_rt ρ Q ret) (hg : ∀ t, sz_at S ρ q Q 81 t (go t)) : sz_at S ρ q Q 81 39 (szb_81_39 q ret go) := sz_p2_ok (i := 39) (by decide +kernel) (sz_F38_ok (i := 40) (by decide +kernel) (by decide +kernel) (by decide +kernel) (by decide +kernel) (sz_p0_ok (i := 44) (by decide +kernel) (sz_p10_ok (i := 45) (by decide +kernel) (sz_ca_ok (i := 46) (a := 56) (b := 2) (by decide +kernel) rfl rfl szp_56 rfl (fun _ _ h => szm_56k h) (szb_81_47k hr hg) (sz_t0_ok szp_81 rfl hr)))))
noncomputable def szb_81_33 (q : Nat) (ret : sz_K) (go : Nat → sz_Q) : sz_Q := sz_F38 q 0 1 26 3 (sz_p0 256 0 (sz_p31 47 0 (szb_81_47 q ret go) (szb_81_39 q ret go)))
theorem szb_81_33k (hr : sz_rt ρ Q ret) (hg : ∀ t, sz_at S ρ q Q 81 t (go t)) : sz_at S ρ q Q 81 33 (szb_81_33 q ret go) := sz_F38_ok (i := 33) (by decide +kernel) (by decide +kernel) (by decide +kernel) (by decide +kernel) (sz_p0_ok (i := 37) (by decide +kernel) (sz_p31_ok (i := 38) (by decide +kernel) (szb_81_47k hr hg) (szb_81_39k hr hg)))
noncomputable def szb_81_31 (q : Nat) (ret : sz_K) (go : Nat → sz_Q) : sz_Q := sz_p1 1 0 (sz_p23 47 0 (szb_81_47 q ret go) (szb_81_33 q ret go))
theorem szb_81_31k (hr : sz_rt ρ Q ret) (hg : ∀ t, sz_at S ρ q Q 81 t (go t)) : sz_at S ρ q Q 81 31 (szb_81_31 q ret go) := sz_p1_ok (i := 31) (by decide +kernel) (sz_p23_ok (i := 32) (by decide +kernel) (szb_81_47k hr hg) (szb_81_33k hr hg))
noncomputable def szb_81_27 (q : Nat) (ret : sz_K) (go : Nat → sz_Q) : sz_Q := sz_p1 3 0 (sz_F1 0 1 110 (sz_p32 49 0 (szb_81_49 q ret go) (szb_81_31 q ret go)))
theorem szb_81_27k (hr : sz_rt ρ Q ret) (hg : ∀ t, sz_at S ρ q Q 81 t (go t)) : sz_at S ρ q Q 81 27 (szb_81_27 q ret go) := sz_p1_ok (i := 27) (by decide +kernel) (sz_F1_ok (i := 28) (by decide +kernel) (by decide +kernel) (sz_p32_ok (i := 30) (by decide +kernel) (szb_81_49k hr hg) (szb_81_31k hr hg)))
noncomputable def szb_81_24 (q : Nat) (ret : sz_K) (go : Nat → sz_Q) : sz_Q := sz_F1 0 1 23 (sz_o3 3 0 (szb_81_27 q ret go))
theorem szb_81_24k (hr : sz_rt ρ Q ret) (hg : ∀ t, sz_at S ρ q Q 81 t (go t)) : sz_at S ρ q Q 81 24 (szb_81_24 q ret go) := sz_F1_ok (i := 24) (by decide +kernel) (by decide +kernel) (sz_o3_ok (i := 26) (by decide +kernel) (szb_81_27k hr hg))
noncomputable def szb_81_0 (q : Nat) (ret : sz_K) (go : Nat → sz_Q) : sz_Q := sz_F1 0 1 22 (sz_o3 2 0 (sz_p2 0 0 (sz_o7 0 0 (sz_p46 1 22 (sz_p0 1 0 (sz_p9 0 0 (sz_o47 1 22 (sz_F1 0 1 24 (sz_p1 2 0 (sz_F1 0 1 23 (sz_o42 0 0 (sz_F1 0 1 25 (sz_p1 2 0 (sz_F1 0 1 110 (sz_F1 0 1 23 (sz_p10 0 0 (sz_o42 0 0 (szb_81_24 q ret go))))))))))))))))))
theorem szb_81_0k (hr : sz_rt ρ Q ret) (hg : ∀ t, sz_at S ρ q Q 81 t (go t)) : sz_at S ρ q Q 81 0 (szb_81_0 q ret go) := sz_F1_ok (i := 0) (by decide +kernel) (by decide +kernel) (sz_o3_ok (i := 2) (by decide +kernel) (sz_p2_ok (i := 3) (by decide +kernel) (sz_o7_ok (i := 4) (by decide +kernel) (sz_p46_ok (i := 5) (by decide +kernel) (sz_p0_ok (i := 6) (by decide +kernel) (sz_p9_ok (i := 7) (by decide +kernel) (sz_o47_ok (i := 8) (by decide +kernel) (sz_F1_ok (i := 9) (by decide +kernel) (by decide +kernel) (sz_p1_ok (i := 11) (by decide +kernel) (sz_F1_ok (i := 12) (by decide +kernel) (by decide +kernel) (sz_o42_ok (i := 14) (by decide +kernel) (sz_F1_ok (i := 15) (by decide +kernel) (by decide +kernel) (sz_p1_ok (i := 17) (by decide +kernel) (sz_F1_ok (i := 18) (by decide +kernel) (by decide +kernel) (sz_F1_ok (i := 20) (by decide +kernel) (by decide +kernel) (sz_p10_ok (i := 22) (by decide +kernel) (sz_o42_ok (i := 23) (by decide +kernel) (szb_81_24k hr hg))))))))))))))))))
noncomputable def szl_81 (q : Nat) (ret : sz_K) : Nat → sz_Q := sz_loop (fun go t => bif Nat.beq t 27 then szb_81_27 q ret go else sz_no) 1000
theorem szl_81k (hr : sz_rt ρ Q ret) (t : Nat) : sz_at S ρ q Q 81 t (szl_81 q ret t) := sz_loop_ok (fun go hg t => (sz_sel_ok (szb_81_27k hr hg) sz_no_ok)) 1000 t
noncomputable def szm_81 (q : Nat) (ret : sz_K) : sz_Q := szb_81_0 q ret (szl_81 q ret)
theorem szm_81k (hr : sz_rt ρ Q ret) : sz_at S ρ q Q 81 0 (szm_81 q ret) := szb_81_0k hr (szl_81k hr)
/-! KeyGroupsModel.offer(I)I -/
theorem szp_15 : sxP 15 = some (9, 1, 1, [], sxc15) := rfl
noncomputable def szb_15_99 (q : Nat) (ret : sz_K) (go : Nat → sz_Q) : sz_Q := sz_F1 0 1 49 (sz_p1 7 0 (sz_p1 2 0 (sz_o42 0 0 (sz_F1 0 1 50 (sz_p1 7 0 (sz_p1 3 0 (sz_o42 0 0 (sz_F1 0 1 45 (sz_p1 1 0 (sz_o8 0 0 (sz_p38 q 0 0 (sz_p0 1 0 (sz_p9 0 0 (sz_o42 0 0 (sz_p1 8 0 (sz_o60 1 ret))))))))))))))))
theorem szb_15_99k (hr : sz_rt ρ Q ret) (hg : ∀ t, sz_at S ρ q Q 15 t (go t)) : sz_at S ρ q Q 15 99 (szb_15_99 q ret go) := sz_F1_ok (i := 99) (by decide +kernel) (by decide +kernel) (sz_p1_ok (i := 101) (by decide +kernel) (sz_p1_ok (i := 102) (by decide +kernel) (sz_o42_ok (i := 103) (by decide +kernel) (sz_F1_ok (i := 104) (by decide +kernel) (by decide +kernel) (sz_p1_ok (i := 106) (by decide +kernel) (sz_p1_ok (i := 107) (by decide +kernel) (sz_o42_ok (i := 108) (by decide +kernel) (sz_F1_ok (i := 109) (by decide +kernel) (by decide +kernel) (sz_p1_ok (i := 111) (by decide +kernel) (sz_o8_ok (i := 112) (by decide +kernel) (sz_p38_ok (i := 113) (by decide +kernel) (sz_p0_ok (i := 114) (by decide +kernel) (sz_p9_ok (i := 115) (by decide +kernel) (sz_o42_ok (i := 116) (by decide +kernel) (sz_p1_ok (i := 117) (by decide +kernel) (sz_o60_ok (i := 118) (a := 0) (b := 0) szp_15 rfl (by decide +kernel) hr))))))))))))))))
noncomputable def szb_15_75 (q : Nat) (ret : sz_K) (go : Nat → sz_Q) : sz_Q := sz_o47 1 109 (sz_p2 0 0 (sz_p2 0 0 (sz_p1 1 0 (sz_ca 56 2 1 (szm_79 q) (sz_ca 56 2 1 (szm_80 q) (sz_p0 8 0 (sz_p1 1 0 (sz_p11 0 0 (sz_F38 q 0 1 45 1 (sz_p9 0 0 (sz_o3 7 0 (sz_p2 0 0 (sz_p0 1 0 (sz_ca 56 2 1 (szm_81 q) (sz_o3 8 0 (sz_F1 0 1 48 (sz_p1 7 0 (sz_p1 8 0 (sz_o42 0 0 (szb_15_99 q ret go)))))) (sz_t0 ret)))))))))) (sz_t0 ret)) (sz_t0 ret)))))
theorem szb_15_75k (hr : sz_rt ρ Q ret) (hg : ∀ t, sz_at S ρ q Q 15 t (go t)) : sz_at S ρ q Q 15 75 (szb_15_75 q ret go) := sz_o47_ok (i := 75) (by decide +kernel) (sz_p2_ok (i := 76) (by decide +kernel) (sz_p2_ok (i := 77) (by decide +kernel) (sz_p1_ok (i := 78) (by decide +kernel) (sz_ca_ok (i := 79) (a := 79) (b := 2) (by decide +kernel) rfl rfl szp_79 rfl (fun _ _ h => szm_79k h) (sz_ca_ok (i := 80) (a := 80) (b := 2) (by decide +kernel) rfl rfl szp_80 rfl (fun _ _ h => szm_80k h) (sz_p0_ok (i := 81) (by decide +kernel) (sz_p1_ok (i := 82) (by decide +kernel) (sz_p11_ok (i := 83) (by decide +kernel) (sz_F38_ok (i := 84) (by decide +kernel) (by decide +kernel) (by decide +kernel) (by decide +kernel) (sz_p9_ok (i := 88) (by decide +kernel) (sz_o3_ok (i := 89) (by decide +kernel) (sz_p2_ok (i := 90) (by decide +kernel) (sz_p0_ok (i := 91) (by decide +kernel) (sz_ca_ok (i := 92) (a := 81) (b := 2) (by decide +kernel) rfl rfl szp_81 rfl (fun _ _ h => szm_81k h) (sz_o3_ok (i := 93) (by decide +kernel) (sz_F1_ok (i := 94) (by decide +kernel) (by decide +kernel) (sz_p1_ok (i := 96) (by decide +kernel) (sz_p1_ok (i := 97) (by decide +kernel) (sz_o42_ok (i := 98) (by decide +kernel) (szb_15_99k hr hg)))))) (sz_t0_ok szp_15 rfl hr)))))))))) (sz_t0_ok szp_15 rfl hr)) (sz_t0_ok szp_15 rfl hr)))))
noncomputable def szb_15_51 (q : Nat) (ret : sz_K) (go : Nat → sz_Q) : sz_Q := sz_p46 1 23 (sz_o47 1 110 (sz_p2 0 0 (sz_p0 0 0 (sz_o47 1 56 (sz_p2 0 0 (sz_p0 1 0 (sz_ca 56 2 1 (szm_75 q) (sz_p2 0 0 (sz_p1 4 0 (sz_ca 56 2 1 (szm_76 q) (sz_p2 0 0 (sz_p1 1 0 (sz_p1 5 0 (sz_p0 1 0 (sz_p0 0 0 (sz_ca 56 5 1 (szm_77 q) (sz_p2 0 0 (sz_p1 6 0 (sz_ca 56 2 1 (szm_76 q) (sz_p2 0 0 (sz_ca 56 1 1 (szm_78 q) (sz_p2 0 0 (sz_p0 0 0 (szb_15_75 q ret go))) (sz_t0 ret))) (sz_t0 ret)))) (sz_t0 ret))))))) (sz_t0 ret)))) (sz_t0 ret))))))))
theorem szb_15_51k (hr : sz_rt ρ Q ret) (hg : ∀ t, sz_at S ρ q Q 15 t (go t)) : sz_at S ρ q Q 15 51 (szb_15_51 q ret go) := sz_p46_ok (i := 51) (by decide +kernel) (sz_o47_ok (i := 52) (by decide +kernel) (sz_p2_ok (i := 53) (by decide +kernel) (sz_p0_ok (i := 54) (by decide +kernel) (sz_o47_ok (i := 55) (by decide +kernel) (sz_p2_ok (i := 56) (by decide +kernel) (sz_p0_ok (i := 57) (by decide +kernel) (sz_ca_ok (i := 58) (a := 75) (b := 2) (by decide +kernel) rfl rfl szp_75 rfl (fun _ _ h => szm_75k h) (sz_p2_ok (i := 59) (by decide +kernel) (sz_p1_ok (i := 60) (by decide +kernel) (sz_ca_ok (i := 61) (a := 76) (b := 2) (by decide +kernel) rfl rfl szp_76 rfl (fun _ _ h => szm_76k h) (sz_p2_ok (i := 62) (by decide +kernel) (sz_p1_ok (i := 63) (by decide +kernel) (sz_p1_ok (i := 64) (by decide +kernel) (sz_p0_ok (i := 65) (by decide +kernel) (sz_p0_ok (i := 66) (by decide +kernel) (sz_ca_ok (i := 67) (a := 77) (b := 5) (by decide +kernel) rfl rfl szp_77 rfl (fun _ _ h => szm_77k h) (sz_p2_ok (i := 68) (by decide +kernel) (sz_p1_ok (i := 69) (by decide +kernel) (sz_ca_ok (i := 70) (a := 76) (b := 2) (by decide +kernel) rfl rfl szp_76 rfl (fun _ _ h => szm_76k h) (sz_p2_ok (i := 71) (by decide +kernel) (sz_ca_ok (i := 72) (a := 78) (b := 1) (by decide +kernel) rfl rfl szp_78 rfl (fun _ _ h => szm_78k h) (sz_p2_ok (i := 73) (by decide +kernel) (sz_p0_ok (i := 74) (by decide +kernel) (szb_15_75k hr hg))) (sz_t0_ok szp_15 rfl hr))) (sz_t0_ok szp_15 rfl hr)))) (sz_t0_ok szp_15 rfl hr))))))) (sz_t0_ok szp_15 rfl hr)))) (sz_t0_ok szp_15 rfl hr))))))))
noncomputable def szb_15_27 (q : Nat) (ret : sz_K) (go : Nat → sz_Q) : sz_Q := sz_p2 0 0 (sz_ca 56 1 1 (szm_55 q) (sz_o3 2 0 (sz_p2 0 0 (sz_ca 56 1 1 (szm_55 q) (sz_o3 3 0 (sz_p2 0 0 (sz_p1 2 0 (sz_ca 56 2 1 (szm_66 q) (sz_o3 4 0 (sz_p2 0 0 (sz_p1 3 0 (sz_ca 56 2 1 (szm_66 q) (sz_o3 5 0 (sz_p2 0 0 (sz_p1 1 0 (sz_p1 5 0 (sz_p0 1 0 (sz_p0 0 0 (sz_p0 0 0 (sz_ca 56 6 1 (szm_69 q) (sz_o3 6 0 (sz_p2 0 0 (sz_p2 0 0 (szb_15_51 q ret go)))) (sz_t0 ret))))))))) (sz_t0 ret))))) (sz_t0 ret))))) (sz_t0 ret)))) (sz_t0 ret))
theorem szb_15_27k (hr : sz_rt ρ Q ret) (hg : ∀ t, sz_at S ρ q Q 15 t (go t)) : sz_at S ρ q Q 15 27 (szb_15_27 q ret go) := sz_p2_ok (i := 27) (by decide +kernel) (sz_ca_ok (i := 28) (a := 55) (b := 1) (by decide +kernel) rfl rfl szp_55 rfl (fun _ _ h => szm_55k h) (sz_o3_ok (i := 29) (by decide +kernel) (sz_p2_ok (i := 30) (by decide +kernel) (sz_ca_ok (i := 31) (a := 55) (b := 1) (by decide +kernel) rfl rfl szp_55 rfl (fun _ _ h => szm_55k h) (sz_o3_ok (i := 32) (by decide +kernel) (sz_p2_ok (i := 33) (by decide +kernel) (sz_p1_ok (i := 34) (by decide +kernel) (sz_ca_ok (i := 35) (a := 66) (b := 2) (by decide +kernel) rfl rfl szp_66 rfl (fun _ _ h => szm_66k h) (sz_o3_ok (i := 36) (by decide +kernel) (sz_p2_ok (i := 37) (by decide +kernel) (sz_p1_ok (i := 38) (by decide +kernel) (sz_ca_ok (i := 39) (a := 66) (b := 2) (by decide +kernel) rfl rfl szp_66 rfl (fun _ _ h => szm_66k h) (sz_o3_ok (i := 40) (by decide +kernel) (sz_p2_ok (i := 41) (by decide +kernel) (sz_p1_ok (i := 42) (by decide +kernel) (sz_p1_ok (i := 43) (by decide +kernel) (sz_p0_ok (i := 44) (by decide +kernel) (sz_p0_ok (i := 45) (by decide +kernel) (sz_p0_ok (i := 46) (by decide +kernel) (sz_ca_ok (i := 47) (a := 69) (b := 6) (by decide +kernel) rfl rfl szp_69 rfl (fun _ _ h => szm_69k h) (sz_o3_ok (i := 48) (by decide +kernel) (sz_p2_ok (i := 49) (by decide +kernel) (sz_p2_ok (i := 50) (by decide +kernel) (szb_15_51k hr hg)))) (sz_t0_ok szp_15 rfl hr))))))))) (sz_t0_ok szp_15 rfl hr))))) (sz_t0_ok szp_15 rfl hr))))) (sz_t0_ok szp_15 rfl hr)))) (sz_t0_ok szp_15 rfl hr))
noncomputable def szb_15_25 (q : Nat) (ret : sz_K) (go : Nat → sz_Q) : sz_Q := sz_p0 0 0 (sz_o60 1 ret)
theorem szb_15_25k (hr : sz_rt ρ Q ret) (hg : ∀ t, sz_at S ρ q Q 15 t (go t)) : sz_at S ρ q Q 15 25 (szb_15_25 q ret go) := sz_p0_ok (i := 25) (by decide +kernel) (sz_o60_ok (i := 26) (a := 0) (b := 0) szp_15 rfl (by decide +kernel) hr)
noncomputable def szb_15_21 (q : Nat) (ret : sz_K) (go : Nat → sz_Q) : sz_Q := sz_o47 1 0 (sz_F1 0 1 0 (sz_p28 27 0 (szb_15_27 q ret go) (szb_15_25 q ret go)))
theorem szb_15_21k (hr : sz_rt ρ Q ret) (hg : ∀ t, sz_at S ρ q Q 15 t (go t)) : sz_at S ρ q Q 15 21 (szb_15_21 q ret go) := sz_o47_ok (i := 21) (by decide +kernel) (sz_F1_ok (i := 22) (by decide +kernel) (by decide +kernel) (sz_p28_ok (i := 24) (by decide +kernel) (szb_15_27k hr hg) (szb_15_25k hr hg)))
noncomputable def szb_15_20 (q : Nat) (ret : sz_K) (go : Nat → sz_Q) : sz_Q := sz_p0 0 0 (szb_15_21 q ret go)
theorem szb_15_20k (hr : sz_rt ρ Q ret) (hg : ∀ t, sz_at S ρ q Q 15 t (go t)) : sz_at S ρ q Q 15 20 (szb_15_20 q ret go) := sz_p0_ok (i := 20) (by decide +kernel) (szb_15_21k hr hg)
noncomputable def szb_15_12 (q : Nat) (ret : sz_K) (go : Nat → sz_Q) : sz_Q := sz_F38 q 0 1 45 1 (sz_p0 8 0 (sz_p30 20 0 (szb_15_20 q ret go) sz_no))
theorem szb_15_12k (hr : sz_rt ρ Q ret) (hg : ∀ t, sz_at S ρ q Q 15 t (go t)) : sz_at S ρ q Q 15 12 (szb_15_12 q ret go) := sz_F38_ok (i := 12) (by decide +kernel) (by decide +kernel) (by decide +kernel) (by decide +kernel) (sz_p0_ok (i := 16) (by decide +kernel) (sz_p30_ok (i := 17) (by decide +kernel) (szb_15_20k hr hg) sz_no_ok))
noncomputable def szb_15_8 (q : Nat) (ret : sz_K) (go : Nat → sz_Q) : sz_Q := sz_F1 0 1 22 (sz_p0 300 0 (sz_p29 18 0 sz_no (szb_15_12 q ret go)))
theorem szb_15_8k (hr : sz_rt ρ Q ret) (hg : ∀ t, sz_at S ρ q Q 15 t (go t)) : sz_at S ρ q Q 15 8 (szb_15_8 q ret go) := sz_F1_ok (i := 8) (by decide +kernel) (by decide +kernel) (sz_p0_ok (i := 10) (by decide +kernel) (sz_p29_ok (i := 11) (by decide +kernel) sz_no_ok (szb_15_12k hr hg)))
noncomputable def szb_15_6 (q : Nat) (ret : sz_K) (go : Nat → sz_Q) : sz_Q := sz_p0 1 0 (szb_15_21 q ret go)
theorem szb_15_6k (hr : sz_rt ρ Q ret) (hg : ∀ t, sz_at S ρ q Q 15 t (go t)) : sz_at S ρ q Q 15 6 (szb_15_6 q ret go) := sz_p0_ok (i := 6) (by decide +kernel) (sz_o35_ok (i := 7) (a := 21) (b := 0) (by decide +kernel) (szb_15_21k hr hg))
noncomputable def szb_15_3 (q : Nat) (ret : sz_K) (go : Nat → sz_Q) : sz_Q := sz_p1 1 0 (sz_p0 24 0 (sz_p31 8 0 (szb_15_8 q ret go) (szb_15_6 q ret go)))
theorem szb_15_3k (hr : sz_rt ρ Q ret) (hg : ∀ t, sz_at S ρ q Q 15 t (go t)) : sz_at S ρ q Q 15 3 (szb_15_3 q ret go) := sz_p1_ok (i := 3) (by decide +kernel) (sz_p0_ok (i := 4) (by decide +kernel) (sz_p31_ok (i := 5) (by decide +kernel) (szb_15_8k hr hg) (szb_15_6k hr hg)))
noncomputable def szb_15_0 (q : Nat) (ret : sz_K) (go : Nat → sz_Q) : sz_Q := sz_p2 0 0 (sz_p1 1 0 (sz_p25 6 0 (szb_15_6 q ret go) (szb_15_3 q ret go)))
theorem szb_15_0k (hr : sz_rt ρ Q ret) (hg : ∀ t, sz_at S ρ q Q 15 t (go t)) : sz_at S ρ q Q 15 0 (szb_15_0 q ret go) := sz_p2_ok (i := 0) (by decide +kernel) (sz_p1_ok (i := 1) (by decide +kernel) (sz_p25_ok (i := 2) (by decide +kernel) (szb_15_6k hr hg) (szb_15_3k hr hg)))
noncomputable def szm_15 (q : Nat) (ret : sz_K) : sz_Q := szb_15_0 q ret sz_nog
theorem szm_15k (hr : sz_rt ρ Q ret) : sz_at S ρ q Q 15 0 (szm_15 q ret) := szb_15_0k hr sz_nog_ok
/-! KeyGroups.propose(III)I -/
theorem szp_82 : sxP 82 = some (6, 0, 1, [], sxc82) := rfl
noncomputable def szb_82_74 (q : Nat) (ret : sz_K) (go : Nat → sz_Q) : sz_Q := sz_o62 14 ret
theorem szb_82_74k (hr : sz_rt ρ Q ret) (hg : ∀ t, sz_at S ρ q Q 82 t (go t)) : sz_at S ρ q Q 82 74 (szb_82_74 q ret go) := sz_o62_ok (i := 74) (a := 14) (b := 1) (by decide +kernel) hr
noncomputable def szb_82_67 (q : Nat) (ret : sz_K) (go : Nat → sz_Q) : sz_Q := sz_F1 4 6 3 (sz_p23 74 0 (szb_82_74 q ret go) sz_no)
theorem szb_82_67k (hr : sz_rt ρ Q ret) (hg : ∀ t, sz_at S ρ q Q 82 t (go t)) : sz_at S ρ q Q 82 67 (szb_82_67 q ret go) := sz_F1_ok (i := 67) (by decide +kernel) (by decide +kernel) (sz_p23_ok (i := 69) (by decide +kernel) (szb_82_74k hr hg) sz_no_ok)
noncomputable def szb_82_63 (q : Nat) (ret : sz_K) (go : Nat → sz_Q) : sz_Q := sz_F1 0 0 4 (sz_p0 300 0 (sz_p32 74 0 (szb_82_74 q ret go) (szb_82_67 q ret go)))
theorem szb_82_63k (hr : sz_rt ρ Q ret) (hg : ∀ t, sz_at S ρ q Q 82 t (go t)) : sz_at S ρ q Q 82 63 (szb_82_63 q ret go) := sz_F1_ok (i := 63) (by decide +kernel) (by decide +kernel) (sz_p0_ok (i := 65) (by decide +kernel) (sz_p32_ok (i := 66) (by decide +kernel) (szb_82_74k hr hg) (szb_82_67k hr hg)))
noncomputable def szb_82_30 (q : Nat) (ret : sz_K) (go : Nat → sz_Q) : sz_Q := sz_p1 2 0 (sz_p0 1 0 (sz_p30 63 0 (szb_82_63 q ret go) sz_no))
theorem szb_82_30k (hr : sz_rt ρ Q ret) (hg : ∀ t, sz_at S ρ q Q 82 t (go t)) : sz_at S ρ q Q 82 30 (szb_82_30 q ret go) := sz_p1_ok (i := 30) (by decide +kernel) (sz_p0_ok (i := 31) (by decide +kernel) (sz_p30_ok (i := 32) (by decide +kernel) (szb_82_63k hr hg) sz_no_ok))
noncomputable def szb_82_25 (q : Nat) (ret : sz_K) (go : Nat → sz_Q) : sz_Q := sz_o62 13 ret
theorem szb_82_25k (hr : sz_rt ρ Q ret) (hg : ∀ t, sz_at S ρ q Q 82 t (go t)) : sz_at S ρ q Q 82 25 (szb_82_25 q ret go) := sz_o62_ok (i := 25) (a := 13) (b := 1) (by decide +kernel) hr
noncomputable def szb_82_22 (q : Nat) (ret : sz_K) (go : Nat → sz_Q) : sz_Q := sz_p1 3 0 (sz_p0 16 0 (sz_p31 30 0 (szb_82_30 q ret go) (szb_82_25 q ret go)))
theorem szb_82_22k (hr : sz_rt ρ Q ret) (hg : ∀ t, sz_at S ρ q Q 82 t (go t)) : sz_at S ρ q Q 82 22 (szb_82_22 q ret go) := sz_p1_ok (i := 22) (by decide +kernel) (sz_p0_ok (i := 23) (by decide +kernel) (sz_p31_ok (i := 24) (by decide +kernel) (szb_82_30k hr hg) (szb_82_25k hr hg)))
noncomputable def szb_82_20 (q : Nat) (ret : sz_K) (go : Nat → sz_Q) : sz_Q := sz_p1 3 0 (sz_p25 25 0 (szb_82_25 q ret go) (szb_82_22 q ret go))
theorem szb_82_20k (hr : sz_rt ρ Q ret) (hg : ∀ t, sz_at S ρ q Q 82 t (go t)) : sz_at S ρ q Q 82 20 (szb_82_20 q ret go) := sz_p1_ok (i := 20) (by decide +kernel) (sz_p25_ok (i := 21) (by decide +kernel) (szb_82_25k hr hg) (szb_82_22k hr hg))
noncomputable def szb_82_17 (q : Nat) (ret : sz_K) (go : Nat → sz_Q) : sz_Q := sz_p1 2 0 (sz_p0 3 0 (sz_p30 30 0 (szb_82_30 q ret go) (szb_82_20 q ret go)))
theorem szb_82_17k (hr : sz_rt ρ Q ret) (hg : ∀ t, sz_at S ρ q Q 82 t (go t)) : sz_at S ρ q Q 82 17 (szb_82_17 q ret go) := sz_p1_ok (i := 17) (by decide +kernel) (sz_p0_ok (i := 18) (by decide +kernel) (sz_p30_ok (i := 19) (by decide +kernel) (szb_82_30k hr hg) (szb_82_20k hr hg)))
noncomputable def szb_82_13 (q : Nat) (ret : sz_K) (go : Nat → sz_Q) : sz_Q := sz_p2 0 0 (sz_p1 3 0 (sz_ca 56 2 0 (szm_62 q) (sz_p23 25 0 (szb_82_25 q ret go) (szb_82_17 q ret go)) (sz_t0 ret)))
theorem szb_82_13k (hr : sz_rt ρ Q ret) (hg : ∀ t, sz_at S ρ q Q 82 t (go t)) : sz_at S ρ q Q 82 13 (szb_82_13 q ret go) := sz_p2_ok (i := 13) (by decide +kernel) (sz_p1_ok (i := 14) (by decide +kernel) (sz_ca_ok (i := 15) (a := 62) (b := 2) (by decide +kernel) rfl rfl szp_62 rfl (fun _ _ h => szm_62k h) (sz_p23_ok (i := 16) (by decide +kernel) (szb_82_25k hr hg) (szb_82_17k hr hg)) (sz_t0_ok szp_82 rfl hr)))
noncomputable def szb_82_10 (q : Nat) (ret : sz_K) (go : Nat → sz_Q) : sz_Q := sz_p1 2 0 (sz_p0 1 0 (sz_p30 17 0 (szb_82_17 q ret go) (szb_82_13 q ret go)))
theorem szb_82_10k (hr : sz_rt ρ Q ret) (hg : ∀ t, sz_at S ρ q Q 82 t (go t)) : sz_at S ρ q Q 82 10 (szb_82_10 q ret go) := sz_p1_ok (i := 10) (by decide +kernel) (sz_p0_ok (i := 11) (by decide +kernel) (sz_p30_ok (i := 12) (by decide +kernel) (szb_82_17k hr hg) (szb_82_13k hr hg)))
noncomputable def szb_82_7 (q : Nat) (ret : sz_K) (go : Nat → sz_Q) : sz_Q := sz_p1 2 0 (sz_p0 3 0 (sz_p33 25 0 (szb_82_25 q ret go) (szb_82_10 q ret go)))
theorem szb_82_7k (hr : sz_rt ρ Q ret) (hg : ∀ t, sz_at S ρ q Q 82 t (go t)) : sz_at S ρ q Q 82 7 (szb_82_7 q ret go) := sz_p1_ok (i := 7) (by decide +kernel) (sz_p0_ok (i := 8) (by decide +kernel) (sz_p33_ok (i := 9) (by decide +kernel) (szb_82_25k hr hg) (szb_82_10k hr hg)))
noncomputable def szb_82_0 (q : Nat) (ret : sz_K) (go : Nat → sz_Q) : sz_Q := sz_p2 0 0 (sz_p1 1 0 (sz_ca 56 2 0 (szm_151 q) (sz_o4 4 0 (sz_p1 2 0 (sz_p0 1 0 (sz_p31 25 0 (szb_82_25 q ret go) (szb_82_7 q ret go))))) (sz_t0 ret)))
theorem szb_82_0k (hr : sz_rt ρ Q ret) (hg : ∀ t, sz_at S ρ q Q 82 t (go t)) : sz_at S ρ q Q 82 0 (szb_82_0 q ret go) := sz_p2_ok (i := 0) (by decide +kernel) (sz_p1_ok (i := 1) (by decide +kernel) (sz_ca_ok (i := 2) (a := 151) (b := 2) (by decide +kernel) rfl rfl szp_151 rfl (fun _ _ h => szm_151k h) (sz_o4_ok (i := 3) (by decide +kernel) (sz_p1_ok (i := 4) (by decide +kernel) (sz_p0_ok (i := 5) (by decide +kernel) (sz_p31_ok (i := 6) (by decide +kernel) (szb_82_25k hr hg) (szb_82_7k hr hg))))) (sz_t0_ok szp_82 rfl hr)))
noncomputable def szm_82 (q : Nat) (ret : sz_K) : sz_Q := szb_82_0 q ret sz_nog
theorem szm_82k (hr : sz_rt ρ Q ret) : sz_at S ρ q Q 82 0 (szm_82 q ret) := szb_82_0k hr sz_nog_ok
/-! KeyGroupsLaw.propose(LKeyGroups;III[J)I -/
theorem szp_16 : sxP 16 = some (6, 999, 1, [(0, 12, 10, 13), (0, 12, 13, 15), (0, 12, 16, 14)], sxc16) := rfl
noncomputable def szb_16_16 (q : Nat) (ret : sz_K) (go : Nat → sz_Q) : sz_Q := sz_o4 5 0 (sz_p0 3 0 (sz_o60 1 ret))
theorem szb_16_16k (hr : sz_rt ρ Q ret) (hg : ∀ t, sz_at S ρ q Q 16 t (go t)) : sz_at S ρ q Q 16 16 (szb_16_16 q ret go) := sz_o4_ok (i := 16) (by decide +kernel) (sz_p0_ok (i := 17) (by decide +kernel) (sz_o60_ok (i := 18) (a := 0) (b := 0) szp_16 rfl (by decide +kernel) hr))
noncomputable def szb_16_10 (q : Nat) (ret : sz_K) (go : Nat → sz_Q) : sz_Q := sz_o4 5 0 (sz_p0 1 0 (sz_o60 1 ret))
theorem szb_16_10k (hr : sz_rt ρ Q ret) (hg : ∀ t, sz_at S ρ q Q 16 t (go t)) : sz_at S ρ q Q 16 10 (szb_16_10 q ret go) := sz_o4_ok (i := 10) (by decide +kernel) (sz_p0_ok (i := 11) (by decide +kernel) (sz_o60_ok (i := 12) (a := 0) (b := 0) szp_16 rfl (by decide +kernel) hr))
noncomputable def szb_16_0 (q : Nat) (ret : sz_K) (go : Nat → sz_Q) : sz_Q := sz_p2 4 0 (sz_p0 0 0 (sz_p2 0 0 (sz_p1 1 0 (sz_p1 2 0 (sz_p1 3 0 (sz_ca 56 4 0 (szm_82 q) sz_no (sz_t1 [(0, 12, 10, 13), (0, 12, 13, 15), (0, 12, 16, 14)] 7 (fun t => bif Nat.beq t 10 then (szb_16_10 q ret go) else bif Nat.beq t 16 then (szb_16_16 q ret go) else sz_no))))))))
theorem szb_16_0k (hr : sz_rt ρ Q ret) (hg : ∀ t, sz_at S ρ q Q 16 t (go t)) : sz_at S ρ q Q 16 0 (szb_16_0 q ret go) := sz_p2_ok (i := 0) (by decide +kernel) (sz_p0_ok (i := 1) (by decide +kernel) (sz_p2_ok (i := 2) (by decide +kernel) (sz_p1_ok (i := 3) (by decide +kernel) (sz_p1_ok (i := 4) (by decide +kernel) (sz_p1_ok (i := 5) (by decide +kernel) (sz_ca_ok (i := 6) (a := 82) (b := 4) (by decide +kernel) rfl rfl szp_82 rfl (fun _ _ h => szm_82k h) sz_no_ok (sz_t1_ok (i := 6) (M := (6, 999, 1, [(0, 12, 10, 13), (0, 12, 13, 15), (0, 12, 16, 14)], sxc16)) (en := (56, 82, 4, 7, 3, .invokevirtual 24)) szp_16 rfl rfl rfl (fun t => (sz_sel_ok (szb_16_10k hr hg) (sz_sel_ok (szb_16_16k hr hg) sz_no_ok))))))))))
noncomputable def szm_16 (q : Nat) (ret : sz_K) : sz_Q := szb_16_0 q ret sz_nog
theorem szm_16k (hr : sz_rt ρ Q ret) : sz_at S ρ q Q 16 0 (szm_16 q ret) := szb_16_0k hr sz_nog_ok
/-! KeyGroupsModel.canMake(I)Z -/
theorem szp_175 : sxP 175 = some (2, 1, 2, [], sxc175) := rfl
noncomputable def szb_175_76 (q : Nat) (ret : sz_K) (go : Nat → sz_Q) : sz_Q := sz_p0 0 0 (sz_o60 2 ret)
theorem szb_175_76k (hr : sz_rt ρ Q ret) (hg : ∀ t, sz_at S ρ q Q 175 t (go t)) : sz_at S ρ q Q 175 76 (szb_175_76 q ret go) := sz_p0_ok (i := 76) (by decide +kernel) (sz_o60_ok (i := 77) (a := 0) (b := 0) szp_175 rfl (by decide +kernel) hr)
noncomputable def szb_175_5 (q : Nat) (ret : sz_K) (go : Nat → sz_Q) : sz_Q := sz_p0 1 0 (sz_o60 2 ret)
theorem szb_175_5k (hr : sz_rt ρ Q ret) (hg : ∀ t, sz_at S ρ q Q 175 t (go t)) : sz_at S ρ q Q 175 5 (szb_175_5 q ret go) := sz_p0_ok (i := 5) (by decide +kernel) (sz_o60_ok (i := 6) (a := 0) (b := 0) szp_175 rfl (by decide +kernel) hr)
noncomputable def szb_175_0 (q : Nat) (ret : sz_K) (go : Nat → sz_Q) : sz_Q := sz_F38 q 0 1 6 1 (sz_o36 sxc175 (36, 0, 0, 6, 46, .tableswitch (163) (0) (7) #[46, 46, 48, 48, 60, 94, 106, 48]) 2147483648 2147483656 (fun t => bif Nat.beq t 5 then (szb_175_5 q ret go) else bif Nat.beq t 76 then (szb_175_76 q ret go) else sz_no))
theorem szb_175_0k (hr : sz_rt ρ Q ret) (hg : ∀ t, sz_at S ρ q Q 175 t (go t)) : sz_at S ρ q Q 175 0 (szb_175_0 q ret go) := sz_F38_ok (i := 0) (by decide +kernel) (by decide +kernel) (by decide +kernel) (by decide +kernel) (sz_o36_ok (i := 4) (M := (2, 1, 2, [], sxc175)) (en := (36, 0, 0, 6, 46, .tableswitch (163) (0) (7) #[46, 46, 48, 48, 60, 94, 106, 48])) szp_175 rfl rfl (fun t => (sz_sel_ok (szb_175_5k hr hg) (sz_sel_ok (szb_175_76k hr hg) sz_no_ok))))
noncomputable def szm_175 (q : Nat) (ret : sz_K) : sz_Q := szb_175_0 q ret sz_nog
theorem szm_175k (hr : sz_rt ρ Q ret) : sz_at S ρ q Q 175 0 (szm_175 q ret) := szb_175_0k hr sz_nog_ok
/-! KeyGroupsModel.infer()V -/
theorem szp_83 : sxP 83 = some (3, 1, 0, [], sxc83) := rfl
noncomputable def szb_83_107 (q : Nat) (ret : sz_K) (go : Nat → sz_Q) : sz_Q := sz_p2 0 0 (sz_p0 1 0 (sz_o47 1 1019 (sz_o59 ret)))
theorem szb_83_107k (hr : sz_rt ρ Q ret) (hg : ∀ t, sz_at S ρ q Q 83 t (go t)) : sz_at S ρ q Q 83 107 (szb_83_107 q ret go) := sz_p2_ok (i := 107) (by decide +kernel) (sz_p0_ok (i := 108) (by decide +kernel) (sz_o47_ok (i := 109) (by decide +kernel) (sz_o59_ok (i := 110) (a := 0) (b := 0) szp_83 rfl (by decide +kernel) hr)))
noncomputable def szb_83_106 (q : Nat) (ret : sz_K) (go : Nat → sz_Q) : sz_Q := (go 7)
theorem szb_83_106k (hr : sz_rt ρ Q ret) (hg : ∀ t, sz_at S ρ q Q 83 t (go t)) : sz_at S ρ q Q 83 106 (szb_83_106 q ret go) := sz_o35_ok (i := 106) (a := 7) (b := 0) (by decide +kernel) (hg 7)
noncomputable def szb_83_104 (q : Nat) (ret : sz_K) (go : Nat → sz_Q) : sz_Q := sz_o5 2 1 (go 13)
theorem szb_83_104k (hr : sz_rt ρ Q ret) (hg : ∀ t, sz_at S ρ q Q 83 t (go t)) : sz_at S ρ q Q 83 104 (szb_83_104 q ret go) := sz_o5_ok (i := 104) (by decide +kernel) (sz_o35_ok (i := 105) (a := 13) (b := 0) (by decide +kernel) (hg 13))
noncomputable def szb_83_33 (q : Nat) (ret : sz_K) (go : Nat → sz_Q) : sz_Q := sz_F38 q 0 1 6 2 (sz_p0 6 0 (sz_p30 104 0 (szb_83_104 q ret go) sz_no))
theorem szb_83_33k (hr : sz_rt ρ Q ret) (hg : ∀ t, sz_at S ρ q Q 83 t (go t)) : sz_at S ρ q Q 83 33 (szb_83_33 q ret go) := sz_F38_ok (i := 33) (by decide +kernel) (by decide +kernel) (by decide +kernel) (by decide +kernel) (sz_p0_ok (i := 37) (by decide +kernel) (sz_p30_ok (i := 38) (by decide +kernel) (szb_83_104k hr hg) sz_no_ok))
noncomputable def szb_83_26 (q : Nat) (ret : sz_K) (go : Nat → sz_Q) : sz_Q := sz_F1 0 1 16 (sz_p1 2 0 (sz_p0 1 0 (sz_o43 0 0 (sz_p0 1 0 (sz_o3 1 0 (szb_83_33 q ret go))))))
theorem szb_83_26k (hr : sz_rt ρ Q ret) (hg : ∀ t, sz_at S ρ q Q 83 t (go t)) : sz_at S ρ q Q 83 26 (szb_83_26 q ret go) := sz_F1_ok (i := 26) (by decide +kernel) (by decide +kernel) (sz_p1_ok (i := 28) (by decide +kernel) (sz_p0_ok (i := 29) (by decide +kernel) (sz_o43_ok (i := 30) (by decide +kernel) (sz_p0_ok (i := 31) (by decide +kernel) (sz_o3_ok (i := 32) (by decide +kernel) (szb_83_33k hr hg))))))
noncomputable def szb_83_22 (q : Nat) (ret : sz_K) (go : Nat → sz_Q) : sz_Q := sz_p2 0 0 (sz_p1 2 0 (sz_ca 56 2 1 (szm_175 q) (sz_p23 33 0 (szb_83_33 q ret go) (szb_83_26 q ret go)) (sz_t0 ret)))
theorem szb_83_22k (hr : sz_rt ρ Q ret) (hg : ∀ t, sz_at S ρ q Q 83 t (go t)) : sz_at S ρ q Q 83 22 (szb_83_22 q ret go) := sz_p2_ok (i := 22) (by decide +kernel) (sz_p1_ok (i := 23) (by decide +kernel) (sz_ca_ok (i := 24) (a := 175) (b := 2) (by decide +kernel) rfl rfl szp_175 rfl (fun _ _ h => szm_175k h) (sz_p23_ok (i := 25) (by decide +kernel) (szb_83_33k hr hg) (szb_83_26k hr hg)) (sz_t0_ok szp_83 rfl hr)))
noncomputable def szb_83_17 (q : Nat) (ret : sz_K) (go : Nat → sz_Q) : sz_Q := sz_F39 0 1 16 2 (sz_p24 33 0 (szb_83_33 q ret go) (szb_83_22 q ret go))
theorem szb_83_17k (hr : sz_rt ρ Q ret) (hg : ∀ t, sz_at S ρ q Q 83 t (go t)) : sz_at S ρ q Q 83 17 (szb_83_17 q ret go) := sz_F39_ok (i := 17) (by decide +kernel) (by decide +kernel) (by decide +kernel) (by decide +kernel) (sz_p24_ok (i := 21) (by decide +kernel) (szb_83_33k hr hg) (szb_83_22k hr hg))
noncomputable def szb_83_13 (q : Nat) (ret : sz_K) (go : Nat → sz_Q) : sz_Q := sz_p1 2 0 (sz_F1 0 1 4 (sz_p33 106 0 (szb_83_106 q ret go) (szb_83_17 q ret go)))
theorem szb_83_13k (hr : sz_rt ρ Q ret) (hg : ∀ t, sz_at S ρ q Q 83 t (go t)) : sz_at S ρ q Q 83 13 (szb_83_13 q ret go) := sz_p1_ok (i := 13) (by decide +kernel) (sz_F1_ok (i := 14) (by decide +kernel) (by decide +kernel) (sz_p33_ok (i := 16) (by decide +kernel) (szb_83_106k hr hg) (szb_83_17k hr hg)))
noncomputable def szb_83_9 (q : Nat) (ret : sz_K) (go : Nat → sz_Q) : sz_Q := sz_p0 0 0 (sz_o3 1 0 (sz_p0 1 0 (sz_o3 2 0 (szb_83_13 q ret go))))
theorem szb_83_9k (hr : sz_rt ρ Q ret) (hg : ∀ t, sz_at S ρ q Q 83 t (go t)) : sz_at S ρ q Q 83 9 (szb_83_9 q ret go) := sz_p0_ok (i := 9) (by decide +kernel) (sz_o3_ok (i := 10) (by decide +kernel) (sz_p0_ok (i := 11) (by decide +kernel) (sz_o3_ok (i := 12) (by decide +kernel) (szb_83_13k hr hg))))
noncomputable def szb_83_7 (q : Nat) (ret : sz_K) (go : Nat → sz_Q) : sz_Q := sz_p1 1 0 (sz_p23 107 0 (szb_83_107 q ret go) (szb_83_9 q ret go))
theorem szb_83_7k (hr : sz_rt ρ Q ret) (hg : ∀ t, sz_at S ρ q Q 83 t (go t)) : sz_at S ρ q Q 83 7 (szb_83_7 q ret go) := sz_p1_ok (i := 7) (by decide +kernel) (sz_p23_ok (i := 8) (by decide +kernel) (szb_83_107k hr hg) (szb_83_9k hr hg))
noncomputable def szb_83_6 (q : Nat) (ret : sz_K) (go : Nat → sz_Q) : sz_Q := sz_o3 1 0 (szb_83_7 q ret go)
theorem szb_83_6k (hr : sz_rt ρ Q ret) (hg : ∀ t, sz_at S ρ q Q 83 t (go t)) : sz_at S ρ q Q 83 6 (szb_83_6 q ret go) := sz_o3_ok (i := 6) (by decide +kernel) (szb_83_7k hr hg)
noncomputable def szb_83_3 (q : Nat) (ret : sz_K) (go : Nat → sz_Q) : sz_Q := sz_p0 1 0 (szb_83_6 q ret go)
theorem szb_83_3k (hr : sz_rt ρ Q ret) (hg : ∀ t, sz_at S ρ q Q 83 t (go t)) : sz_at S ρ q Q 83 3 (szb_83_3 q ret go) := sz_p0_ok (i := 3) (by decide +kernel) (sz_o35_ok (i := 4) (a := 6) (b := 0) (by decide +kernel) (szb_83_6k hr hg))
noncomputable def szb_83_0 (q : Nat) (ret : sz_K) (go : Nat → sz_Q) : sz_Q := sz_F1 0 1 19 (sz_p24 5 0 sz_no (szb_83_3 q ret go))
theorem szb_83_0k (hr : sz_rt ρ Q ret) (hg : ∀ t, sz_at S ρ q Q 83 t (go t)) : sz_at S ρ q Q 83 0 (szb_83_0 q ret go) := sz_F1_ok (i := 0) (by decide +kernel) (by decide +kernel) (sz_p24_ok (i := 2) (by decide +kernel) sz_no_ok (szb_83_3k hr hg))
noncomputable def szl_83 (q : Nat) (ret : sz_K) : Nat → sz_Q := sz_loop (fun go t => bif Nat.beq t 7 then szb_83_7 q ret go else bif Nat.beq t 13 then szb_83_13 q ret go else sz_no) 1000
theorem szl_83k (hr : sz_rt ρ Q ret) (t : Nat) : sz_at S ρ q Q 83 t (szl_83 q ret t) := sz_loop_ok (fun go hg t => (sz_sel_ok (szb_83_7k hr hg) (sz_sel_ok (szb_83_13k hr hg) sz_no_ok))) 1000 t
noncomputable def szm_83 (q : Nat) (ret : sz_K) : sz_Q := szb_83_0 q ret (szl_83 q ret)
theorem szm_83k (hr : sz_rt ρ Q ret) : sz_at S ρ q Q 83 0 (szm_83 q ret) := szb_83_0k hr (szl_83k hr)
variable {B : sy_H} {E' : sy_E} {ret' : sz_K} {go' : Nat → sz_Q}
noncomputable def szr_175_76 (ret : sz_K) (go : Nat → sz_Q) : sz_Q := sz_p0 0 0 (sz_o60 2 ret)
theorem szr_175_76f (hB : Nat.ble B.1 sxlim.1 = true ∧ Nat.ble B.2.1 sxlim.2 = true) (hr : sz_frr B E' ret ret') (hg : ∀ t, sz_fr B E' (go t) (go' t)) : sz_fr B E' (szr_175_76 ret go) (szb_175_76 q ret' go') := sz_p0_fr (sz_o60_fr hr)
noncomputable def szr_175_5 (ret : sz_K) (go : Nat → sz_Q) : sz_Q := sz_p0 1 0 (sz_o60 2 ret)
theorem szr_175_5f (hB : Nat.ble B.1 sxlim.1 = true ∧ Nat.ble B.2.1 sxlim.2 = true) (hr : sz_frr B E' ret ret') (hg : ∀ t, sz_fr B E' (go t) (go' t)) : sz_fr B E' (szr_175_5 ret go) (szb_175_5 q ret' go') := sz_p0_fr (sz_o60_fr hr)
noncomputable def szr_175_0 (ret : sz_K) (go : Nat → sz_Q) : sz_Q := sz_F3 0 0 0 1 6 1 (sz_r36 sxc175 (36, 0, 0, 6, 46, .tableswitch (163) (0) (7) #[46, 46, 48, 48, 60, 94, 106, 48]) (fun t => bif Nat.beq t 5 then (szr_175_5 ret go) else bif Nat.beq t 76 then (szr_175_76 ret go) else sz_no)) sz_no
theorem szr_175_0f (hB : Nat.ble B.1 sxlim.1 = true ∧ Nat.ble B.2.1 sxlim.2 = true) (hr : sz_frr B E' ret ret') (hg : ∀ t, sz_fr B E' (go t) (go' t)) : sz_fr B E' (szr_175_0 ret go) (szb_175_0 q ret' go') := sz_F3_fr (sz_o36_fr (fun t => (sz_sel_fr (szr_175_5f hB hr hg) (sz_sel_fr (szr_175_76f hB hr hg) sz_no_fr))))
noncomputable def szrm_175 (ret : sz_K) : sz_Q := szr_175_0 ret sz_nog
theorem szrm_175f (hB : Nat.ble B.1 sxlim.1 = true ∧ Nat.ble B.2.1 sxlim.2 = true) (hr : sz_frr B E' ret ret') : sz_fr B E' (szrm_175 ret) (szm_175 q ret') := szr_175_0f hB hr (fun _ => sz_no_fr)
noncomputable def szr_83_107 (ret : sz_K) (go : Nat → sz_Q) : sz_Q := sz_p2 0 0 (sz_p0 1 0 (sz_r47 1 1019 (sz_o59 ret)))
theorem szr_83_107f (hB : Nat.ble B.1 sxlim.1 = true ∧ Nat.ble B.2.1 sxlim.2 = true) (hr : sz_frr B E' ret ret') (hg : ∀ t, sz_fr B E' (go t) (go' t)) : sz_fr B E' (szr_83_107 ret go) (szb_83_107 q ret' go') := sz_p2_fr (sz_p0_fr (sz_o47_fr (sz_o59_fr hr)))
noncomputable def szr_83_106 (ret : sz_K) (go : Nat → sz_Q) : sz_Q := (go 7)
theorem szr_83_106f (hB : Nat.ble B.1 sxlim.1 = true ∧ Nat.ble B.2.1 sxlim.2 = true) (hr : sz_frr B E' ret ret') (hg : ∀ t, sz_fr B E' (go t) (go' t)) : sz_fr B E' (szr_83_106 ret go) (szb_83_106 q ret' go') := (hg 7)
noncomputable def szr_83_104 (ret : sz_K) (go : Nat → sz_Q) : sz_Q := sz_o5 2 1 (go 13)
theorem szr_83_104f (hB : Nat.ble B.1 sxlim.1 = true ∧ Nat.ble B.2.1 sxlim.2 = true) (hr : sz_frr B E' ret ret') (hg : ∀ t, sz_fr B E' (go t) (go' t)) : sz_fr B E' (szr_83_104 ret go) (szb_83_104 q ret' go') := sz_o5_fr (hg 13)
noncomputable def szr_83_33 (ret : sz_K) (go : Nat → sz_Q) : sz_Q := sz_F3 0 0 0 1 6 2 (sz_p0 6 0 (sz_g2 (fun A C => !(Nat.beq A C)) (szr_83_104 ret go) sz_no sz_no)) sz_no
theorem szr_83_33f (hB : Nat.ble B.1 sxlim.1 = true ∧ Nat.ble B.2.1 sxlim.2 = true) (hr : sz_frr B E' ret ret') (hg : ∀ t, sz_fr B E' (go t) (go' t)) : sz_fr B E' (szr_83_33 ret go) (szb_83_33 q ret' go') := sz_F3_fr (sz_p0_fr (sz_g2_fr (szr_83_104f hB hr hg) sz_no_fr))
noncomputable def szr_83_26 (ret : sz_K) (go : Nat → sz_Q) : sz_Q := sz_F1 0 1 16 (sz_p1 2 0 (sz_p0 1 0 (sz_r43 (sz_p0 1 0 (sz_o3 1 0 (szr_83_33 ret go))))))
theorem szr_83_26f (hB : Nat.ble B.1 sxlim.1 = true ∧ Nat.ble B.2.1 sxlim.2 = true) (hr : sz_frr B E' ret ret') (hg : ∀ t, sz_fr B E' (go t) (go' t)) : sz_fr B E' (szr_83_26 ret go) (szb_83_26 q ret' go') := sz_F1_fr (sz_p1_fr (sz_p0_fr (sz_o43_fr (sz_p0_fr (sz_o3_fr (szr_83_33f hB hr hg))))))
noncomputable def szr_83_22 (ret : sz_K) (go : Nat → sz_Q) : sz_Q := sz_p2 0 0 (sz_p1 2 0 (sz_ca 56 2 1 szrm_175 (sz_g1 (fun A => Nat.beq A 2147483648) (szr_83_33 ret go) (szr_83_26 ret go) sz_no) (sz_t0 ret)))
theorem szr_83_22f (hB : Nat.ble B.1 sxlim.1 = true ∧ Nat.ble B.2.1 sxlim.2 = true) (hr : sz_frr B E' ret ret') (hg : ∀ t, sz_fr B E' (go t) (go' t)) : sz_fr B E' (szr_83_22 ret go) (szb_83_22 q ret' go') := sz_p2_fr (sz_p1_fr (sz_ca_fr hB (fun _ _ h => szrm_175f hB h) (sz_g1_fr (szr_83_33f hB hr hg) (szr_83_26f hB hr hg)) (sz_t0_fr hr)))
noncomputable def szr_83_17 (ret : sz_K) (go : Nat → sz_Q) : sz_Q := sz_F3 1 2 0 1 16 2 (sz_g1 (fun A => !(Nat.beq A 2147483648)) (szr_83_33 ret go) (szr_83_22 ret go) sz_no) sz_no
theorem szr_83_17f (hB : Nat.ble B.1 sxlim.1 = true ∧ Nat.ble B.2.1 sxlim.2 = true) (hr : sz_frr B E' ret ret') (hg : ∀ t, sz_fr B E' (go t) (go' t)) : sz_fr B E' (szr_83_17 ret go) (szb_83_17 q ret' go') := sz_F3_fr (sz_g1_fr (szr_83_33f hB hr hg) (szr_83_22f hB hr hg))
noncomputable def szr_83_13 (ret : sz_K) (go : Nat → sz_Q) : sz_Q := sz_p1 2 0 (sz_F1 0 1 4 (sz_g2 (fun A C => Nat.blt C A) (szr_83_106 ret go) (szr_83_17 ret go) sz_no))
theorem szr_83_13f (hB : Nat.ble B.1 sxlim.1 = true ∧ Nat.ble B.2.1 sxlim.2 = true) (hr : sz_frr B E' ret ret') (hg : ∀ t, sz_fr B E' (go t) (go' t)) : sz_fr B E' (szr_83_13 ret go) (szb_83_13 q ret' go') := sz_p1_fr (sz_F1_fr (sz_g2_fr (szr_83_106f hB hr hg) (szr_83_17f hB hr hg)))
noncomputable def szr_83_9 (ret : sz_K) (go : Nat → sz_Q) : sz_Q := sz_p0 0 0 (sz_o3 1 0 (sz_p0 1 0 (sz_o3 2 0 (szr_83_13 ret go))))
theorem szr_83_9f (hB : Nat.ble B.1 sxlim.1 = true ∧ Nat.ble B.2.1 sxlim.2 = true) (hr : sz_frr B E' ret ret') (hg : ∀ t, sz_fr B E' (go t) (go' t)) : sz_fr B E' (szr_83_9 ret go) (szb_83_9 q ret' go') := sz_p0_fr (sz_o3_fr (sz_p0_fr (sz_o3_fr (szr_83_13f hB hr hg))))
noncomputable def szr_83_7 (ret : sz_K) (go : Nat → sz_Q) : sz_Q := sz_p1 1 0 (sz_g1 (fun A => Nat.beq A 2147483648) (szr_83_107 ret go) (szr_83_9 ret go) sz_no)
theorem szr_83_7f (hB : Nat.ble B.1 sxlim.1 = true ∧ Nat.ble B.2.1 sxlim.2 = true) (hr : sz_frr B E' ret ret') (hg : ∀ t, sz_fr B E' (go t) (go' t)) : sz_fr B E' (szr_83_7 ret go) (szb_83_7 q ret' go') := sz_p1_fr (sz_g1_fr (szr_83_107f hB hr hg) (szr_83_9f hB hr hg))
noncomputable def szr_83_6 (ret : sz_K) (go : Nat → sz_Q) : sz_Q := sz_o3 1 0 (szr_83_7 ret go)
theorem szr_83_6f (hB : Nat.ble B.1 sxlim.1 = true ∧ Nat.ble B.2.1 sxlim.2 = true) (hr : sz_frr B E' ret ret') (hg : ∀ t, sz_fr B E' (go t) (go' t)) : sz_fr B E' (szr_83_6 ret go) (szb_83_6 q ret' go') := sz_o3_fr (szr_83_7f hB hr hg)
noncomputable def szr_83_3 (ret : sz_K) (go : Nat → sz_Q) : sz_Q := sz_p0 1 0 (szr_83_6 ret go)
theorem szr_83_3f (hB : Nat.ble B.1 sxlim.1 = true ∧ Nat.ble B.2.1 sxlim.2 = true) (hr : sz_frr B E' ret ret') (hg : ∀ t, sz_fr B E' (go t) (go' t)) : sz_fr B E' (szr_83_3 ret go) (szb_83_3 q ret' go') := sz_p0_fr (szr_83_6f hB hr hg)
noncomputable def szr_83_0 (ret : sz_K) (go : Nat → sz_Q) : sz_Q := sz_F1 0 1 19 (sz_g1 (fun A => !(Nat.beq A 2147483648)) sz_no (szr_83_3 ret go) sz_no)
theorem szr_83_0f (hB : Nat.ble B.1 sxlim.1 = true ∧ Nat.ble B.2.1 sxlim.2 = true) (hr : sz_frr B E' ret ret') (hg : ∀ t, sz_fr B E' (go t) (go' t)) : sz_fr B E' (szr_83_0 ret go) (szb_83_0 q ret' go') := sz_F1_fr (sz_g1_fr sz_no_fr (szr_83_3f hB hr hg))
noncomputable def szrl_83 (ret : sz_K) : Nat → sz_Q := sz_loop (fun go t => bif Nat.beq t 7 then szr_83_7 ret go else bif Nat.beq t 13 then szr_83_13 ret go else sz_no) 1000
theorem szrl_83f (hB : Nat.ble B.1 sxlim.1 = true ∧ Nat.ble B.2.1 sxlim.2 = true) (hr : sz_frr B E' ret ret') (t : Nat) : sz_fr B E' (szrl_83 ret t) (szl_83 q ret' t) := by
  unfold szrl_83 szl_83
  generalize 1000 = n
  refine sz_loop_fr (fun go go' hg t => ?_) n t
  exact (sz_sel_fr (szr_83_7f hB hr hg) (sz_sel_fr (szr_83_13f hB hr hg) sz_no_fr))
noncomputable def szrm_83 (ret : sz_K) : sz_Q := szr_83_0 ret (szrl_83 ret)
theorem szrm_83f (hB : Nat.ble B.1 sxlim.1 = true ∧ Nat.ble B.2.1 sxlim.2 = true) (hr : sz_frr B E' ret ret') : sz_fr B E' (szrm_83 ret) (szm_83 q ret') := szr_83_0f hB hr (szrl_83f hB hr)
noncomputable def sz_mk (l : sy_K) (k : Nat) (c : Option sy_C) : sy_K := match c with
  | some c => sy_put l k c
  | none => l
theorem sz_mk_get {l : sy_K} {k : Nat} {c : Option sy_C} (hk : k < 2048) {j : Nat} (hj : j < 2048) (h0 : sy_get (0, 0, l) k = none) : sy_get (0, 0, sz_mk l k c) j = if j = k then c else sy_get (0, 0, l) j := by
  cases c with
  | none =>
    show sy_get (0, 0, l) j = _
    by_cases e : j = k
    · rw [if_pos e, e]; exact h0
    · rw [if_neg e]
  | some c => exact sy_get_put l 0 0 hk hj c
noncomputable def sz_RR (c0 c1 c2 : Option sy_C) : sy_H := (0, 0, sz_mk (sz_mk (sz_mk sy_e11 1421 c0) 1434 c1) 1424 c2)
theorem sz_RR_get (c0 c1 c2 : Option sy_C) {j : Nat} (hj : j < 2048) : sy_get (sz_RR c0 c1 c2) j = if j = 1424 then c2 else if j = 1434 then c1 else if j = 1421 then c0 else none := by
  have e0 : ∀ i, i < 2048 → sy_get (0, 0, sy_e11) i = none := fun i hi => by rw [sy_get_eq _ hi]; exact sy_ge_11 i
  have e1 : ∀ i, i < 2048 → sy_get (0, 0, sz_mk sy_e11 1421 c0) i = if i = 1421 then c0 else none := fun i hi => by rw [sz_mk_get (by omega) hi (e0 _ (by omega)), e0 i hi]
  have e2 : ∀ i, i < 2048 → sy_get (0, 0, sz_mk (sz_mk sy_e11 1421 c0) 1434 c1) i = if i = 1434 then c1 else if i = 1421 then c0 else none := fun i hi => by rw [sz_mk_get (by omega) hi (by rw [e1 _ (by omega), if_neg (by omega)]), e1 i hi]
  unfold sz_RR
  rw [sz_mk_get (by omega) hj (by rw [e2 _ (by omega), if_neg (by omega), if_neg (by omega)]), e2 j hj]
noncomputable def sz_d0 (c : Option sy_C) : Option sy_C := match c with
  | some (.inl (ci, fs)) => some (.inl (ci, sy_fs fs 19 (.int 1)))
  | _ => none
noncomputable def sz_d1 (c : Option sy_C) : Option sy_C := match c with
  | some (.inr (.inl (t, n, A))) => some (.inr (.inl (t, n, sy_ps A 1 1)))
  | _ => none
noncomputable def sz_chk : sz_K := fun _ r T => match r with
  | .inl none => sy_heq T (sz_RR (sz_d0 (sy_get sxTC 1421)) (sz_d1 (sy_get sxTC 1434)) (sy_get sxTC 1424))
  | _ => false
theorem sz_inf_run : szrm_83 sz_chk [] [(0, .inl (.ref 1422))] [] (sz_RR (sy_get sxTC 1421) (sy_get sxTC 1434) (sy_get sxTC 1424)) = true := by decide +kernel
noncomputable def szi_ck (ls : sy_L) (st : List sy_V) (T : sy_H) : Bool := match ls, st with
  | [(n, .inl (.ref x))], [] => Nat.beq n 0 && (Nat.beq x 1422 && (sy_ceq (sy_get T 1434) (sy_get sxTC 1434) && (sy_ceq (sy_get T 1424) (sy_get sxTC 1424) && (sy_ceq (sy_get T 1421) (sy_get sxTC 1421) && (Nat.ble T.1 sxlim.1 && Nat.ble T.2.1 sxlim.2)))))
  | _, _ => false
noncomputable def szi_go (ret : sz_K) (E : sy_E) (T : sy_H) : Bool := match sy_get T 1421, sy_get T 1434 with
  | some (.inl (ci, fs)), some (.inr (.inl (t, n, A))) => sy_fsk fs 19 (.int 1) (fun f' => sy_setk T 1421 (.inl (ci, f')) (fun T1 => sy_fn (sy_ps A 1 1) (fun A' => sy_setk T1 1434 (.inr (.inl (t, n, A'))) (fun T2 => ret E (.inl none) T2))))
  | _, _ => false
noncomputable def szi_83 (q : Nat) (ret : sz_K) : sz_Q := fun E ls st T => bif szi_ck ls st T then szi_go ret E T else szm_83 q ret E ls st T
theorem szi_set_get (X : sy_H) {kk : Nat} (hk : kk < 2048) (c : sy_C) {j : Nat} (hj : j < 2048) : sy_get (sy_set X kk c) j = if j = kk then some c else sy_get X j := sy_get_put X.2.2 X.1 X.2.1 hk hj c
theorem szi_83k (hr : sz_rt ρ Q ret) : sz_at S ρ q Q 83 0 (szi_83 q ret) := sz_fast (szm_83k hr) (fun E ls st T h => by
  unfold szi_83 at h
  cases hc : szi_ck ls st T with
  | false => rw [hc] at h; exact h
  | true =>
    rw [hc] at h
    have h : szi_go ret E T = true := h
    unfold szi_ck at hc
    split at hc
    · next n x =>
      simp only [Bool.and_eq_true] at hc
      obtain ⟨hn, hx, h1, h2, h0, hb1, hb2⟩ := hc
      have hn := Nat.eq_of_beq_eq_true hn
      have hx := Nat.eq_of_beq_eq_true hx
      subst hn
      subst hx
      have h0 := sy_ceq_ok _ _ h0
      have h1 := sy_ceq_ok _ _ h1
      have h2 := sy_ceq_ok _ _ h2
      have hrun := sz_inf_run
      rw [← h0, ← h1, ← h2] at hrun
      refine szrm_83f (B := T) (E' := E) ⟨hb1, hb2⟩ ?_ _ _ _ T ?_ ?_ ?_ hrun
      · intro r T1 T1' hv hrel e
        unfold sz_chk at e
        split at e
        · have e := sy_heq_ok e
          subst e
          rw [← h0, ← h1, ← h2] at hrel
          unfold szi_go at h
          split at h
          · next ci fs t n A g0 g1 =>
            simp only [sy_fsk_eq, sy_setk_eq, sy_fn_eq] at h
            rw [g0, g1] at hrel
            have hT : T1' = sy_set (sy_set T 1421 (.inl (ci, sy_fs fs 19 (.int 1)))) 1434 (.inr (.inl (t, n, sy_ps A 1 1))) := by
              refine sy_ext hrel.2.2.1 hrel.2.2.2 (fun k hk => ?_)
              rw [szi_set_get _ (by omega) _ hk, szi_set_get _ (by omega) _ hk]
              have hG := sz_RR_get (sz_d0 (some (.inl (ci, fs)))) (sz_d1 (some (.inr (.inl (t, n, A))))) (sy_get T 1424) hk
              by_cases k1 : k = 1434
              · rw [if_pos k1]
                rw [if_neg (by omega), if_pos k1] at hG
                exact hrel.1 k _ hG
              · rw [if_neg k1]
                by_cases k2 : k = 1421
                · rw [if_pos k2]
                  rw [if_neg (by omega), if_neg k1, if_pos k2] at hG
                  exact hrel.1 k _ hG
                · rw [if_neg k2]
                  by_cases k3 : k = 1424
                  · rw [if_pos k3] at hG
                    cases hs : sy_get T 1424 with
                    | none =>
                      rw [hs] at hG
                      rw [hs] at hrel
                      exact hrel.2.1 k hG
                    | some c9 =>
                      rw [hs] at hG
                      rw [hs] at hrel
                      rw [hrel.1 k _ hG, k3, hs]
                  · rw [if_neg k3, if_neg k1, if_neg k2] at hG
                    exact hrel.2.1 k hG
            rw [hT]
            exact h
          · cases h
        · cases e
      · exact sz_nvl_cons (fun p hp => by cases hp)
      · intro v hv
        cases hv
      · refine ⟨fun k c e => ?_, fun k _ => rfl, rfl, rfl⟩
        have hk := sy_get_lt e
        rw [sz_RR_get _ _ _ hk] at e
        by_cases k3 : k = 1424
        · rw [if_pos k3] at e; rw [k3]; exact e
        · rw [if_neg k3] at e
          by_cases k1 : k = 1434
          · rw [if_pos k1] at e; rw [k1]; exact e
          · rw [if_neg k1] at e
            by_cases k2 : k = 1421
            · rw [if_pos k2] at e; rw [k2]; exact e
            · rw [if_neg k2] at e; cases e
    · cases hc)
/-! KeyGroupsModel.propose(III)I -/
theorem szp_17 : sxP 17 = some (11, 1, 1, [], sxc17) := rfl
noncomputable def szb_17_70 (q : Nat) (ret : sz_K) (go : Nat → sz_Q) : sz_Q := sz_p0 0 0 (sz_o60 1 ret)
theorem szb_17_70k (hr : sz_rt ρ Q ret) (hg : ∀ t, sz_at S ρ q Q 17 t (go t)) : sz_at S ρ q Q 17 70 (szb_17_70 q ret go) := sz_p0_ok (i := 70) (by decide +kernel) (sz_o60_ok (i := 71) (a := 0) (b := 0) szp_17 rfl (by decide +kernel) hr)
noncomputable def szb_17_66 (q : Nat) (ret : sz_K) (go : Nat → sz_Q) : sz_Q := sz_o47 1 0 (sz_F1 0 1 0 (sz_p28 72 0 sz_no (szb_17_70 q ret go)))
theorem szb_17_66k (hr : sz_rt ρ Q ret) (hg : ∀ t, sz_at S ρ q Q 17 t (go t)) : sz_at S ρ q Q 17 66 (szb_17_66 q ret go) := sz_o47_ok (i := 66) (by decide +kernel) (sz_F1_ok (i := 67) (by decide +kernel) (by decide +kernel) (sz_p28_ok (i := 69) (by decide +kernel) sz_no_ok (szb_17_70k hr hg)))
noncomputable def szb_17_63 (q : Nat) (ret : sz_K) (go : Nat → sz_Q) : sz_Q := sz_p0 3 0 (szb_17_66 q ret go)
theorem szb_17_63k (hr : sz_rt ρ Q ret) (hg : ∀ t, sz_at S ρ q Q 17 t (go t)) : sz_at S ρ q Q 17 63 (szb_17_63 q ret go) := sz_p0_ok (i := 63) (by decide +kernel) (sz_o35_ok (i := 64) (a := 66) (b := 0) (by decide +kernel) (szb_17_66k hr hg))
noncomputable def szb_17_52 (q : Nat) (ret : sz_K) (go : Nat → sz_Q) : sz_Q := sz_F39 0 1 27 1 (sz_p23 63 0 (szb_17_63 q ret go) sz_no)
theorem szb_17_52k (hr : sz_rt ρ Q ret) (hg : ∀ t, sz_at S ρ q Q 17 t (go t)) : sz_at S ρ q Q 17 52 (szb_17_52 q ret go) := sz_F39_ok (i := 52) (by decide +kernel) (by decide +kernel) (by decide +kernel) (by decide +kernel) (sz_p23_ok (i := 56) (by decide +kernel) (szb_17_63k hr hg) sz_no_ok)
noncomputable def szb_17_48 (q : Nat) (ret : sz_K) (go : Nat → sz_Q) : sz_Q := sz_F1 0 1 22 (sz_p0 300 0 (sz_p29 63 0 (szb_17_63 q ret go) (szb_17_52 q ret go)))
theorem szb_17_48k (hr : sz_rt ρ Q ret) (hg : ∀ t, sz_at S ρ q Q 17 t (go t)) : sz_at S ρ q Q 17 48 (szb_17_48 q ret go) := sz_F1_ok (i := 48) (by decide +kernel) (by decide +kernel) (sz_p0_ok (i := 50) (by decide +kernel) (sz_p29_ok (i := 51) (by decide +kernel) (szb_17_63k hr hg) (szb_17_52k hr hg)))
noncomputable def szb_17_39 (q : Nat) (ret : sz_K) (go : Nat → sz_Q) : sz_Q := sz_p1 2 0 (sz_p0 1 0 (sz_p30 48 0 (szb_17_48 q ret go) sz_no))
theorem szb_17_39k (hr : sz_rt ρ Q ret) (hg : ∀ t, sz_at S ρ q Q 17 t (go t)) : sz_at S ρ q Q 17 39 (szb_17_39 q ret go) := sz_p1_ok (i := 39) (by decide +kernel) (sz_p0_ok (i := 40) (by decide +kernel) (sz_p30_ok (i := 41) (by decide +kernel) (szb_17_48k hr hg) sz_no_ok))
noncomputable def szb_17_37 (q : Nat) (ret : sz_K) (go : Nat → sz_Q) : sz_Q := sz_p0 1 0 (szb_17_66 q ret go)
theorem szb_17_37k (hr : sz_rt ρ Q ret) (hg : ∀ t, sz_at S ρ q Q 17 t (go t)) : sz_at S ρ q Q 17 37 (szb_17_37 q ret go) := sz_p0_ok (i := 37) (by decide +kernel) (sz_o35_ok (i := 38) (a := 66) (b := 0) (by decide +kernel) (szb_17_66k hr hg))
noncomputable def szb_17_33 (q : Nat) (ret : sz_K) (go : Nat → sz_Q) : sz_Q := sz_o3 4 0 (sz_p2 0 0 (sz_p1 4 0 (sz_p23 39 0 (szb_17_39 q ret go) (szb_17_37 q ret go))))
theorem szb_17_33k (hr : sz_rt ρ Q ret) (hg : ∀ t, sz_at S ρ q Q 17 t (go t)) : sz_at S ρ q Q 17 33 (szb_17_33 q ret go) := sz_o3_ok (i := 33) (by decide +kernel) (sz_p2_ok (i := 34) (by decide +kernel) (sz_p1_ok (i := 35) (by decide +kernel) (sz_p23_ok (i := 36) (by decide +kernel) (szb_17_39k hr hg) (szb_17_37k hr hg))))
noncomputable def szb_17_32 (q : Nat) (ret : sz_K) (go : Nat → sz_Q) : sz_Q := sz_p0 0 0 (szb_17_33 q ret go)
theorem szb_17_32k (hr : sz_rt ρ Q ret) (hg : ∀ t, sz_at S ρ q Q 17 t (go t)) : sz_at S ρ q Q 17 32 (szb_17_32 q ret go) := sz_p0_ok (i := 32) (by decide +kernel) (szb_17_33k hr hg)
noncomputable def szb_17_30 (q : Nat) (ret : sz_K) (go : Nat → sz_Q) : sz_Q := sz_p0 1 0 (szb_17_33 q ret go)
theorem szb_17_30k (hr : sz_rt ρ Q ret) (hg : ∀ t, sz_at S ρ q Q 17 t (go t)) : sz_at S ρ q Q 17 30 (szb_17_30 q ret go) := sz_p0_ok (i := 30) (by decide +kernel) (sz_o35_ok (i := 31) (a := 33) (b := 0) (by decide +kernel) (szb_17_33k hr hg))
noncomputable def szb_17_27 (q : Nat) (ret : sz_K) (go : Nat → sz_Q) : sz_Q := sz_p1 3 0 (sz_p0 16 0 (sz_p31 32 0 (szb_17_32 q ret go) (szb_17_30 q ret go)))
theorem szb_17_27k (hr : sz_rt ρ Q ret) (hg : ∀ t, sz_at S ρ q Q 17 t (go t)) : sz_at S ρ q Q 17 27 (szb_17_27 q ret go) := sz_p1_ok (i := 27) (by decide +kernel) (sz_p0_ok (i := 28) (by decide +kernel) (sz_p31_ok (i := 29) (by decide +kernel) (szb_17_32k hr hg) (szb_17_30k hr hg)))
noncomputable def szb_17_25 (q : Nat) (ret : sz_K) (go : Nat → sz_Q) : sz_Q := sz_p1 3 0 (sz_p25 30 0 (szb_17_30 q ret go) (szb_17_27 q ret go))
theorem szb_17_25k (hr : sz_rt ρ Q ret) (hg : ∀ t, sz_at S ρ q Q 17 t (go t)) : sz_at S ρ q Q 17 25 (szb_17_25 q ret go) := sz_p1_ok (i := 25) (by decide +kernel) (sz_p25_ok (i := 26) (by decide +kernel) (szb_17_30k hr hg) (szb_17_27k hr hg))
noncomputable def szb_17_22 (q : Nat) (ret : sz_K) (go : Nat → sz_Q) : sz_Q := sz_p1 2 0 (sz_p0 3 0 (sz_p30 32 0 (szb_17_32 q ret go) (szb_17_25 q ret go)))
theorem szb_17_22k (hr : sz_rt ρ Q ret) (hg : ∀ t, sz_at S ρ q Q 17 t (go t)) : sz_at S ρ q Q 17 22 (szb_17_22 q ret go) := sz_p1_ok (i := 22) (by decide +kernel) (sz_p0_ok (i := 23) (by decide +kernel) (sz_p30_ok (i := 24) (by decide +kernel) (szb_17_32k hr hg) (szb_17_25k hr hg)))
noncomputable def szb_17_18 (q : Nat) (ret : sz_K) (go : Nat → sz_Q) : sz_Q := sz_p1 3 0 (sz_F1 0 1 22 (sz_p32 30 0 (szb_17_30 q ret go) (szb_17_22 q ret go)))
theorem szb_17_18k (hr : sz_rt ρ Q ret) (hg : ∀ t, sz_at S ρ q Q 17 t (go t)) : sz_at S ρ q Q 17 18 (szb_17_18 q ret go) := sz_p1_ok (i := 18) (by decide +kernel) (sz_F1_ok (i := 19) (by decide +kernel) (by decide +kernel) (sz_p32_ok (i := 21) (by decide +kernel) (szb_17_30k hr hg) (szb_17_22k hr hg)))
noncomputable def szb_17_16 (q : Nat) (ret : sz_K) (go : Nat → sz_Q) : sz_Q := sz_p1 3 0 (sz_p25 30 0 (szb_17_30 q ret go) (szb_17_18 q ret go))
theorem szb_17_16k (hr : sz_rt ρ Q ret) (hg : ∀ t, sz_at S ρ q Q 17 t (go t)) : sz_at S ρ q Q 17 16 (szb_17_16 q ret go) := sz_p1_ok (i := 16) (by decide +kernel) (sz_p25_ok (i := 17) (by decide +kernel) (szb_17_30k hr hg) (szb_17_18k hr hg))
noncomputable def szb_17_13 (q : Nat) (ret : sz_K) (go : Nat → sz_Q) : sz_Q := sz_p1 2 0 (sz_p0 1 0 (sz_p30 22 0 (szb_17_22 q ret go) (szb_17_16 q ret go)))
theorem szb_17_13k (hr : sz_rt ρ Q ret) (hg : ∀ t, sz_at S ρ q Q 17 t (go t)) : sz_at S ρ q Q 17 13 (szb_17_13 q ret go) := sz_p1_ok (i := 13) (by decide +kernel) (sz_p0_ok (i := 14) (by decide +kernel) (sz_p30_ok (i := 15) (by decide +kernel) (szb_17_22k hr hg) (szb_17_16k hr hg)))
noncomputable def szb_17_10 (q : Nat) (ret : sz_K) (go : Nat → sz_Q) : sz_Q := sz_p1 2 0 (sz_p0 3 0 (sz_p33 30 0 (szb_17_30 q ret go) (szb_17_13 q ret go)))
theorem szb_17_10k (hr : sz_rt ρ Q ret) (hg : ∀ t, sz_at S ρ q Q 17 t (go t)) : sz_at S ρ q Q 17 10 (szb_17_10 q ret go) := sz_p1_ok (i := 10) (by decide +kernel) (sz_p0_ok (i := 11) (by decide +kernel) (sz_p33_ok (i := 12) (by decide +kernel) (szb_17_30k hr hg) (szb_17_13k hr hg)))
noncomputable def szb_17_7 (q : Nat) (ret : sz_K) (go : Nat → sz_Q) : sz_Q := sz_p1 2 0 (sz_p0 1 0 (sz_p31 30 0 (szb_17_30 q ret go) (szb_17_10 q ret go)))
theorem szb_17_7k (hr : sz_rt ρ Q ret) (hg : ∀ t, sz_at S ρ q Q 17 t (go t)) : sz_at S ρ q Q 17 7 (szb_17_7 q ret go) := sz_p1_ok (i := 7) (by decide +kernel) (sz_p0_ok (i := 8) (by decide +kernel) (sz_p31_ok (i := 9) (by decide +kernel) (szb_17_30k hr hg) (szb_17_10k hr hg)))
noncomputable def szb_17_4 (q : Nat) (ret : sz_K) (go : Nat → sz_Q) : sz_Q := sz_p1 1 0 (sz_p0 24 0 (sz_p32 30 0 (szb_17_30 q ret go) (szb_17_7 q ret go)))
theorem szb_17_4k (hr : sz_rt ρ Q ret) (hg : ∀ t, sz_at S ρ q Q 17 t (go t)) : sz_at S ρ q Q 17 4 (szb_17_4 q ret go) := sz_p1_ok (i := 4) (by decide +kernel) (sz_p0_ok (i := 5) (by decide +kernel) (sz_p32_ok (i := 6) (by decide +kernel) (szb_17_30k hr hg) (szb_17_7k hr hg)))
noncomputable def szb_17_0 (q : Nat) (ret : sz_K) (go : Nat → sz_Q) : sz_Q := sz_p2 0 0 (sz_ca 56 1 1 (szi_83 q) (sz_p1 1 0 (sz_p25 30 0 (szb_17_30 q ret go) (szb_17_4 q ret go))) (sz_t0 ret))
theorem szb_17_0k (hr : sz_rt ρ Q ret) (hg : ∀ t, sz_at S ρ q Q 17 t (go t)) : sz_at S ρ q Q 17 0 (szb_17_0 q ret go) := sz_p2_ok (i := 0) (by decide +kernel) (sz_ca_ok (i := 1) (a := 83) (b := 1) (by decide +kernel) rfl rfl szp_83 rfl (fun _ _ h => szi_83k h) (sz_p1_ok (i := 2) (by decide +kernel) (sz_p25_ok (i := 3) (by decide +kernel) (szb_17_30k hr hg) (szb_17_4k hr hg))) (sz_t0_ok szp_17 rfl hr))
noncomputable def szm_17 (q : Nat) (ret : sz_K) : sz_Q := szb_17_0 q ret sz_nog
theorem szm_17k (hr : sz_rt ρ Q ret) : sz_at S ρ q Q 17 0 (szm_17 q ret) := szb_17_0k hr sz_nog_ok
/-! KeyGroups.commit(IZ)I -/
theorem szp_93 : sxP 93 = some (11, 0, 1, [], sxc93) := rfl
noncomputable def szb_93_11 (q : Nat) (ret : sz_K) (go : Nat → sz_Q) : sz_Q := sz_o62 14 ret
theorem szb_93_11k (hr : sz_rt ρ Q ret) (hg : ∀ t, sz_at S ρ q Q 93 t (go t)) : sz_at S ρ q Q 93 11 (szb_93_11 q ret go) := sz_o62_ok (i := 11) (a := 14) (b := 1) (by decide +kernel) hr
noncomputable def szb_93_8 (q : Nat) (ret : sz_K) (go : Nat → sz_Q) : sz_Q := sz_F1 3 6 3 (sz_p24 16 0 sz_no (szb_93_11 q ret go))
theorem szb_93_8k (hr : sz_rt ρ Q ret) (hg : ∀ t, sz_at S ρ q Q 93 t (go t)) : sz_at S ρ q Q 93 8 (szb_93_8 q ret go) := sz_F1_ok (i := 8) (by decide +kernel) (by decide +kernel) (sz_p24_ok (i := 10) (by decide +kernel) sz_no_ok (szb_93_11k hr hg))
noncomputable def szb_93_0 (q : Nat) (ret : sz_K) (go : Nat → sz_Q) : sz_Q := sz_p2 0 0 (sz_p1 1 0 (sz_ca 56 2 0 (szm_151 q) (sz_o4 3 0 (sz_F1 0 0 4 (sz_p0 300 0 (sz_p32 11 0 (szb_93_11 q ret go) (szb_93_8 q ret go))))) (sz_t0 ret)))
theorem szb_93_0k (hr : sz_rt ρ Q ret) (hg : ∀ t, sz_at S ρ q Q 93 t (go t)) : sz_at S ρ q Q 93 0 (szb_93_0 q ret go) := sz_p2_ok (i := 0) (by decide +kernel) (sz_p1_ok (i := 1) (by decide +kernel) (sz_ca_ok (i := 2) (a := 151) (b := 2) (by decide +kernel) rfl rfl szp_151 rfl (fun _ _ h => szm_151k h) (sz_o4_ok (i := 3) (by decide +kernel) (sz_F1_ok (i := 4) (by decide +kernel) (by decide +kernel) (sz_p0_ok (i := 6) (by decide +kernel) (sz_p32_ok (i := 7) (by decide +kernel) (szb_93_11k hr hg) (szb_93_8k hr hg))))) (sz_t0_ok szp_93 rfl hr)))
noncomputable def szm_93 (q : Nat) (ret : sz_K) : sz_Q := szb_93_0 q ret sz_nog
theorem szm_93k (hr : sz_rt ρ Q ret) : sz_at S ρ q Q 93 0 (szm_93 q ret) := szb_93_0k hr sz_nog_ok
/-! KeyGroupsLaw.commit(LKeyGroups;IZ[J)I -/
theorem szp_18 : sxP 18 = some (5, 999, 1, [(0, 10, 9, 13), (0, 10, 12, 14)], sxc18) := rfl
noncomputable def szb_18_12 (q : Nat) (ret : sz_K) (go : Nat → sz_Q) : sz_Q := sz_o4 4 0 (sz_p0 2 0 (sz_o60 1 ret))
theorem szb_18_12k (hr : sz_rt ρ Q ret) (hg : ∀ t, sz_at S ρ q Q 18 t (go t)) : sz_at S ρ q Q 18 12 (szb_18_12 q ret go) := sz_o4_ok (i := 12) (by decide +kernel) (sz_p0_ok (i := 13) (by decide +kernel) (sz_o60_ok (i := 14) (a := 0) (b := 0) szp_18 rfl (by decide +kernel) hr))
noncomputable def szb_18_9 (q : Nat) (ret : sz_K) (go : Nat → sz_Q) : sz_Q := sz_o4 4 0 (sz_p0 1 0 (sz_o60 1 ret))
theorem szb_18_9k (hr : sz_rt ρ Q ret) (hg : ∀ t, sz_at S ρ q Q 18 t (go t)) : sz_at S ρ q Q 18 9 (szb_18_9 q ret go) := sz_o4_ok (i := 9) (by decide +kernel) (sz_p0_ok (i := 10) (by decide +kernel) (sz_o60_ok (i := 11) (a := 0) (b := 0) szp_18 rfl (by decide +kernel) hr))
noncomputable def szb_18_0 (q : Nat) (ret : sz_K) (go : Nat → sz_Q) : sz_Q := sz_p2 3 0 (sz_p0 0 0 (sz_p2 0 0 (sz_p1 1 0 (sz_p1 2 0 (sz_ca 56 3 0 (szm_93 q) sz_no (sz_t1 [(0, 10, 9, 13), (0, 10, 12, 14)] 5 (fun t => bif Nat.beq t 9 then (szb_18_9 q ret go) else bif Nat.beq t 12 then (szb_18_12 q ret go) else sz_no)))))))
theorem szb_18_0k (hr : sz_rt ρ Q ret) (hg : ∀ t, sz_at S ρ q Q 18 t (go t)) : sz_at S ρ q Q 18 0 (szb_18_0 q ret go) := sz_p2_ok (i := 0) (by decide +kernel) (sz_p0_ok (i := 1) (by decide +kernel) (sz_p2_ok (i := 2) (by decide +kernel) (sz_p1_ok (i := 3) (by decide +kernel) (sz_p1_ok (i := 4) (by decide +kernel) (sz_ca_ok (i := 5) (a := 93) (b := 3) (by decide +kernel) rfl rfl szp_93 rfl (fun _ _ h => szm_93k h) sz_no_ok (sz_t1_ok (i := 5) (M := (5, 999, 1, [(0, 10, 9, 13), (0, 10, 12, 14)], sxc18)) (en := (56, 93, 3, 5, 3, .invokevirtual 30)) szp_18 rfl rfl rfl (fun t => (sz_sel_ok (szb_18_9k hr hg) (sz_sel_ok (szb_18_12k hr hg) sz_no_ok)))))))))
noncomputable def szm_18 (q : Nat) (ret : sz_K) : sz_Q := szb_18_0 q ret sz_nog
theorem szm_18k (hr : sz_rt ρ Q ret) : sz_at S ρ q Q 18 0 (szm_18 q ret) := szb_18_0k hr sz_nog_ok
/-! KeyGroupsModel.commit(IZ)I -/
theorem szp_19 : sxP 19 = some (12, 1, 1, [], sxc19) := rfl
noncomputable def szb_19_26 (q : Nat) (ret : sz_K) (go : Nat → sz_Q) : sz_Q := sz_p0 0 0 (sz_o60 1 ret)
theorem szb_19_26k (hr : sz_rt ρ Q ret) (hg : ∀ t, sz_at S ρ q Q 19 t (go t)) : sz_at S ρ q Q 19 26 (szb_19_26 q ret go) := sz_p0_ok (i := 26) (by decide +kernel) (sz_o60_ok (i := 27) (a := 0) (b := 0) szp_19 rfl (by decide +kernel) hr)
noncomputable def szb_19_22 (q : Nat) (ret : sz_K) (go : Nat → sz_Q) : sz_Q := sz_o47 1 0 (sz_F1 0 1 0 (sz_p28 28 0 sz_no (szb_19_26 q ret go)))
theorem szb_19_22k (hr : sz_rt ρ Q ret) (hg : ∀ t, sz_at S ρ q Q 19 t (go t)) : sz_at S ρ q Q 19 22 (szb_19_22 q ret go) := sz_o47_ok (i := 22) (by decide +kernel) (sz_F1_ok (i := 23) (by decide +kernel) (by decide +kernel) (sz_p28_ok (i := 25) (by decide +kernel) sz_no_ok (szb_19_26k hr hg)))
noncomputable def szb_19_19 (q : Nat) (ret : sz_K) (go : Nat → sz_Q) : sz_Q := sz_p0 2 0 (szb_19_22 q ret go)
theorem szb_19_19k (hr : sz_rt ρ Q ret) (hg : ∀ t, sz_at S ρ q Q 19 t (go t)) : sz_at S ρ q Q 19 19 (szb_19_19 q ret go) := sz_p0_ok (i := 19) (by decide +kernel) (sz_o35_ok (i := 20) (a := 22) (b := 0) (by decide +kernel) (szb_19_22k hr hg))
noncomputable def szb_19_14 (q : Nat) (ret : sz_K) (go : Nat → sz_Q) : sz_Q := sz_F39 0 1 27 1 (sz_p24 21 0 sz_no (szb_19_19 q ret go))
theorem szb_19_14k (hr : sz_rt ρ Q ret) (hg : ∀ t, sz_at S ρ q Q 19 t (go t)) : sz_at S ρ q Q 19 14 (szb_19_14 q ret go) := sz_F39_ok (i := 14) (by decide +kernel) (by decide +kernel) (by decide +kernel) (by decide +kernel) (sz_p24_ok (i := 18) (by decide +kernel) sz_no_ok (szb_19_19k hr hg))
noncomputable def szb_19_10 (q : Nat) (ret : sz_K) (go : Nat → sz_Q) : sz_Q := sz_F1 0 1 22 (sz_p0 300 0 (sz_p29 19 0 (szb_19_19 q ret go) (szb_19_14 q ret go)))
theorem szb_19_10k (hr : sz_rt ρ Q ret) (hg : ∀ t, sz_at S ρ q Q 19 t (go t)) : sz_at S ρ q Q 19 10 (szb_19_10 q ret go) := sz_F1_ok (i := 10) (by decide +kernel) (by decide +kernel) (sz_p0_ok (i := 12) (by decide +kernel) (sz_p29_ok (i := 13) (by decide +kernel) (szb_19_19k hr hg) (szb_19_14k hr hg)))
noncomputable def szb_19_8 (q : Nat) (ret : sz_K) (go : Nat → sz_Q) : sz_Q := sz_p0 1 0 (szb_19_22 q ret go)
theorem szb_19_8k (hr : sz_rt ρ Q ret) (hg : ∀ t, sz_at S ρ q Q 19 t (go t)) : sz_at S ρ q Q 19 8 (szb_19_8 q ret go) := sz_p0_ok (i := 8) (by decide +kernel) (sz_o35_ok (i := 9) (a := 22) (b := 0) (by decide +kernel) (szb_19_22k hr hg))
noncomputable def szb_19_5 (q : Nat) (ret : sz_K) (go : Nat → sz_Q) : sz_Q := sz_p1 1 0 (sz_p0 24 0 (sz_p31 10 0 (szb_19_10 q ret go) (szb_19_8 q ret go)))
theorem szb_19_5k (hr : sz_rt ρ Q ret) (hg : ∀ t, sz_at S ρ q Q 19 t (go t)) : sz_at S ρ q Q 19 5 (szb_19_5 q ret go) := sz_p1_ok (i := 5) (by decide +kernel) (sz_p0_ok (i := 6) (by decide +kernel) (sz_p31_ok (i := 7) (by decide +kernel) (szb_19_10k hr hg) (szb_19_8k hr hg)))
noncomputable def szb_19_0 (q : Nat) (ret : sz_K) (go : Nat → sz_Q) : sz_Q := sz_p2 0 0 (sz_ca 56 1 1 (szi_83 q) (sz_p2 0 0 (sz_p1 1 0 (sz_p25 8 0 (szb_19_8 q ret go) (szb_19_5 q ret go)))) (sz_t0 ret))
theorem szb_19_0k (hr : sz_rt ρ Q ret) (hg : ∀ t, sz_at S ρ q Q 19 t (go t)) : sz_at S ρ q Q 19 0 (szb_19_0 q ret go) := sz_p2_ok (i := 0) (by decide +kernel) (sz_ca_ok (i := 1) (a := 83) (b := 1) (by decide +kernel) rfl rfl szp_83 rfl (fun _ _ h => szi_83k h) (sz_p2_ok (i := 2) (by decide +kernel) (sz_p1_ok (i := 3) (by decide +kernel) (sz_p25_ok (i := 4) (by decide +kernel) (szb_19_8k hr hg) (szb_19_5k hr hg)))) (sz_t0_ok szp_19 rfl hr))
noncomputable def szm_19 (q : Nat) (ret : sz_K) : sz_Q := szb_19_0 q ret sz_nog
theorem szm_19k (hr : sz_rt ρ Q ret) : sz_at S ρ q Q 19 0 (szm_19 q ret) := szb_19_0k hr sz_nog_ok
/-! KeyGroups.deliver(II)I -/
theorem szp_107 : sxP 107 = some (4, 0, 1, [], sxc107) := rfl
noncomputable def szb_107_8 (q : Nat) (ret : sz_K) (go : Nat → sz_Q) : sz_Q := sz_o62 13 ret
theorem szb_107_8k (hr : sz_rt ρ Q ret) (hg : ∀ t, sz_at S ρ q Q 107 t (go t)) : sz_at S ρ q Q 107 8 (szb_107_8 q ret go) := sz_o62_ok (i := 8) (a := 13) (b := 1) (by decide +kernel) hr
noncomputable def szb_107_0 (q : Nat) (ret : sz_K) (go : Nat → sz_Q) : sz_Q := sz_p2 0 0 (sz_p1 2 0 (sz_ca 56 2 0 (szm_151 q) (sz_o4 3 0 (sz_p2 0 0 (sz_p1 1 0 (sz_ca 56 2 0 (szm_62 q) (sz_p24 13 0 sz_no (szb_107_8 q ret go)) (sz_t0 ret))))) (sz_t0 ret)))
theorem szb_107_0k (hr : sz_rt ρ Q ret) (hg : ∀ t, sz_at S ρ q Q 107 t (go t)) : sz_at S ρ q Q 107 0 (szb_107_0 q ret go) := sz_p2_ok (i := 0) (by decide +kernel) (sz_p1_ok (i := 1) (by decide +kernel) (sz_ca_ok (i := 2) (a := 151) (b := 2) (by decide +kernel) rfl rfl szp_151 rfl (fun _ _ h => szm_151k h) (sz_o4_ok (i := 3) (by decide +kernel) (sz_p2_ok (i := 4) (by decide +kernel) (sz_p1_ok (i := 5) (by decide +kernel) (sz_ca_ok (i := 6) (a := 62) (b := 2) (by decide +kernel) rfl rfl szp_62 rfl (fun _ _ h => szm_62k h) (sz_p24_ok (i := 7) (by decide +kernel) sz_no_ok (szb_107_8k hr hg)) (sz_t0_ok szp_107 rfl hr))))) (sz_t0_ok szp_107 rfl hr)))
noncomputable def szm_107 (q : Nat) (ret : sz_K) : sz_Q := szb_107_0 q ret sz_nog
theorem szm_107k (hr : sz_rt ρ Q ret) : sz_at S ρ q Q 107 0 (szm_107 q ret) := szb_107_0k hr sz_nog_ok
/-! KeyGroupsLaw.deliver(LKeyGroups;II[J)I -/
theorem szp_20 : sxP 20 = some (5, 999, 1, [(0, 10, 9, 13)], sxc20) := rfl
noncomputable def szb_20_9 (q : Nat) (ret : sz_K) (go : Nat → sz_Q) : sz_Q := sz_o4 4 0 (sz_p0 1 0 (sz_o60 1 ret))
theorem szb_20_9k (hr : sz_rt ρ Q ret) (hg : ∀ t, sz_at S ρ q Q 20 t (go t)) : sz_at S ρ q Q 20 9 (szb_20_9 q ret go) := sz_o4_ok (i := 9) (by decide +kernel) (sz_p0_ok (i := 10) (by decide +kernel) (sz_o60_ok (i := 11) (a := 0) (b := 0) szp_20 rfl (by decide +kernel) hr))
noncomputable def szb_20_0 (q : Nat) (ret : sz_K) (go : Nat → sz_Q) : sz_Q := sz_p2 3 0 (sz_p0 0 0 (sz_p2 0 0 (sz_p1 1 0 (sz_p1 2 0 (sz_ca 56 3 0 (szm_107 q) sz_no (sz_t1 [(0, 10, 9, 13)] 5 (fun t => bif Nat.beq t 9 then (szb_20_9 q ret go) else sz_no)))))))
theorem szb_20_0k (hr : sz_rt ρ Q ret) (hg : ∀ t, sz_at S ρ q Q 20 t (go t)) : sz_at S ρ q Q 20 0 (szb_20_0 q ret go) := sz_p2_ok (i := 0) (by decide +kernel) (sz_p0_ok (i := 1) (by decide +kernel) (sz_p2_ok (i := 2) (by decide +kernel) (sz_p1_ok (i := 3) (by decide +kernel) (sz_p1_ok (i := 4) (by decide +kernel) (sz_ca_ok (i := 5) (a := 107) (b := 3) (by decide +kernel) rfl rfl szp_107 rfl (fun _ _ h => szm_107k h) sz_no_ok (sz_t1_ok (i := 5) (M := (5, 999, 1, [(0, 10, 9, 13)], sxc20)) (en := (56, 107, 3, 5, 3, .invokevirtual 34)) szp_20 rfl rfl rfl (fun t => (sz_sel_ok (szb_20_9k hr hg) sz_no_ok))))))))
noncomputable def szm_20 (q : Nat) (ret : sz_K) : sz_Q := szb_20_0 q ret sz_nog
theorem szm_20k (hr : sz_rt ρ Q ret) : sz_at S ρ q Q 20 0 (szm_20 q ret) := szb_20_0k hr sz_nog_ok
/-! KeyGroupsModel.deliver(II)I -/
theorem szp_21 : sxP 21 = some (4, 1, 1, [], sxc21) := rfl
noncomputable def szb_21_19 (q : Nat) (ret : sz_K) (go : Nat → sz_Q) : sz_Q := sz_p0 0 0 (sz_o60 1 ret)
theorem szb_21_19k (hr : sz_rt ρ Q ret) (hg : ∀ t, sz_at S ρ q Q 21 t (go t)) : sz_at S ρ q Q 21 19 (szb_21_19 q ret go) := sz_p0_ok (i := 19) (by decide +kernel) (sz_o60_ok (i := 20) (a := 0) (b := 0) szp_21 rfl (by decide +kernel) hr)
noncomputable def szb_21_15 (q : Nat) (ret : sz_K) (go : Nat → sz_Q) : sz_Q := sz_o47 1 0 (sz_F1 0 1 0 (sz_p28 21 0 sz_no (szb_21_19 q ret go)))
theorem szb_21_15k (hr : sz_rt ρ Q ret) (hg : ∀ t, sz_at S ρ q Q 21 t (go t)) : sz_at S ρ q Q 21 15 (szb_21_15 q ret go) := sz_o47_ok (i := 15) (by decide +kernel) (sz_F1_ok (i := 16) (by decide +kernel) (by decide +kernel) (sz_p28_ok (i := 18) (by decide +kernel) sz_no_ok (szb_21_19k hr hg)))
noncomputable def szb_21_12 (q : Nat) (ret : sz_K) (go : Nat → sz_Q) : sz_Q := sz_p0 1 0 (szb_21_15 q ret go)
theorem szb_21_12k (hr : sz_rt ρ Q ret) (hg : ∀ t, sz_at S ρ q Q 21 t (go t)) : sz_at S ρ q Q 21 12 (szb_21_12 q ret go) := sz_p0_ok (i := 12) (by decide +kernel) (sz_o35_ok (i := 13) (a := 15) (b := 0) (by decide +kernel) (szb_21_15k hr hg))
noncomputable def szb_21_3 (q : Nat) (ret : sz_K) (go : Nat → sz_Q) : sz_Q := sz_p1 1 0 (sz_F1 0 1 22 (sz_p32 12 0 (szb_21_12 q ret go) sz_no))
theorem szb_21_3k (hr : sz_rt ρ Q ret) (hg : ∀ t, sz_at S ρ q Q 21 t (go t)) : sz_at S ρ q Q 21 3 (szb_21_3 q ret go) := sz_p1_ok (i := 3) (by decide +kernel) (sz_F1_ok (i := 4) (by decide +kernel) (by decide +kernel) (sz_p32_ok (i := 6) (by decide +kernel) (szb_21_12k hr hg) sz_no_ok))
noncomputable def szb_21_0 (q : Nat) (ret : sz_K) (go : Nat → sz_Q) : sz_Q := sz_p2 0 0 (sz_p1 1 0 (sz_p25 12 0 (szb_21_12 q ret go) (szb_21_3 q ret go)))
theorem szb_21_0k (hr : sz_rt ρ Q ret) (hg : ∀ t, sz_at S ρ q Q 21 t (go t)) : sz_at S ρ q Q 21 0 (szb_21_0 q ret go) := sz_p2_ok (i := 0) (by decide +kernel) (sz_p1_ok (i := 1) (by decide +kernel) (sz_p25_ok (i := 2) (by decide +kernel) (szb_21_12k hr hg) (szb_21_3k hr hg)))
noncomputable def szm_21 (q : Nat) (ret : sz_K) : sz_Q := szb_21_0 q ret sz_nog
theorem szm_21k (hr : sz_rt ρ Q ret) : sz_at S ρ q Q 21 0 (szm_21 q ret) := szb_21_0k hr sz_nog_ok
/-! KeyGroups.post()I -/
theorem szp_112 : sxP 112 = some (2, 0, 1, [], sxc112) := rfl
noncomputable def szb_112_9 (q : Nat) (ret : sz_K) (go : Nat → sz_Q) : sz_Q := sz_p2 0 0 (sz_F1 0 0 5 (sz_ca 56 2 0 (szm_240 q) (sz_o3 1 0 (sz_F1 0 0 5 (sz_ca 56 1 9 (szm_160 q) (sz_p1 1 0 (sz_o60 1 ret)) (sz_t0 ret)))) (sz_t0 ret)))
theorem szb_112_9k (hr : sz_rt ρ Q ret) (hg : ∀ t, sz_at S ρ q Q 112 t (go t)) : sz_at S ρ q Q 112 9 (szb_112_9 q ret go) := sz_p2_ok (i := 9) (by decide +kernel) (sz_F1_ok (i := 10) (by decide +kernel) (by decide +kernel) (sz_ca_ok (i := 12) (a := 240) (b := 2) (by decide +kernel) rfl rfl szp_240 rfl (fun _ _ h => szm_240k h) (sz_o3_ok (i := 13) (by decide +kernel) (sz_F1_ok (i := 14) (by decide +kernel) (by decide +kernel) (sz_ca_ok (i := 16) (a := 160) (b := 1) (by decide +kernel) rfl rfl szp_160 rfl (fun _ _ h => szm_160k h) (sz_p1_ok (i := 17) (by decide +kernel) (sz_o60_ok (i := 18) (a := 0) (b := 0) szp_112 rfl (by decide +kernel) hr)) (sz_t0_ok szp_112 rfl hr)))) (sz_t0_ok szp_112 rfl hr)))
noncomputable def szb_112_0 (q : Nat) (ret : sz_K) (go : Nat → sz_Q) : sz_Q := sz_F1 0 0 4 (sz_p0 300 0 (sz_p31 9 0 (szb_112_9 q ret go) sz_no))
theorem szb_112_0k (hr : sz_rt ρ Q ret) (hg : ∀ t, sz_at S ρ q Q 112 t (go t)) : sz_at S ρ q Q 112 0 (szb_112_0 q ret go) := sz_F1_ok (i := 0) (by decide +kernel) (by decide +kernel) (sz_p0_ok (i := 2) (by decide +kernel) (sz_p31_ok (i := 3) (by decide +kernel) (szb_112_9k hr hg) sz_no_ok))
noncomputable def szm_112 (q : Nat) (ret : sz_K) : sz_Q := szb_112_0 q ret sz_nog
theorem szm_112k (hr : sz_rt ρ Q ret) : sz_at S ρ q Q 112 0 (szm_112 q ret) := szb_112_0k hr sz_nog_ok
/-! KeyGroupsLaw.post(LKeyGroups;[J)I -/
theorem szp_22 : sxP 22 = some (3, 999, 1, [(0, 8, 7, 14)], sxc22) := rfl
noncomputable def szb_22_10 (q : Nat) (ret : sz_K) (go : Nat → sz_Q) : sz_Q := sz_p0 0 0 (sz_o60 1 ret)
theorem szb_22_10k (hr : sz_rt ρ Q ret) (hg : ∀ t, sz_at S ρ q Q 22 t (go t)) : sz_at S ρ q Q 22 10 (szb_22_10 q ret go) := sz_p0_ok (i := 10) (by decide +kernel) (sz_o60_ok (i := 11) (a := 0) (b := 0) szp_22 rfl (by decide +kernel) hr)
noncomputable def szb_22_0 (q : Nat) (ret : sz_K) (go : Nat → sz_Q) : sz_Q := sz_p2 1 0 (sz_p0 0 0 (sz_p2 0 0 (sz_ca 56 1 0 (szm_112 q) (sz_o20 0 0 (sz_o44 0 0 (szb_22_10 q ret go))) (sz_t1 [(0, 8, 7, 14)] 3 (fun t => sz_no)))))
theorem szb_22_0k (hr : sz_rt ρ Q ret) (hg : ∀ t, sz_at S ρ q Q 22 t (go t)) : sz_at S ρ q Q 22 0 (szb_22_0 q ret go) := sz_p2_ok (i := 0) (by decide +kernel) (sz_p0_ok (i := 1) (by decide +kernel) (sz_p2_ok (i := 2) (by decide +kernel) (sz_ca_ok (i := 3) (a := 112) (b := 1) (by decide +kernel) rfl rfl szp_112 rfl (fun _ _ h => szm_112k h) (sz_o20_ok (i := 4) (by decide +kernel) (sz_o44_ok (i := 5) (by decide +kernel) (sz_o35_ok (i := 6) (a := 10) (b := 0) (by decide +kernel) (szb_22_10k hr hg)))) (sz_t1_ok (i := 3) (M := (3, 999, 1, [(0, 8, 7, 14)], sxc22)) (en := (56, 112, 1, 3, 3, .invokevirtual 38)) szp_22 rfl rfl rfl (fun t => sz_no_ok)))))
noncomputable def szm_22 (q : Nat) (ret : sz_K) : sz_Q := szb_22_0 q ret sz_nog
theorem szm_22k (hr : sz_rt ρ Q ret) : sz_at S ρ q Q 22 0 (szm_22 q ret) := szb_22_0k hr sz_nog_ok
/-! KeyGroupsModel.take()I -/
theorem szp_113 : sxP 113 = some (2, 1, 1, [], sxc113) := rfl
noncomputable def szb_113_19 (q : Nat) (ret : sz_K) (go : Nat → sz_Q) : sz_Q := sz_p2 0 0 (sz_F1 0 1 3 (sz_o47 1 56 (sz_p2 0 0 (sz_p0 0 0 (sz_o47 1 3 (sz_F1 0 1 56 (sz_o60 1 ret)))))))
theorem szb_113_19k (hr : sz_rt ρ Q ret) (hg : ∀ t, sz_at S ρ q Q 113 t (go t)) : sz_at S ρ q Q 113 19 (szb_113_19 q ret go) := sz_p2_ok (i := 19) (by decide +kernel) (sz_F1_ok (i := 20) (by decide +kernel) (by decide +kernel) (sz_o47_ok (i := 22) (by decide +kernel) (sz_p2_ok (i := 23) (by decide +kernel) (sz_p0_ok (i := 24) (by decide +kernel) (sz_o47_ok (i := 25) (by decide +kernel) (sz_F1_ok (i := 26) (by decide +kernel) (by decide +kernel) (sz_o60_ok (i := 28) (a := 0) (b := 0) szp_113 rfl (by decide +kernel) hr)))))))
noncomputable def szb_113_0 (q : Nat) (ret : sz_K) (go : Nat → sz_Q) : sz_Q := sz_p2 0 0 (sz_p0 0 0 (sz_o47 1 56 (sz_p0 0 0 (sz_o3 1 0 (sz_p1 1 0 (sz_F1 0 1 3 (sz_p32 19 0 (szb_113_19 q ret go) sz_no)))))))
theorem szb_113_0k (hr : sz_rt ρ Q ret) (hg : ∀ t, sz_at S ρ q Q 113 t (go t)) : sz_at S ρ q Q 113 0 (szb_113_0 q ret go) := sz_p2_ok (i := 0) (by decide +kernel) (sz_p0_ok (i := 1) (by decide +kernel) (sz_o47_ok (i := 2) (by decide +kernel) (sz_p0_ok (i := 3) (by decide +kernel) (sz_o3_ok (i := 4) (by decide +kernel) (sz_p1_ok (i := 5) (by decide +kernel) (sz_F1_ok (i := 6) (by decide +kernel) (by decide +kernel) (sz_p32_ok (i := 8) (by decide +kernel) (szb_113_19k hr hg) sz_no_ok)))))))
noncomputable def szm_113 (q : Nat) (ret : sz_K) : sz_Q := szb_113_0 q ret sz_nog
theorem szm_113k (hr : sz_rt ρ Q ret) : sz_at S ρ q Q 113 0 (szm_113 q ret) := szb_113_0k hr sz_nog_ok
/-! KeyGroupsModel.post()I -/
theorem szp_23 : sxP 23 = some (1, 1, 1, [], sxc23) := rfl
noncomputable def szb_23_14 (q : Nat) (ret : sz_K) (go : Nat → sz_Q) : sz_Q := sz_p2 0 0 (sz_ca 56 1 1 (szm_113 q) (sz_o6 0 0 (sz_p2 0 0 (sz_F1 0 1 23 (sz_o47 1 110 (sz_p2 0 0 (sz_ca 56 1 1 (szm_78 q) (sz_p2 0 0 (sz_p0 0 0 (sz_ca 56 2 1 (szm_81 q) (sz_o60 1 ret) (sz_t0 ret)))) (sz_t0 ret))))))) (sz_t0 ret))
theorem szb_23_14k (hr : sz_rt ρ Q ret) (hg : ∀ t, sz_at S ρ q Q 23 t (go t)) : sz_at S ρ q Q 23 14 (szb_23_14 q ret go) := sz_p2_ok (i := 14) (by decide +kernel) (sz_ca_ok (i := 15) (a := 113) (b := 1) (by decide +kernel) rfl rfl szp_113 rfl (fun _ _ h => szm_113k h) (sz_o6_ok (i := 16) (by decide +kernel) (sz_p2_ok (i := 17) (by decide +kernel) (sz_F1_ok (i := 18) (by decide +kernel) (by decide +kernel) (sz_o47_ok (i := 20) (by decide +kernel) (sz_p2_ok (i := 21) (by decide +kernel) (sz_ca_ok (i := 22) (a := 78) (b := 1) (by decide +kernel) rfl rfl szp_78 rfl (fun _ _ h => szm_78k h) (sz_p2_ok (i := 23) (by decide +kernel) (sz_p0_ok (i := 24) (by decide +kernel) (sz_ca_ok (i := 25) (a := 81) (b := 2) (by decide +kernel) rfl rfl szp_81 rfl (fun _ _ h => szm_81k h) (sz_o60_ok (i := 26) (a := 0) (b := 0) szp_23 rfl (by decide +kernel) hr) (sz_t0_ok szp_23 rfl hr)))) (sz_t0_ok szp_23 rfl hr))))))) (sz_t0_ok szp_23 rfl hr))
noncomputable def szb_23_7 (q : Nat) (ret : sz_K) (go : Nat → sz_Q) : sz_Q := sz_p0 0 0 (sz_o47 1 0 (sz_F1 0 1 0 (sz_p28 14 0 (szb_23_14 q ret go) sz_no)))
theorem szb_23_7k (hr : sz_rt ρ Q ret) (hg : ∀ t, sz_at S ρ q Q 23 t (go t)) : sz_at S ρ q Q 23 7 (szb_23_7 q ret go) := sz_p0_ok (i := 7) (by decide +kernel) (sz_o47_ok (i := 8) (by decide +kernel) (sz_F1_ok (i := 9) (by decide +kernel) (by decide +kernel) (sz_p28_ok (i := 11) (by decide +kernel) (szb_23_14k hr hg) sz_no_ok)))
noncomputable def szb_23_0 (q : Nat) (ret : sz_K) (go : Nat → sz_Q) : sz_Q := sz_p2 0 0 (sz_F1 0 1 22 (sz_p0 300 0 (sz_p30 7 0 (szb_23_7 q ret go) sz_no)))
theorem szb_23_0k (hr : sz_rt ρ Q ret) (hg : ∀ t, sz_at S ρ q Q 23 t (go t)) : sz_at S ρ q Q 23 0 (szb_23_0 q ret go) := sz_p2_ok (i := 0) (by decide +kernel) (sz_F1_ok (i := 1) (by decide +kernel) (by decide +kernel) (sz_p0_ok (i := 3) (by decide +kernel) (sz_p30_ok (i := 4) (by decide +kernel) (szb_23_7k hr hg) sz_no_ok)))
noncomputable def szm_23 (q : Nat) (ret : sz_K) : sz_Q := szb_23_0 q ret sz_nog
theorem szm_23k (hr : sz_rt ρ Q ret) : sz_at S ρ q Q 23 0 (szm_23 q ret) := szb_23_0k hr sz_nog_ok
/-! KeyGroups$Terms.knows(I)Z -/
theorem szp_120 : sxP 120 = some (2, 11, 2, [], sxc120) := rfl
noncomputable def szb_120_12 (q : Nat) (ret : sz_K) (go : Nat → sz_Q) : sz_Q := sz_o60 2 ret
theorem szb_120_12k (hr : sz_rt ρ Q ret) (hg : ∀ t, sz_at S ρ q Q 120 t (go t)) : sz_at S ρ q Q 120 12 (szb_120_12 q ret go) := sz_o60_ok (i := 12) (a := 0) (b := 0) szp_120 rfl (by decide +kernel) hr
noncomputable def szb_120_11 (q : Nat) (ret : sz_K) (go : Nat → sz_Q) : sz_Q := sz_p0 0 0 (szb_120_12 q ret go)
theorem szb_120_11k (hr : sz_rt ρ Q ret) (hg : ∀ t, sz_at S ρ q Q 120 t (go t)) : sz_at S ρ q Q 120 11 (szb_120_11 q ret go) := sz_p0_ok (i := 11) (by decide +kernel) (szb_120_12k hr hg)
noncomputable def szb_120_9 (q : Nat) (ret : sz_K) (go : Nat → sz_Q) : sz_Q := sz_p0 1 0 (szb_120_12 q ret go)
theorem szb_120_9k (hr : sz_rt ρ Q ret) (hg : ∀ t, sz_at S ρ q Q 120 t (go t)) : sz_at S ρ q Q 120 9 (szb_120_9 q ret go) := sz_p0_ok (i := 9) (by decide +kernel) (sz_o35_ok (i := 10) (a := 12) (b := 0) (by decide +kernel) (szb_120_12k hr hg))
noncomputable def szb_120_0 (q : Nat) (ret : sz_K) (go : Nat → sz_Q) : sz_Q := sz_F1 0 11 1 (sz_p1 1 0 (sz_p0 14 0 (sz_p11 0 0 (sz_p0 9 0 (sz_p9 0 0 (sz_p38 q 0 0 (sz_p23 11 0 (szb_120_11 q ret go) (szb_120_9 q ret go))))))))
theorem szb_120_0k (hr : sz_rt ρ Q ret) (hg : ∀ t, sz_at S ρ q Q 120 t (go t)) : sz_at S ρ q Q 120 0 (szb_120_0 q ret go) := sz_F1_ok (i := 0) (by decide +kernel) (by decide +kernel) (sz_p1_ok (i := 2) (by decide +kernel) (sz_p0_ok (i := 3) (by decide +kernel) (sz_p11_ok (i := 4) (by decide +kernel) (sz_p0_ok (i := 5) (by decide +kernel) (sz_p9_ok (i := 6) (by decide +kernel) (sz_p38_ok (i := 7) (by decide +kernel) (sz_p23_ok (i := 8) (by decide +kernel) (szb_120_11k hr hg) (szb_120_9k hr hg))))))))
noncomputable def szm_120 (q : Nat) (ret : sz_K) : sz_Q := szb_120_0 q ret sz_nog
theorem szm_120k (hr : sz_rt ρ Q ret) : sz_at S ρ q Q 120 0 (szm_120 q ret) := szb_120_0k hr sz_nog_ok
/-! KeyGroups.isKnownNumber(I)Z -/
theorem szp_333 : sxP 333 = some (2, 0, 2, [], sxc333) := rfl
noncomputable def szb_333_0 (q : Nat) (ret : sz_K) (go : Nat → sz_Q) : sz_Q := sz_F1 0 0 0 (sz_F1 0 0 0 (sz_p1 1 0 (sz_ca 56 2 11 (szm_119 q) (sz_ca 56 2 11 (szm_120 q) (sz_o60 2 ret) (sz_t0 ret)) (sz_t0 ret))))
theorem szb_333_0k (hr : sz_rt ρ Q ret) (hg : ∀ t, sz_at S ρ q Q 333 t (go t)) : sz_at S ρ q Q 333 0 (szb_333_0 q ret go) := sz_F1_ok (i := 0) (by decide +kernel) (by decide +kernel) (sz_F1_ok (i := 2) (by decide +kernel) (by decide +kernel) (sz_p1_ok (i := 4) (by decide +kernel) (sz_ca_ok (i := 5) (a := 119) (b := 2) (by decide +kernel) rfl rfl szp_119 rfl (fun _ _ h => szm_119k h) (sz_ca_ok (i := 6) (a := 120) (b := 2) (by decide +kernel) rfl rfl szp_120 rfl (fun _ _ h => szm_120k h) (sz_o60_ok (i := 7) (a := 0) (b := 0) szp_333 rfl (by decide +kernel) hr) (sz_t0_ok szp_333 rfl hr)) (sz_t0_ok szp_333 rfl hr))))
noncomputable def szm_333 (q : Nat) (ret : sz_K) : sz_Q := szb_333_0 q ret sz_nog
theorem szm_333k (hr : sz_rt ρ Q ret) : sz_at S ρ q Q 333 0 (szm_333 q ret) := szb_333_0k hr sz_nog_ok
/-! KeyGroups.isMakeable(III)Z -/
theorem szp_241 : sxP 241 = some (4, 0, 2, [], sxc241) := rfl
noncomputable def szb_241_41 (q : Nat) (ret : sz_K) (go : Nat → sz_Q) : sz_Q := sz_o60 2 ret
theorem szb_241_41k (hr : sz_rt ρ Q ret) (hg : ∀ t, sz_at S ρ q Q 241 t (go t)) : sz_at S ρ q Q 241 41 (szb_241_41 q ret go) := sz_o60_ok (i := 41) (a := 0) (b := 0) szp_241 rfl (by decide +kernel) hr
noncomputable def szb_241_40 (q : Nat) (ret : sz_K) (go : Nat → sz_Q) : sz_Q := sz_p0 0 0 (szb_241_41 q ret go)
theorem szb_241_40k (hr : sz_rt ρ Q ret) (hg : ∀ t, sz_at S ρ q Q 241 t (go t)) : sz_at S ρ q Q 241 40 (szb_241_40 q ret go) := sz_p0_ok (i := 40) (by decide +kernel) (szb_241_41k hr hg)
noncomputable def szb_241_38 (q : Nat) (ret : sz_K) (go : Nat → sz_Q) : sz_Q := sz_p0 1 0 (szb_241_41 q ret go)
theorem szb_241_38k (hr : sz_rt ρ Q ret) (hg : ∀ t, sz_at S ρ q Q 241 t (go t)) : sz_at S ρ q Q 241 38 (szb_241_38 q ret go) := sz_p0_ok (i := 38) (by decide +kernel) (sz_o35_ok (i := 39) (a := 41) (b := 0) (by decide +kernel) (szb_241_41k hr hg))
noncomputable def szb_241_35 (q : Nat) (ret : sz_K) (go : Nat → sz_Q) : sz_Q := sz_p1 3 0 (sz_p0 9 0 (sz_p33 40 0 (szb_241_40 q ret go) (szb_241_38 q ret go)))
theorem szb_241_35k (hr : sz_rt ρ Q ret) (hg : ∀ t, sz_at S ρ q Q 241 t (go t)) : sz_at S ρ q Q 241 35 (szb_241_35 q ret go) := sz_p1_ok (i := 35) (by decide +kernel) (sz_p0_ok (i := 36) (by decide +kernel) (sz_p33_ok (i := 37) (by decide +kernel) (szb_241_40k hr hg) (szb_241_38k hr hg)))
noncomputable def szb_241_33 (q : Nat) (ret : sz_K) (go : Nat → sz_Q) : sz_Q := sz_p1 3 0 (sz_p25 40 0 (szb_241_40 q ret go) (szb_241_35 q ret go))
theorem szb_241_33k (hr : sz_rt ρ Q ret) (hg : ∀ t, sz_at S ρ q Q 241 t (go t)) : sz_at S ρ q Q 241 33 (szb_241_33 q ret go) := sz_p1_ok (i := 33) (by decide +kernel) (sz_p25_ok (i := 34) (by decide +kernel) (szb_241_40k hr hg) (szb_241_35k hr hg))
noncomputable def szb_241_30 (q : Nat) (ret : sz_K) (go : Nat → sz_Q) : sz_Q := sz_p1 1 0 (sz_p0 3 0 (sz_p30 38 0 (szb_241_38 q ret go) (szb_241_33 q ret go)))
theorem szb_241_30k (hr : sz_rt ρ Q ret) (hg : ∀ t, sz_at S ρ q Q 241 t (go t)) : sz_at S ρ q Q 241 30 (szb_241_30 q ret go) := sz_p1_ok (i := 30) (by decide +kernel) (sz_p0_ok (i := 31) (by decide +kernel) (sz_p30_ok (i := 32) (by decide +kernel) (szb_241_38k hr hg) (szb_241_33k hr hg)))
noncomputable def szb_241_28 (q : Nat) (ret : sz_K) (go : Nat → sz_Q) : sz_Q := sz_p0 0 0 (sz_o60 2 ret)
theorem szb_241_28k (hr : sz_rt ρ Q ret) (hg : ∀ t, sz_at S ρ q Q 241 t (go t)) : sz_at S ρ q Q 241 28 (szb_241_28 q ret go) := sz_p0_ok (i := 28) (by decide +kernel) (sz_o60_ok (i := 29) (a := 0) (b := 0) szp_241 rfl (by decide +kernel) hr)
noncomputable def szb_241_24 (q : Nat) (ret : sz_K) (go : Nat → sz_Q) : sz_Q := sz_p2 0 0 (sz_p1 3 0 (sz_ca 56 2 0 (szm_333 q) (sz_p24 30 0 (szb_241_30 q ret go) (szb_241_28 q ret go)) (sz_t0 ret)))
theorem szb_241_24k (hr : sz_rt ρ Q ret) (hg : ∀ t, sz_at S ρ q Q 241 t (go t)) : sz_at S ρ q Q 241 24 (szb_241_24 q ret go) := sz_p2_ok (i := 24) (by decide +kernel) (sz_p1_ok (i := 25) (by decide +kernel) (sz_ca_ok (i := 26) (a := 333) (b := 2) (by decide +kernel) rfl rfl szp_333 rfl (fun _ _ h => szm_333k h) (sz_p24_ok (i := 27) (by decide +kernel) (szb_241_30k hr hg) (szb_241_28k hr hg)) (sz_t0_ok szp_241 rfl hr)))
noncomputable def szb_241_21 (q : Nat) (ret : sz_K) (go : Nat → sz_Q) : sz_Q := sz_p1 1 0 (sz_p0 6 0 (sz_p30 30 0 (szb_241_30 q ret go) (szb_241_24 q ret go)))
theorem szb_241_21k (hr : sz_rt ρ Q ret) (hg : ∀ t, sz_at S ρ q Q 241 t (go t)) : sz_at S ρ q Q 241 21 (szb_241_21 q ret go) := sz_p1_ok (i := 21) (by decide +kernel) (sz_p0_ok (i := 22) (by decide +kernel) (sz_p30_ok (i := 23) (by decide +kernel) (szb_241_30k hr hg) (szb_241_24k hr hg)))
noncomputable def szb_241_18 (q : Nat) (ret : sz_K) (go : Nat → sz_Q) : sz_Q := sz_p1 1 0 (sz_p0 4 0 (sz_p29 24 0 (szb_241_24 q ret go) (szb_241_21 q ret go)))
theorem szb_241_18k (hr : sz_rt ρ Q ret) (hg : ∀ t, sz_at S ρ q Q 241 t (go t)) : sz_at S ρ q Q 241 18 (szb_241_18 q ret go) := sz_p1_ok (i := 18) (by decide +kernel) (sz_p0_ok (i := 19) (by decide +kernel) (sz_p29_ok (i := 20) (by decide +kernel) (szb_241_24k hr hg) (szb_241_21k hr hg)))
noncomputable def szb_241_16 (q : Nat) (ret : sz_K) (go : Nat → sz_Q) : sz_Q := sz_p0 0 0 (sz_o60 2 ret)
theorem szb_241_16k (hr : sz_rt ρ Q ret) (hg : ∀ t, sz_at S ρ q Q 241 t (go t)) : sz_at S ρ q Q 241 16 (szb_241_16 q ret go) := sz_p0_ok (i := 16) (by decide +kernel) (sz_o60_ok (i := 17) (a := 0) (b := 0) szp_241 rfl (by decide +kernel) hr)
noncomputable def szb_241_12 (q : Nat) (ret : sz_K) (go : Nat → sz_Q) : sz_Q := sz_p2 0 0 (sz_p1 2 0 (sz_ca 56 2 0 (szm_333 q) (sz_p24 18 0 (szb_241_18 q ret go) (szb_241_16 q ret go)) (sz_t0 ret)))
theorem szb_241_12k (hr : sz_rt ρ Q ret) (hg : ∀ t, sz_at S ρ q Q 241 t (go t)) : sz_at S ρ q Q 241 12 (szb_241_12 q ret go) := sz_p2_ok (i := 12) (by decide +kernel) (sz_p1_ok (i := 13) (by decide +kernel) (sz_ca_ok (i := 14) (a := 333) (b := 2) (by decide +kernel) rfl rfl szp_333 rfl (fun _ _ h => szm_333k h) (sz_p24_ok (i := 15) (by decide +kernel) (szb_241_18k hr hg) (szb_241_16k hr hg)) (sz_t0_ok szp_241 rfl hr)))
noncomputable def szb_241_9 (q : Nat) (ret : sz_K) (go : Nat → sz_Q) : sz_Q := sz_p1 1 0 (sz_p0 1 0 (sz_p29 18 0 (szb_241_18 q ret go) (szb_241_12 q ret go)))
theorem szb_241_9k (hr : sz_rt ρ Q ret) (hg : ∀ t, sz_at S ρ q Q 241 t (go t)) : sz_at S ρ q Q 241 9 (szb_241_9 q ret go) := sz_p1_ok (i := 9) (by decide +kernel) (sz_p0_ok (i := 10) (by decide +kernel) (sz_p29_ok (i := 11) (by decide +kernel) (szb_241_18k hr hg) (szb_241_12k hr hg)))
noncomputable def szb_241_7 (q : Nat) (ret : sz_K) (go : Nat → sz_Q) : sz_Q := sz_p1 1 0 (sz_p23 18 0 (szb_241_18 q ret go) (szb_241_9 q ret go))
theorem szb_241_7k (hr : sz_rt ρ Q ret) (hg : ∀ t, sz_at S ρ q Q 241 t (go t)) : sz_at S ρ q Q 241 7 (szb_241_7 q ret go) := sz_p1_ok (i := 7) (by decide +kernel) (sz_p23_ok (i := 8) (by decide +kernel) (szb_241_18k hr hg) (szb_241_9k hr hg))
noncomputable def szb_241_5 (q : Nat) (ret : sz_K) (go : Nat → sz_Q) : sz_Q := sz_p0 0 0 (sz_o60 2 ret)
theorem szb_241_5k (hr : sz_rt ρ Q ret) (hg : ∀ t, sz_at S ρ q Q 241 t (go t)) : sz_at S ρ q Q 241 5 (szb_241_5 q ret go) := sz_p0_ok (i := 5) (by decide +kernel) (sz_o60_ok (i := 6) (a := 0) (b := 0) szp_241 rfl (by decide +kernel) hr)
noncomputable def szb_241_2 (q : Nat) (ret : sz_K) (go : Nat → sz_Q) : sz_Q := sz_p1 1 0 (sz_p0 7 0 (sz_p34 7 0 (szb_241_7 q ret go) (szb_241_5 q ret go)))
theorem szb_241_2k (hr : sz_rt ρ Q ret) (hg : ∀ t, sz_at S ρ q Q 241 t (go t)) : sz_at S ρ q Q 241 2 (szb_241_2 q ret go) := sz_p1_ok (i := 2) (by decide +kernel) (sz_p0_ok (i := 3) (by decide +kernel) (sz_p34_ok (i := 4) (by decide +kernel) (szb_241_7k hr hg) (szb_241_5k hr hg)))
noncomputable def szb_241_0 (q : Nat) (ret : sz_K) (go : Nat → sz_Q) : sz_Q := sz_p1 1 0 (sz_p25 5 0 (szb_241_5 q ret go) (szb_241_2 q ret go))
theorem szb_241_0k (hr : sz_rt ρ Q ret) (hg : ∀ t, sz_at S ρ q Q 241 t (go t)) : sz_at S ρ q Q 241 0 (szb_241_0 q ret go) := sz_p1_ok (i := 0) (by decide +kernel) (sz_p25_ok (i := 1) (by decide +kernel) (szb_241_5k hr hg) (szb_241_2k hr hg))
noncomputable def szm_241 (q : Nat) (ret : sz_K) : sz_Q := szb_241_0 q ret sz_nog
theorem szm_241k (hr : sz_rt ρ Q ret) : sz_at S ρ q Q 241 0 (szm_241 q ret) := szb_241_0k hr sz_nog_ok
/-! KeyGroups.makeTerm(III)I -/
theorem szp_242 : sxP 242 = some (4, 0, 1, [], sxc242) := rfl
noncomputable def szb_242_51 (q : Nat) (ret : sz_K) (go : Nat → sz_Q) : sz_Q := sz_F1 0 0 0 (sz_p1 1 0 (sz_p1 2 0 (sz_p0 0 0 (sz_p0 0 0 (sz_F1 0 0 5 (sz_ca 56 6 11 (szm_145 q) (sz_o60 1 ret) (sz_t0 ret)))))))
theorem szb_242_51k (hr : sz_rt ρ Q ret) (hg : ∀ t, sz_at S ρ q Q 242 t (go t)) : sz_at S ρ q Q 242 51 (szb_242_51 q ret go) := sz_F1_ok (i := 51) (by decide +kernel) (by decide +kernel) (sz_p1_ok (i := 53) (by decide +kernel) (sz_p1_ok (i := 54) (by decide +kernel) (sz_p0_ok (i := 55) (by decide +kernel) (sz_p0_ok (i := 56) (by decide +kernel) (sz_F1_ok (i := 57) (by decide +kernel) (by decide +kernel) (sz_ca_ok (i := 59) (a := 145) (b := 6) (by decide +kernel) rfl rfl szp_145 rfl (fun _ _ h => szm_145k h) (sz_o60_ok (i := 60) (a := 0) (b := 0) szp_242 rfl (by decide +kernel) hr) (sz_t0_ok szp_242 rfl hr)))))))
noncomputable def szb_242_40 (q : Nat) (ret : sz_K) (go : Nat → sz_Q) : sz_Q := sz_F1 0 0 0 (sz_p0 5 0 (sz_p1 2 0 (sz_p0 0 0 (sz_p0 0 0 (sz_F1 0 0 0 (sz_p46 11 0 (sz_ca 56 6 11 (szm_145 q) (sz_o60 1 ret) (sz_t0 ret))))))))
theorem szb_242_40k (hr : sz_rt ρ Q ret) (hg : ∀ t, sz_at S ρ q Q 242 t (go t)) : sz_at S ρ q Q 242 40 (szb_242_40 q ret go) := sz_F1_ok (i := 40) (by decide +kernel) (by decide +kernel) (sz_p0_ok (i := 42) (by decide +kernel) (sz_p1_ok (i := 43) (by decide +kernel) (sz_p0_ok (i := 44) (by decide +kernel) (sz_p0_ok (i := 45) (by decide +kernel) (sz_F1_ok (i := 46) (by decide +kernel) (by decide +kernel) (sz_p46_ok (i := 48) (by decide +kernel) (sz_ca_ok (i := 49) (a := 145) (b := 6) (by decide +kernel) rfl rfl szp_145 rfl (fun _ _ h => szm_145k h) (sz_o60_ok (i := 50) (a := 0) (b := 0) szp_242 rfl (by decide +kernel) hr) (sz_t0_ok szp_242 rfl hr))))))))
noncomputable def szb_242_26 (q : Nat) (ret : sz_K) (go : Nat → sz_Q) : sz_Q := sz_F1 0 0 0 (sz_p1 1 0 (sz_p1 2 0 (sz_F1 0 0 0 (sz_p1 3 0 (sz_ca 56 2 11 (szm_119 q) (sz_p0 0 0 (sz_F1 0 0 0 (sz_p46 11 0 (sz_ca 56 6 11 (szm_145 q) (sz_o60 1 ret) (sz_t0 ret))))) (sz_t0 ret))))))
theorem szb_242_26k (hr : sz_rt ρ Q ret) (hg : ∀ t, sz_at S ρ q Q 242 t (go t)) : sz_at S ρ q Q 242 26 (szb_242_26 q ret go) := sz_F1_ok (i := 26) (by decide +kernel) (by decide +kernel) (sz_p1_ok (i := 28) (by decide +kernel) (sz_p1_ok (i := 29) (by decide +kernel) (sz_F1_ok (i := 30) (by decide +kernel) (by decide +kernel) (sz_p1_ok (i := 32) (by decide +kernel) (sz_ca_ok (i := 33) (a := 119) (b := 2) (by decide +kernel) rfl rfl szp_119 rfl (fun _ _ h => szm_119k h) (sz_p0_ok (i := 34) (by decide +kernel) (sz_F1_ok (i := 35) (by decide +kernel) (by decide +kernel) (sz_p46_ok (i := 37) (by decide +kernel) (sz_ca_ok (i := 38) (a := 145) (b := 6) (by decide +kernel) rfl rfl szp_145 rfl (fun _ _ h => szm_145k h) (sz_o60_ok (i := 39) (a := 0) (b := 0) szp_242 rfl (by decide +kernel) hr) (sz_t0_ok szp_242 rfl hr))))) (sz_t0_ok szp_242 rfl hr))))))
noncomputable def szb_242_16 (q : Nat) (ret : sz_K) (go : Nat → sz_Q) : sz_Q := sz_F1 0 0 0 (sz_p0 3 0 (sz_p1 2 0 (sz_p1 3 0 (sz_p0 0 0 (sz_F1 0 0 5 (sz_ca 56 6 11 (szm_145 q) (sz_o60 1 ret) (sz_t0 ret)))))))
theorem szb_242_16k (hr : sz_rt ρ Q ret) (hg : ∀ t, sz_at S ρ q Q 242 t (go t)) : sz_at S ρ q Q 242 16 (szb_242_16 q ret go) := sz_F1_ok (i := 16) (by decide +kernel) (by decide +kernel) (sz_p0_ok (i := 18) (by decide +kernel) (sz_p1_ok (i := 19) (by decide +kernel) (sz_p1_ok (i := 20) (by decide +kernel) (sz_p0_ok (i := 21) (by decide +kernel) (sz_F1_ok (i := 22) (by decide +kernel) (by decide +kernel) (sz_ca_ok (i := 24) (a := 145) (b := 6) (by decide +kernel) rfl rfl szp_145 rfl (fun _ _ h => szm_145k h) (sz_o60_ok (i := 25) (a := 0) (b := 0) szp_242 rfl (by decide +kernel) hr) (sz_t0_ok szp_242 rfl hr)))))))
noncomputable def szb_242_6 (q : Nat) (ret : sz_K) (go : Nat → sz_Q) : sz_Q := sz_F1 0 0 0 (sz_p0 1 0 (sz_p0 0 0 (sz_p0 0 0 (sz_p0 0 0 (sz_F1 0 0 5 (sz_ca 56 6 11 (szm_145 q) (sz_o60 1 ret) (sz_t0 ret)))))))
theorem szb_242_6k (hr : sz_rt ρ Q ret) (hg : ∀ t, sz_at S ρ q Q 242 t (go t)) : sz_at S ρ q Q 242 6 (szb_242_6 q ret go) := sz_F1_ok (i := 6) (by decide +kernel) (by decide +kernel) (sz_p0_ok (i := 8) (by decide +kernel) (sz_p0_ok (i := 9) (by decide +kernel) (sz_p0_ok (i := 10) (by decide +kernel) (sz_p0_ok (i := 11) (by decide +kernel) (sz_F1_ok (i := 12) (by decide +kernel) (by decide +kernel) (sz_ca_ok (i := 14) (a := 145) (b := 6) (by decide +kernel) rfl rfl szp_145 rfl (fun _ _ h => szm_145k h) (sz_o60_ok (i := 15) (a := 0) (b := 0) szp_242 rfl (by decide +kernel) hr) (sz_t0_ok szp_242 rfl hr)))))))
noncomputable def szb_242_2 (q : Nat) (ret : sz_K) (go : Nat → sz_Q) : sz_Q := sz_F1 0 0 0 (sz_ca 56 1 11 (szm_143 q) (sz_o60 1 ret) (sz_t0 ret))
theorem szb_242_2k (hr : sz_rt ρ Q ret) (hg : ∀ t, sz_at S ρ q Q 242 t (go t)) : sz_at S ρ q Q 242 2 (szb_242_2 q ret go) := sz_F1_ok (i := 2) (by decide +kernel) (by decide +kernel) (sz_ca_ok (i := 4) (a := 143) (b := 1) (by decide +kernel) rfl rfl szp_143 rfl (fun _ _ h => szm_143k h) (sz_o60_ok (i := 5) (a := 0) (b := 0) szp_242 rfl (by decide +kernel) hr) (sz_t0_ok szp_242 rfl hr))
noncomputable def szb_242_0 (q : Nat) (ret : sz_K) (go : Nat → sz_Q) : sz_Q := sz_p1 1 0 (sz_o36 sxc242 (36, 0, 0, 1, 43, .tableswitch (128) (0) (6) #[43, 51, 128, 67, 83, 109, 83]) 2147483648 2147483655 (fun t => bif Nat.beq t 2 then (szb_242_2 q ret go) else bif Nat.beq t 6 then (szb_242_6 q ret go) else bif Nat.beq t 16 then (szb_242_16 q ret go) else bif Nat.beq t 26 then (szb_242_26 q ret go) else bif Nat.beq t 40 then (szb_242_40 q ret go) else bif Nat.beq t 51 then (szb_242_51 q ret go) else sz_no))
theorem szb_242_0k (hr : sz_rt ρ Q ret) (hg : ∀ t, sz_at S ρ q Q 242 t (go t)) : sz_at S ρ q Q 242 0 (szb_242_0 q ret go) := sz_p1_ok (i := 0) (by decide +kernel) (sz_o36_ok (i := 1) (M := (4, 0, 1, [], sxc242)) (en := (36, 0, 0, 1, 43, .tableswitch (128) (0) (6) #[43, 51, 128, 67, 83, 109, 83])) szp_242 rfl rfl (fun t => (sz_sel_ok (szb_242_2k hr hg) (sz_sel_ok (szb_242_6k hr hg) (sz_sel_ok (szb_242_16k hr hg) (sz_sel_ok (szb_242_26k hr hg) (sz_sel_ok (szb_242_40k hr hg) (sz_sel_ok (szb_242_51k hr hg) sz_no_ok))))))))
noncomputable def szm_242 (q : Nat) (ret : sz_K) : sz_Q := szb_242_0 q ret sz_nog
theorem szm_242k (hr : sz_rt ρ Q ret) : sz_at S ρ q Q 242 0 (szm_242 q ret) := szb_242_0k hr sz_nog_ok
/-! KeyGroups$Terms.tell(I)I -/
theorem szp_123 : sxP 123 = some (3, 11, 1, [], sxc123) := rfl
noncomputable def szb_123_49 (q : Nat) (ret : sz_K) (go : Nat → sz_Q) : sz_Q := sz_F38 q 0 11 1 2 (sz_o60 1 ret)
theorem szb_123_49k (hr : sz_rt ρ Q ret) (hg : ∀ t, sz_at S ρ q Q 123 t (go t)) : sz_at S ρ q Q 123 49 (szb_123_49 q ret go) := sz_F38_ok (i := 49) (by decide +kernel) (by decide +kernel) (by decide +kernel) (by decide +kernel) (sz_o60_ok (i := 53) (a := 0) (b := 0) szp_123 rfl (by decide +kernel) hr)
noncomputable def szb_123_37 (q : Nat) (ret : sz_K) (go : Nat → sz_Q) : sz_Q := sz_F1 0 11 6 (sz_F1 0 11 7 (sz_p1 1 0 (sz_o42 0 0 (sz_F1 0 11 1 (sz_p1 2 0 (sz_F1 0 11 7 (sz_o42 0 0 (szb_123_49 q ret go))))))))
theorem szb_123_37k (hr : sz_rt ρ Q ret) (hg : ∀ t, sz_at S ρ q Q 123 t (go t)) : sz_at S ρ q Q 123 37 (szb_123_37 q ret go) := sz_F1_ok (i := 37) (by decide +kernel) (by decide +kernel) (sz_F1_ok (i := 39) (by decide +kernel) (by decide +kernel) (sz_p1_ok (i := 41) (by decide +kernel) (sz_o42_ok (i := 42) (by decide +kernel) (sz_F1_ok (i := 43) (by decide +kernel) (by decide +kernel) (sz_p1_ok (i := 45) (by decide +kernel) (sz_F1_ok (i := 46) (by decide +kernel) (by decide +kernel) (sz_o42_ok (i := 48) (by decide +kernel) (szb_123_49k hr hg))))))))
noncomputable def szb_123_15 (q : Nat) (ret : sz_K) (go : Nat → sz_Q) : sz_Q := sz_p2 0 0 (sz_o7 0 0 (sz_p46 11 7 (sz_p0 1 0 (sz_p9 0 0 (sz_o47 11 7 (sz_F1 0 11 7 (sz_F1 0 11 6 (sz_o37 q 0 0 (sz_p31 37 0 (szb_123_37 q ret go) sz_no)))))))))
theorem szb_123_15k (hr : sz_rt ρ Q ret) (hg : ∀ t, sz_at S ρ q Q 123 t (go t)) : sz_at S ρ q Q 123 15 (szb_123_15 q ret go) := sz_p2_ok (i := 15) (by decide +kernel) (sz_o7_ok (i := 16) (by decide +kernel) (sz_p46_ok (i := 17) (by decide +kernel) (sz_p0_ok (i := 18) (by decide +kernel) (sz_p9_ok (i := 19) (by decide +kernel) (sz_o47_ok (i := 20) (by decide +kernel) (sz_F1_ok (i := 21) (by decide +kernel) (by decide +kernel) (sz_F1_ok (i := 23) (by decide +kernel) (by decide +kernel) (sz_o37_ok (i := 25) (by decide +kernel) (sz_p31_ok (i := 26) (by decide +kernel) (szb_123_37k hr hg) sz_no_ok)))))))))
noncomputable def szb_123_4 (q : Nat) (ret : sz_K) (go : Nat → sz_Q) : sz_Q := sz_p1 1 0 (sz_p0 14 0 (sz_p11 0 0 (sz_p0 8 0 (sz_p9 0 0 (sz_o3 2 0 (sz_F38 q 0 11 1 2 (sz_p24 49 0 (szb_123_49 q ret go) (szb_123_15 q ret go))))))))
theorem szb_123_4k (hr : sz_rt ρ Q ret) (hg : ∀ t, sz_at S ρ q Q 123 t (go t)) : sz_at S ρ q Q 123 4 (szb_123_4 q ret go) := sz_p1_ok (i := 4) (by decide +kernel) (sz_p0_ok (i := 5) (by decide +kernel) (sz_p11_ok (i := 6) (by decide +kernel) (sz_p0_ok (i := 7) (by decide +kernel) (sz_p9_ok (i := 8) (by decide +kernel) (sz_o3_ok (i := 9) (by decide +kernel) (sz_F38_ok (i := 10) (by decide +kernel) (by decide +kernel) (by decide +kernel) (by decide +kernel) (sz_p24_ok (i := 14) (by decide +kernel) (szb_123_49k hr hg) (szb_123_15k hr hg))))))))
noncomputable def szb_123_2 (q : Nat) (ret : sz_K) (go : Nat → sz_Q) : sz_Q := sz_p0 0 0 (sz_o60 1 ret)
theorem szb_123_2k (hr : sz_rt ρ Q ret) (hg : ∀ t, sz_at S ρ q Q 123 t (go t)) : sz_at S ρ q Q 123 2 (szb_123_2 q ret go) := sz_p0_ok (i := 2) (by decide +kernel) (sz_o60_ok (i := 3) (a := 0) (b := 0) szp_123 rfl (by decide +kernel) hr)
noncomputable def szb_123_0 (q : Nat) (ret : sz_K) (go : Nat → sz_Q) : sz_Q := sz_p1 1 0 (sz_p24 4 0 (szb_123_4 q ret go) (szb_123_2 q ret go))
theorem szb_123_0k (hr : sz_rt ρ Q ret) (hg : ∀ t, sz_at S ρ q Q 123 t (go t)) : sz_at S ρ q Q 123 0 (szb_123_0 q ret go) := sz_p1_ok (i := 0) (by decide +kernel) (sz_p24_ok (i := 1) (by decide +kernel) (szb_123_4k hr hg) (szb_123_2k hr hg))
noncomputable def szm_123 (q : Nat) (ret : sz_K) : sz_Q := szb_123_0 q ret sz_nog
theorem szm_123k (hr : sz_rt ρ Q ret) : sz_at S ρ q Q 123 0 (szm_123 q ret) := szb_123_0k hr sz_nog_ok
/-! KeyGroups.make(III)I -/
theorem szp_114 : sxP 114 = some (7, 0, 1, [], sxc114) := rfl
noncomputable def szb_114_69 (q : Nat) (ret : sz_K) (go : Nat → sz_Q) : sz_Q := sz_F1 0 0 0 (sz_p1 6 0 (sz_ca 56 2 11 (szm_144 q) (sz_F1 0 0 0 (sz_p1 6 0 (sz_ca 56 2 11 (szm_123 q) (sz_o60 1 ret) (sz_t0 ret)))) (sz_t0 ret)))
theorem szb_114_69k (hr : sz_rt ρ Q ret) (hg : ∀ t, sz_at S ρ q Q 114 t (go t)) : sz_at S ρ q Q 114 69 (szb_114_69 q ret go) := sz_F1_ok (i := 69) (by decide +kernel) (by decide +kernel) (sz_p1_ok (i := 71) (by decide +kernel) (sz_ca_ok (i := 72) (a := 144) (b := 2) (by decide +kernel) rfl rfl szp_144 rfl (fun _ _ h => szm_144k h) (sz_F1_ok (i := 73) (by decide +kernel) (by decide +kernel) (sz_p1_ok (i := 75) (by decide +kernel) (sz_ca_ok (i := 76) (a := 123) (b := 2) (by decide +kernel) rfl rfl szp_123 rfl (fun _ _ h => szm_123k h) (sz_o60_ok (i := 77) (a := 0) (b := 0) szp_114 rfl (by decide +kernel) hr) (sz_t0_ok szp_114 rfl hr)))) (sz_t0_ok szp_114 rfl hr)))
noncomputable def szb_114_66 (q : Nat) (ret : sz_K) (go : Nat → sz_Q) : sz_Q := sz_F1 0 0 5 (sz_ca 56 1 9 (szm_160 q) (szb_114_69 q ret go) (sz_t0 ret))
theorem szb_114_66k (hr : sz_rt ρ Q ret) (hg : ∀ t, sz_at S ρ q Q 114 t (go t)) : sz_at S ρ q Q 114 66 (szb_114_66 q ret go) := sz_F1_ok (i := 66) (by decide +kernel) (by decide +kernel) (sz_ca_ok (i := 68) (a := 160) (b := 1) (by decide +kernel) rfl rfl szp_160 rfl (fun _ _ h => szm_160k h) (szb_114_69k hr hg) (sz_t0_ok szp_114 rfl hr))
noncomputable def szb_114_58 (q : Nat) (ret : sz_K) (go : Nat → sz_Q) : sz_Q := sz_p2 0 0 (sz_p1 1 0 (sz_p1 4 0 (sz_p1 3 0 (sz_ca 56 4 0 (szm_242 q) (sz_o3 6 0 (sz_p1 5 0 (sz_p23 69 0 (szb_114_69 q ret go) (szb_114_66 q ret go)))) (sz_t0 ret)))))
theorem szb_114_58k (hr : sz_rt ρ Q ret) (hg : ∀ t, sz_at S ρ q Q 114 t (go t)) : sz_at S ρ q Q 114 58 (szb_114_58 q ret go) := sz_p2_ok (i := 58) (by decide +kernel) (sz_p1_ok (i := 59) (by decide +kernel) (sz_p1_ok (i := 60) (by decide +kernel) (sz_p1_ok (i := 61) (by decide +kernel) (sz_ca_ok (i := 62) (a := 242) (b := 4) (by decide +kernel) rfl rfl szp_242 rfl (fun _ _ h => szm_242k h) (sz_o3_ok (i := 63) (by decide +kernel) (sz_p1_ok (i := 64) (by decide +kernel) (sz_p23_ok (i := 65) (by decide +kernel) (szb_114_69k hr hg) (szb_114_66k hr hg)))) (sz_t0_ok szp_114 rfl hr)))))
noncomputable def szb_114_48 (q : Nat) (ret : sz_K) (go : Nat → sz_Q) : sz_Q := sz_F1 0 0 5 (sz_p46 9 1 (sz_p0 300 0 (sz_p34 58 0 (szb_114_58 q ret go) sz_no)))
theorem szb_114_48k (hr : sz_rt ρ Q ret) (hg : ∀ t, sz_at S ρ q Q 114 t (go t)) : sz_at S ρ q Q 114 48 (szb_114_48 q ret go) := sz_F1_ok (i := 48) (by decide +kernel) (by decide +kernel) (sz_p46_ok (i := 50) (by decide +kernel) (sz_p0_ok (i := 51) (by decide +kernel) (sz_p34_ok (i := 52) (by decide +kernel) (szb_114_58k hr hg) sz_no_ok)))
noncomputable def szb_114_45 (q : Nat) (ret : sz_K) (go : Nat → sz_Q) : sz_Q := sz_o3 5 0 (sz_p1 5 0 (sz_p23 58 0 (szb_114_58 q ret go) (szb_114_48 q ret go)))
theorem szb_114_45k (hr : sz_rt ρ Q ret) (hg : ∀ t, sz_at S ρ q Q 114 t (go t)) : sz_at S ρ q Q 114 45 (szb_114_45 q ret go) := sz_o3_ok (i := 45) (by decide +kernel) (sz_p1_ok (i := 46) (by decide +kernel) (sz_p23_ok (i := 47) (by decide +kernel) (szb_114_58k hr hg) (szb_114_48k hr hg)))
noncomputable def szb_114_44 (q : Nat) (ret : sz_K) (go : Nat → sz_Q) : sz_Q := sz_p0 0 0 (szb_114_45 q ret go)
theorem szb_114_44k (hr : sz_rt ρ Q ret) (hg : ∀ t, sz_at S ρ q Q 114 t (go t)) : sz_at S ρ q Q 114 44 (szb_114_44 q ret go) := sz_p0_ok (i := 44) (by decide +kernel) (szb_114_45k hr hg)
noncomputable def szb_114_42 (q : Nat) (ret : sz_K) (go : Nat → sz_Q) : sz_Q := sz_p0 1 0 (szb_114_45 q ret go)
theorem szb_114_42k (hr : sz_rt ρ Q ret) (hg : ∀ t, sz_at S ρ q Q 114 t (go t)) : sz_at S ρ q Q 114 42 (szb_114_42 q ret go) := sz_p0_ok (i := 42) (by decide +kernel) (sz_o35_ok (i := 43) (a := 45) (b := 0) (by decide +kernel) (szb_114_45k hr hg))
noncomputable def szb_114_39 (q : Nat) (ret : sz_K) (go : Nat → sz_Q) : sz_Q := sz_p1 1 0 (sz_p0 7 0 (sz_p30 44 0 (szb_114_44 q ret go) (szb_114_42 q ret go)))
theorem szb_114_39k (hr : sz_rt ρ Q ret) (hg : ∀ t, sz_at S ρ q Q 114 t (go t)) : sz_at S ρ q Q 114 39 (szb_114_39 q ret go) := sz_p1_ok (i := 39) (by decide +kernel) (sz_p0_ok (i := 40) (by decide +kernel) (sz_p30_ok (i := 41) (by decide +kernel) (szb_114_44k hr hg) (szb_114_42k hr hg)))
noncomputable def szb_114_36 (q : Nat) (ret : sz_K) (go : Nat → sz_Q) : sz_Q := sz_p1 1 0 (sz_p0 3 0 (sz_p29 42 0 (szb_114_42 q ret go) (szb_114_39 q ret go)))
theorem szb_114_36k (hr : sz_rt ρ Q ret) (hg : ∀ t, sz_at S ρ q Q 114 t (go t)) : sz_at S ρ q Q 114 36 (szb_114_36 q ret go) := sz_p1_ok (i := 36) (by decide +kernel) (sz_p0_ok (i := 37) (by decide +kernel) (sz_p29_ok (i := 38) (by decide +kernel) (szb_114_42k hr hg) (szb_114_39k hr hg)))
noncomputable def szb_114_33 (q : Nat) (ret : sz_K) (go : Nat → sz_Q) : sz_Q := sz_p1 1 0 (sz_p0 2 0 (sz_p29 42 0 (szb_114_42 q ret go) (szb_114_36 q ret go)))
theorem szb_114_33k (hr : sz_rt ρ Q ret) (hg : ∀ t, sz_at S ρ q Q 114 t (go t)) : sz_at S ρ q Q 114 33 (szb_114_33 q ret go) := sz_p1_ok (i := 33) (by decide +kernel) (sz_p0_ok (i := 34) (by decide +kernel) (sz_p29_ok (i := 35) (by decide +kernel) (szb_114_42k hr hg) (szb_114_36k hr hg)))
noncomputable def szb_114_30 (q : Nat) (ret : sz_K) (go : Nat → sz_Q) : sz_Q := sz_p1 1 0 (sz_p0 1 0 (sz_p29 42 0 (szb_114_42 q ret go) (szb_114_33 q ret go)))
theorem szb_114_30k (hr : sz_rt ρ Q ret) (hg : ∀ t, sz_at S ρ q Q 114 t (go t)) : sz_at S ρ q Q 114 30 (szb_114_30 q ret go) := sz_p1_ok (i := 30) (by decide +kernel) (sz_p0_ok (i := 31) (by decide +kernel) (sz_p29_ok (i := 32) (by decide +kernel) (szb_114_42k hr hg) (szb_114_33k hr hg)))
noncomputable def szb_114_25 (q : Nat) (ret : sz_K) (go : Nat → sz_Q) : sz_Q := sz_o62 15 ret
theorem szb_114_25k (hr : sz_rt ρ Q ret) (hg : ∀ t, sz_at S ρ q Q 114 t (go t)) : sz_at S ρ q Q 114 25 (szb_114_25 q ret go) := sz_o62_ok (i := 25) (a := 15) (b := 1) (by decide +kernel) hr
noncomputable def szb_114_19 (q : Nat) (ret : sz_K) (go : Nat → sz_Q) : sz_Q := sz_F1 0 0 0 (sz_p1 4 0 (sz_ca 56 2 11 (szm_121 q) (sz_p0 5 0 (sz_p29 30 0 (szb_114_30 q ret go) (szb_114_25 q ret go))) (sz_t0 ret)))
theorem szb_114_19k (hr : sz_rt ρ Q ret) (hg : ∀ t, sz_at S ρ q Q 114 t (go t)) : sz_at S ρ q Q 114 19 (szb_114_19 q ret go) := sz_F1_ok (i := 19) (by decide +kernel) (by decide +kernel) (sz_p1_ok (i := 21) (by decide +kernel) (sz_ca_ok (i := 22) (a := 121) (b := 2) (by decide +kernel) rfl rfl szp_121 rfl (fun _ _ h => szm_121k h) (sz_p0_ok (i := 23) (by decide +kernel) (sz_p29_ok (i := 24) (by decide +kernel) (szb_114_30k hr hg) (szb_114_25k hr hg))) (sz_t0_ok szp_114 rfl hr)))
noncomputable def szb_114_11 (q : Nat) (ret : sz_K) (go : Nat → sz_Q) : sz_Q := sz_F1 0 0 0 (sz_p1 2 0 (sz_ca 56 2 11 (szm_119 q) (sz_o3 4 0 (sz_p1 1 0 (sz_p0 6 0 (sz_p30 30 0 (szb_114_30 q ret go) (szb_114_19 q ret go))))) (sz_t0 ret)))
theorem szb_114_11k (hr : sz_rt ρ Q ret) (hg : ∀ t, sz_at S ρ q Q 114 t (go t)) : sz_at S ρ q Q 114 11 (szb_114_11 q ret go) := sz_F1_ok (i := 11) (by decide +kernel) (by decide +kernel) (sz_p1_ok (i := 13) (by decide +kernel) (sz_ca_ok (i := 14) (a := 119) (b := 2) (by decide +kernel) rfl rfl szp_119 rfl (fun _ _ h => szm_119k h) (sz_o3_ok (i := 15) (by decide +kernel) (sz_p1_ok (i := 16) (by decide +kernel) (sz_p0_ok (i := 17) (by decide +kernel) (sz_p30_ok (i := 18) (by decide +kernel) (szb_114_30k hr hg) (szb_114_19k hr hg))))) (sz_t0_ok szp_114 rfl hr)))
noncomputable def szb_114_6 (q : Nat) (ret : sz_K) (go : Nat → sz_Q) : sz_Q := sz_o62 13 ret
theorem szb_114_6k (hr : sz_rt ρ Q ret) (hg : ∀ t, sz_at S ρ q Q 114 t (go t)) : sz_at S ρ q Q 114 6 (szb_114_6 q ret go) := sz_o62_ok (i := 6) (a := 13) (b := 1) (by decide +kernel) hr
noncomputable def szb_114_0 (q : Nat) (ret : sz_K) (go : Nat → sz_Q) : sz_Q := sz_p2 0 0 (sz_p1 1 0 (sz_p1 2 0 (sz_p1 3 0 (sz_ca 56 4 0 (szm_241 q) (sz_p24 11 0 (szb_114_11 q ret go) (szb_114_6 q ret go)) (sz_t0 ret)))))
theorem szb_114_0k (hr : sz_rt ρ Q ret) (hg : ∀ t, sz_at S ρ q Q 114 t (go t)) : sz_at S ρ q Q 114 0 (szb_114_0 q ret go) := sz_p2_ok (i := 0) (by decide +kernel) (sz_p1_ok (i := 1) (by decide +kernel) (sz_p1_ok (i := 2) (by decide +kernel) (sz_p1_ok (i := 3) (by decide +kernel) (sz_ca_ok (i := 4) (a := 241) (b := 4) (by decide +kernel) rfl rfl szp_241 rfl (fun _ _ h => szm_241k h) (sz_p24_ok (i := 5) (by decide +kernel) (szb_114_11k hr hg) (szb_114_6k hr hg)) (sz_t0_ok szp_114 rfl hr)))))
noncomputable def szm_114 (q : Nat) (ret : sz_K) : sz_Q := szb_114_0 q ret sz_nog
theorem szm_114k (hr : sz_rt ρ Q ret) : sz_at S ρ q Q 114 0 (szm_114 q ret) := szb_114_0k hr sz_nog_ok
/-! KeyGroupsLaw.make(LKeyGroups;III[J)I -/
theorem szp_24 : sxP 24 = some (6, 999, 1, [(0, 12, 10, 13), (0, 12, 13, 15)], sxc24) := rfl
noncomputable def szb_24_16 (q : Nat) (ret : sz_K) (go : Nat → sz_Q) : sz_Q := sz_p0 0 0 (sz_o60 1 ret)
theorem szb_24_16k (hr : sz_rt ρ Q ret) (hg : ∀ t, sz_at S ρ q Q 24 t (go t)) : sz_at S ρ q Q 24 16 (szb_24_16 q ret go) := sz_p0_ok (i := 16) (by decide +kernel) (sz_o60_ok (i := 17) (a := 0) (b := 0) szp_24 rfl (by decide +kernel) hr)
noncomputable def szb_24_13 (q : Nat) (ret : sz_K) (go : Nat → sz_Q) : sz_Q := sz_o4 5 0 (sz_p0 2 0 (sz_o60 1 ret))
theorem szb_24_13k (hr : sz_rt ρ Q ret) (hg : ∀ t, sz_at S ρ q Q 24 t (go t)) : sz_at S ρ q Q 24 13 (szb_24_13 q ret go) := sz_o4_ok (i := 13) (by decide +kernel) (sz_p0_ok (i := 14) (by decide +kernel) (sz_o60_ok (i := 15) (a := 0) (b := 0) szp_24 rfl (by decide +kernel) hr))
noncomputable def szb_24_10 (q : Nat) (ret : sz_K) (go : Nat → sz_Q) : sz_Q := sz_o4 5 0 (sz_p0 1 0 (sz_o60 1 ret))
theorem szb_24_10k (hr : sz_rt ρ Q ret) (hg : ∀ t, sz_at S ρ q Q 24 t (go t)) : sz_at S ρ q Q 24 10 (szb_24_10 q ret go) := sz_o4_ok (i := 10) (by decide +kernel) (sz_p0_ok (i := 11) (by decide +kernel) (sz_o60_ok (i := 12) (a := 0) (b := 0) szp_24 rfl (by decide +kernel) hr))
noncomputable def szb_24_0 (q : Nat) (ret : sz_K) (go : Nat → sz_Q) : sz_Q := sz_p2 4 0 (sz_p0 0 0 (sz_p2 0 0 (sz_p1 1 0 (sz_p1 2 0 (sz_p1 3 0 (sz_ca 56 4 0 (szm_114 q) (sz_o20 0 0 (sz_o44 0 0 (szb_24_16 q ret go))) (sz_t1 [(0, 12, 10, 13), (0, 12, 13, 15)] 7 (fun t => bif Nat.beq t 10 then (szb_24_10 q ret go) else bif Nat.beq t 13 then (szb_24_13 q ret go) else sz_no))))))))
theorem szb_24_0k (hr : sz_rt ρ Q ret) (hg : ∀ t, sz_at S ρ q Q 24 t (go t)) : sz_at S ρ q Q 24 0 (szb_24_0 q ret go) := sz_p2_ok (i := 0) (by decide +kernel) (sz_p0_ok (i := 1) (by decide +kernel) (sz_p2_ok (i := 2) (by decide +kernel) (sz_p1_ok (i := 3) (by decide +kernel) (sz_p1_ok (i := 4) (by decide +kernel) (sz_p1_ok (i := 5) (by decide +kernel) (sz_ca_ok (i := 6) (a := 114) (b := 4) (by decide +kernel) rfl rfl szp_114 rfl (fun _ _ h => szm_114k h) (sz_o20_ok (i := 7) (by decide +kernel) (sz_o44_ok (i := 8) (by decide +kernel) (sz_o35_ok (i := 9) (a := 16) (b := 0) (by decide +kernel) (szb_24_16k hr hg)))) (sz_t1_ok (i := 6) (M := (6, 999, 1, [(0, 12, 10, 13), (0, 12, 13, 15)], sxc24)) (en := (56, 114, 4, 7, 3, .invokevirtual 42)) szp_24 rfl rfl rfl (fun t => (sz_sel_ok (szb_24_10k hr hg) (sz_sel_ok (szb_24_13k hr hg) sz_no_ok))))))))))
noncomputable def szm_24 (q : Nat) (ret : sz_K) : sz_Q := szb_24_0 q ret sz_nog
theorem szm_24k (hr : sz_rt ρ Q ret) : sz_at S ρ q Q 24 0 (szm_24 q ret) := szb_24_0k hr sz_nog_ok
/-! KeyGroupsModel.has(I)Z -/
theorem szp_115 : sxP 115 = some (2, 1, 2, [], sxc115) := rfl
noncomputable def szb_115_18 (q : Nat) (ret : sz_K) (go : Nat → sz_Q) : sz_Q := sz_o60 2 ret
theorem szb_115_18k (hr : sz_rt ρ Q ret) (hg : ∀ t, sz_at S ρ q Q 115 t (go t)) : sz_at S ρ q Q 115 18 (szb_115_18 q ret go) := sz_o60_ok (i := 18) (a := 0) (b := 0) szp_115 rfl (by decide +kernel) hr
noncomputable def szb_115_17 (q : Nat) (ret : sz_K) (go : Nat → sz_Q) : sz_Q := sz_p0 0 0 (szb_115_18 q ret go)
theorem szb_115_17k (hr : sz_rt ρ Q ret) (hg : ∀ t, sz_at S ρ q Q 115 t (go t)) : sz_at S ρ q Q 115 17 (szb_115_17 q ret go) := sz_p0_ok (i := 17) (by decide +kernel) (szb_115_18k hr hg)
noncomputable def szb_115_15 (q : Nat) (ret : sz_K) (go : Nat → sz_Q) : sz_Q := sz_p0 1 0 (szb_115_18 q ret go)
theorem szb_115_15k (hr : sz_rt ρ Q ret) (hg : ∀ t, sz_at S ρ q Q 115 t (go t)) : sz_at S ρ q Q 115 15 (szb_115_15 q ret go) := sz_p0_ok (i := 15) (by decide +kernel) (sz_o35_ok (i := 16) (a := 18) (b := 0) (by decide +kernel) (szb_115_18k hr hg))
noncomputable def szb_115_7 (q : Nat) (ret : sz_K) (go : Nat → sz_Q) : sz_Q := sz_F1 0 1 16 (sz_F38 q 0 1 14 1 (sz_p39 0 0 (sz_p23 17 0 (szb_115_17 q ret go) (szb_115_15 q ret go))))
theorem szb_115_7k (hr : sz_rt ρ Q ret) (hg : ∀ t, sz_at S ρ q Q 115 t (go t)) : sz_at S ρ q Q 115 7 (szb_115_7 q ret go) := sz_F1_ok (i := 7) (by decide +kernel) (by decide +kernel) (sz_F38_ok (i := 9) (by decide +kernel) (by decide +kernel) (by decide +kernel) (by decide +kernel) (sz_p39_ok (i := 13) (by decide +kernel) (sz_p23_ok (i := 14) (by decide +kernel) (szb_115_17k hr hg) (szb_115_15k hr hg))))
noncomputable def szb_115_3 (q : Nat) (ret : sz_K) (go : Nat → sz_Q) : sz_Q := sz_p1 1 0 (sz_F1 0 1 18 (sz_p33 17 0 (szb_115_17 q ret go) (szb_115_7 q ret go)))
theorem szb_115_3k (hr : sz_rt ρ Q ret) (hg : ∀ t, sz_at S ρ q Q 115 t (go t)) : sz_at S ρ q Q 115 3 (szb_115_3 q ret go) := sz_p1_ok (i := 3) (by decide +kernel) (sz_F1_ok (i := 4) (by decide +kernel) (by decide +kernel) (sz_p33_ok (i := 6) (by decide +kernel) (szb_115_17k hr hg) (szb_115_7k hr hg)))
noncomputable def szb_115_0 (q : Nat) (ret : sz_K) (go : Nat → sz_Q) : sz_Q := sz_p1 1 0 (sz_p0 1 0 (sz_p31 17 0 (szb_115_17 q ret go) (szb_115_3 q ret go)))
theorem szb_115_0k (hr : sz_rt ρ Q ret) (hg : ∀ t, sz_at S ρ q Q 115 t (go t)) : sz_at S ρ q Q 115 0 (szb_115_0 q ret go) := sz_p1_ok (i := 0) (by decide +kernel) (sz_p0_ok (i := 1) (by decide +kernel) (sz_p31_ok (i := 2) (by decide +kernel) (szb_115_17k hr hg) (szb_115_3k hr hg)))
noncomputable def szm_115 (q : Nat) (ret : sz_K) : sz_Q := szb_115_0 q ret sz_nog
theorem szm_115k (hr : sz_rt ρ Q ret) : sz_at S ρ q Q 115 0 (szm_115 q ret) := szb_115_0k hr sz_nog_ok
/-! KeyGroupsModel.tell(I)I -/
theorem szp_54 : sxP 54 = some (2, 1, 1, [], sxc54) := rfl
noncomputable def szb_54_27 (q : Nat) (ret : sz_K) (go : Nat → sz_Q) : sz_Q := sz_F38 q 0 1 13 1 (sz_o60 1 ret)
theorem szb_54_27k (hr : sz_rt ρ Q ret) (hg : ∀ t, sz_at S ρ q Q 54 t (go t)) : sz_at S ρ q Q 54 27 (szb_54_27 q ret go) := sz_F38_ok (i := 27) (by decide +kernel) (by decide +kernel) (by decide +kernel) (by decide +kernel) (sz_o60_ok (i := 31) (a := 0) (b := 0) szp_54 rfl (by decide +kernel) hr)
noncomputable def szb_54_9 (q : Nat) (ret : sz_K) (go : Nat → sz_Q) : sz_Q := sz_p2 0 0 (sz_o7 0 0 (sz_p46 1 18 (sz_p0 1 0 (sz_p9 0 0 (sz_o47 1 18 (sz_F1 0 1 13 (sz_p1 1 0 (sz_F1 0 1 18 (sz_o42 0 0 (sz_F1 0 1 14 (sz_F1 0 1 18 (sz_p1 1 0 (sz_o42 0 0 (szb_54_27 q ret go))))))))))))))
theorem szb_54_9k (hr : sz_rt ρ Q ret) (hg : ∀ t, sz_at S ρ q Q 54 t (go t)) : sz_at S ρ q Q 54 9 (szb_54_9 q ret go) := sz_p2_ok (i := 9) (by decide +kernel) (sz_o7_ok (i := 10) (by decide +kernel) (sz_p46_ok (i := 11) (by decide +kernel) (sz_p0_ok (i := 12) (by decide +kernel) (sz_p9_ok (i := 13) (by decide +kernel) (sz_o47_ok (i := 14) (by decide +kernel) (sz_F1_ok (i := 15) (by decide +kernel) (by decide +kernel) (sz_p1_ok (i := 17) (by decide +kernel) (sz_F1_ok (i := 18) (by decide +kernel) (by decide +kernel) (sz_o42_ok (i := 20) (by decide +kernel) (sz_F1_ok (i := 21) (by decide +kernel) (by decide +kernel) (sz_F1_ok (i := 23) (by decide +kernel) (by decide +kernel) (sz_p1_ok (i := 25) (by decide +kernel) (sz_o42_ok (i := 26) (by decide +kernel) (szb_54_27k hr hg))))))))))))))
noncomputable def szb_54_4 (q : Nat) (ret : sz_K) (go : Nat → sz_Q) : sz_Q := sz_F38 q 0 1 13 1 (sz_p24 27 0 (szb_54_27 q ret go) (szb_54_9 q ret go))
theorem szb_54_4k (hr : sz_rt ρ Q ret) (hg : ∀ t, sz_at S ρ q Q 54 t (go t)) : sz_at S ρ q Q 54 4 (szb_54_4 q ret go) := sz_F38_ok (i := 4) (by decide +kernel) (by decide +kernel) (by decide +kernel) (by decide +kernel) (sz_p24_ok (i := 8) (by decide +kernel) (szb_54_27k hr hg) (szb_54_9k hr hg))
noncomputable def szb_54_2 (q : Nat) (ret : sz_K) (go : Nat → sz_Q) : sz_Q := sz_p0 0 0 (sz_o60 1 ret)
theorem szb_54_2k (hr : sz_rt ρ Q ret) (hg : ∀ t, sz_at S ρ q Q 54 t (go t)) : sz_at S ρ q Q 54 2 (szb_54_2 q ret go) := sz_p0_ok (i := 2) (by decide +kernel) (sz_o60_ok (i := 3) (a := 0) (b := 0) szp_54 rfl (by decide +kernel) hr)
noncomputable def szb_54_0 (q : Nat) (ret : sz_K) (go : Nat → sz_Q) : sz_Q := sz_p1 1 0 (sz_p24 4 0 (szb_54_4 q ret go) (szb_54_2 q ret go))
theorem szb_54_0k (hr : sz_rt ρ Q ret) (hg : ∀ t, sz_at S ρ q Q 54 t (go t)) : sz_at S ρ q Q 54 0 (szb_54_0 q ret go) := sz_p1_ok (i := 0) (by decide +kernel) (sz_p24_ok (i := 1) (by decide +kernel) (szb_54_4k hr hg) (szb_54_2k hr hg))
noncomputable def szm_54 (q : Nat) (ret : sz_K) : sz_Q := szb_54_0 q ret sz_nog
theorem szm_54k (hr : sz_rt ρ Q ret) : sz_at S ρ q Q 54 0 (szm_54 q ret) := szb_54_0k hr sz_nog_ok
/-! KeyGroupsModel.make(III)I -/
theorem szp_25 : sxP 25 = some (11, 1, 1, [], sxc25) := rfl
noncomputable def szb_25_195 (q : Nat) (ret : sz_K) (go : Nat → sz_Q) : sz_Q := sz_p2 0 0 (sz_p1 10 0 (sz_ca 56 2 1 (szm_54 q) (sz_o60 1 ret) (sz_t0 ret)))
theorem szb_25_195k (hr : sz_rt ρ Q ret) (hg : ∀ t, sz_at S ρ q Q 25 t (go t)) : sz_at S ρ q Q 25 195 (szb_25_195 q ret go) := sz_p2_ok (i := 195) (by decide +kernel) (sz_p1_ok (i := 196) (by decide +kernel) (sz_ca_ok (i := 197) (a := 54) (b := 2) (by decide +kernel) rfl rfl szp_54 rfl (fun _ _ h => szm_54k h) (sz_o60_ok (i := 198) (a := 0) (b := 0) szp_25 rfl (by decide +kernel) hr) (sz_t0_ok szp_25 rfl hr)))
noncomputable def szb_25_192 (q : Nat) (ret : sz_K) (go : Nat → sz_Q) : sz_Q := sz_p2 0 0 (sz_p1 10 0 (sz_ca 56 2 1 (szm_56 q) (szb_25_195 q ret go) (sz_t0 ret)))
theorem szb_25_192k (hr : sz_rt ρ Q ret) (hg : ∀ t, sz_at S ρ q Q 25 t (go t)) : sz_at S ρ q Q 25 192 (szb_25_192 q ret go) := sz_p2_ok (i := 192) (by decide +kernel) (sz_p1_ok (i := 193) (by decide +kernel) (sz_ca_ok (i := 194) (a := 56) (b := 2) (by decide +kernel) rfl rfl szp_56 rfl (fun _ _ h => szm_56k h) (szb_25_195k hr hg) (sz_t0_ok szp_25 rfl hr)))
noncomputable def szb_25_190 (q : Nat) (ret : sz_K) (go : Nat → sz_Q) : sz_Q := sz_p1 1 0 (sz_p24 195 0 (szb_25_195 q ret go) (szb_25_192 q ret go))
theorem szb_25_190k (hr : sz_rt ρ Q ret) (hg : ∀ t, sz_at S ρ q Q 25 t (go t)) : sz_at S ρ q Q 25 190 (szb_25_190 q ret go) := sz_p1_ok (i := 190) (by decide +kernel) (sz_p24_ok (i := 191) (by decide +kernel) (szb_25_195k hr hg) (szb_25_192k hr hg))
noncomputable def szb_25_180 (q : Nat) (ret : sz_K) (go : Nat → sz_Q) : sz_Q := sz_p2 0 0 (sz_ca 56 1 1 (szm_113 q) (sz_o6 0 0 (sz_p2 0 0 (sz_p0 7 0 (sz_p1 8 0 (sz_p0 0 0 (sz_p0 0 0 (sz_ca 56 5 1 (szm_53 q) (sz_o3 10 0 (szb_25_190 q ret go)) (sz_t0 ret)))))))) (sz_t0 ret))
theorem szb_25_180k (hr : sz_rt ρ Q ret) (hg : ∀ t, sz_at S ρ q Q 25 t (go t)) : sz_at S ρ q Q 25 180 (szb_25_180 q ret go) := sz_p2_ok (i := 180) (by decide +kernel) (sz_ca_ok (i := 181) (a := 113) (b := 1) (by decide +kernel) rfl rfl szp_113 rfl (fun _ _ h => szm_113k h) (sz_o6_ok (i := 182) (by decide +kernel) (sz_p2_ok (i := 183) (by decide +kernel) (sz_p0_ok (i := 184) (by decide +kernel) (sz_p1_ok (i := 185) (by decide +kernel) (sz_p0_ok (i := 186) (by decide +kernel) (sz_p0_ok (i := 187) (by decide +kernel) (sz_ca_ok (i := 188) (a := 53) (b := 5) (by decide +kernel) rfl rfl szp_53 rfl (fun _ _ h => szm_53k h) (sz_o3_ok (i := 189) (by decide +kernel) (szb_25_190k hr hg)) (sz_t0_ok szp_25 rfl hr)))))))) (sz_t0_ok szp_25 rfl hr))
noncomputable def szb_25_172 (q : Nat) (ret : sz_K) (go : Nat → sz_Q) : sz_Q := sz_p2 0 0 (sz_p0 6 0 (sz_p1 8 0 (sz_p1 9 0 (sz_p0 0 0 (sz_ca 56 5 1 (szm_53 q) (sz_o3 10 0 (szb_25_190 q ret go)) (sz_t0 ret))))))
theorem szb_25_172k (hr : sz_rt ρ Q ret) (hg : ∀ t, sz_at S ρ q Q 25 t (go t)) : sz_at S ρ q Q 25 172 (szb_25_172 q ret go) := sz_p2_ok (i := 172) (by decide +kernel) (sz_p0_ok (i := 173) (by decide +kernel) (sz_p1_ok (i := 174) (by decide +kernel) (sz_p1_ok (i := 175) (by decide +kernel) (sz_p0_ok (i := 176) (by decide +kernel) (sz_ca_ok (i := 177) (a := 53) (b := 5) (by decide +kernel) rfl rfl szp_53 rfl (fun _ _ h => szm_53k h) (sz_o3_ok (i := 178) (by decide +kernel) (sz_o35_ok (i := 179) (a := 190) (b := 0) (by decide +kernel) (szb_25_190k hr hg))) (sz_t0_ok szp_25 rfl hr))))))
noncomputable def szb_25_164 (q : Nat) (ret : sz_K) (go : Nat → sz_Q) : sz_Q := sz_p2 0 0 (sz_p0 5 0 (sz_p1 8 0 (sz_p0 0 0 (sz_p0 0 0 (sz_ca 56 5 1 (szm_53 q) (sz_o3 10 0 (szb_25_190 q ret go)) (sz_t0 ret))))))
theorem szb_25_164k (hr : sz_rt ρ Q ret) (hg : ∀ t, sz_at S ρ q Q 25 t (go t)) : sz_at S ρ q Q 25 164 (szb_25_164 q ret go) := sz_p2_ok (i := 164) (by decide +kernel) (sz_p0_ok (i := 165) (by decide +kernel) (sz_p1_ok (i := 166) (by decide +kernel) (sz_p0_ok (i := 167) (by decide +kernel) (sz_p0_ok (i := 168) (by decide +kernel) (sz_ca_ok (i := 169) (a := 53) (b := 5) (by decide +kernel) rfl rfl szp_53 rfl (fun _ _ h => szm_53k h) (sz_o3_ok (i := 170) (by decide +kernel) (sz_o35_ok (i := 171) (a := 190) (b := 0) (by decide +kernel) (szb_25_190k hr hg))) (sz_t0_ok szp_25 rfl hr))))))
noncomputable def szb_25_156 (q : Nat) (ret : sz_K) (go : Nat → sz_Q) : sz_Q := sz_p2 0 0 (sz_p0 4 0 (sz_p1 8 0 (sz_p1 9 0 (sz_p0 0 0 (sz_ca 56 5 1 (szm_53 q) (sz_o3 10 0 (szb_25_190 q ret go)) (sz_t0 ret))))))
theorem szb_25_156k (hr : sz_rt ρ Q ret) (hg : ∀ t, sz_at S ρ q Q 25 t (go t)) : sz_at S ρ q Q 25 156 (szb_25_156 q ret go) := sz_p2_ok (i := 156) (by decide +kernel) (sz_p0_ok (i := 157) (by decide +kernel) (sz_p1_ok (i := 158) (by decide +kernel) (sz_p1_ok (i := 159) (by decide +kernel) (sz_p0_ok (i := 160) (by decide +kernel) (sz_ca_ok (i := 161) (a := 53) (b := 5) (by decide +kernel) rfl rfl szp_53 rfl (fun _ _ h => szm_53k h) (sz_o3_ok (i := 162) (by decide +kernel) (sz_o35_ok (i := 163) (a := 190) (b := 0) (by decide +kernel) (szb_25_190k hr hg))) (sz_t0_ok szp_25 rfl hr))))))
noncomputable def szb_25_145 (q : Nat) (ret : sz_K) (go : Nat → sz_Q) : sz_Q := sz_p2 0 0 (sz_ca 56 1 1 (szm_113 q) (sz_o6 0 0 (sz_p2 0 0 (sz_p0 3 0 (sz_p1 8 0 (sz_p1 3 0 (sz_p0 0 0 (sz_ca 56 5 1 (szm_53 q) (sz_o3 10 0 (szb_25_190 q ret go)) (sz_t0 ret)))))))) (sz_t0 ret))
theorem szb_25_145k (hr : sz_rt ρ Q ret) (hg : ∀ t, sz_at S ρ q Q 25 t (go t)) : sz_at S ρ q Q 25 145 (szb_25_145 q ret go) := sz_p2_ok (i := 145) (by decide +kernel) (sz_ca_ok (i := 146) (a := 113) (b := 1) (by decide +kernel) rfl rfl szp_113 rfl (fun _ _ h => szm_113k h) (sz_o6_ok (i := 147) (by decide +kernel) (sz_p2_ok (i := 148) (by decide +kernel) (sz_p0_ok (i := 149) (by decide +kernel) (sz_p1_ok (i := 150) (by decide +kernel) (sz_p1_ok (i := 151) (by decide +kernel) (sz_p0_ok (i := 152) (by decide +kernel) (sz_ca_ok (i := 153) (a := 53) (b := 5) (by decide +kernel) rfl rfl szp_53 rfl (fun _ _ h => szm_53k h) (sz_o3_ok (i := 154) (by decide +kernel) (sz_o35_ok (i := 155) (a := 190) (b := 0) (by decide +kernel) (szb_25_190k hr hg))) (sz_t0_ok szp_25 rfl hr)))))))) (sz_t0_ok szp_25 rfl hr))
noncomputable def szb_25_134 (q : Nat) (ret : sz_K) (go : Nat → sz_Q) : sz_Q := sz_p2 0 0 (sz_ca 56 1 1 (szm_113 q) (sz_o6 0 0 (sz_p2 0 0 (sz_p0 2 0 (sz_p1 8 0 (sz_p0 0 0 (sz_p0 0 0 (sz_ca 56 5 1 (szm_53 q) (sz_o3 10 0 (szb_25_190 q ret go)) (sz_t0 ret)))))))) (sz_t0 ret))
theorem szb_25_134k (hr : sz_rt ρ Q ret) (hg : ∀ t, sz_at S ρ q Q 25 t (go t)) : sz_at S ρ q Q 25 134 (szb_25_134 q ret go) := sz_p2_ok (i := 134) (by decide +kernel) (sz_ca_ok (i := 135) (a := 113) (b := 1) (by decide +kernel) rfl rfl szp_113 rfl (fun _ _ h => szm_113k h) (sz_o6_ok (i := 136) (by decide +kernel) (sz_p2_ok (i := 137) (by decide +kernel) (sz_p0_ok (i := 138) (by decide +kernel) (sz_p1_ok (i := 139) (by decide +kernel) (sz_p0_ok (i := 140) (by decide +kernel) (sz_p0_ok (i := 141) (by decide +kernel) (sz_ca_ok (i := 142) (a := 53) (b := 5) (by decide +kernel) rfl rfl szp_53 rfl (fun _ _ h => szm_53k h) (sz_o3_ok (i := 143) (by decide +kernel) (sz_o35_ok (i := 144) (a := 190) (b := 0) (by decide +kernel) (szb_25_190k hr hg))) (sz_t0_ok szp_25 rfl hr)))))))) (sz_t0_ok szp_25 rfl hr))
noncomputable def szb_25_123 (q : Nat) (ret : sz_K) (go : Nat → sz_Q) : sz_Q := sz_p2 0 0 (sz_ca 56 1 1 (szm_113 q) (sz_o6 0 0 (sz_p2 0 0 (sz_p0 1 0 (sz_p0 0 0 (sz_p0 0 0 (sz_p0 0 0 (sz_ca 56 5 1 (szm_53 q) (sz_o3 10 0 (szb_25_190 q ret go)) (sz_t0 ret)))))))) (sz_t0 ret))
theorem szb_25_123k (hr : sz_rt ρ Q ret) (hg : ∀ t, sz_at S ρ q Q 25 t (go t)) : sz_at S ρ q Q 25 123 (szb_25_123 q ret go) := sz_p2_ok (i := 123) (by decide +kernel) (sz_ca_ok (i := 124) (a := 113) (b := 1) (by decide +kernel) rfl rfl szp_113 rfl (fun _ _ h => szm_113k h) (sz_o6_ok (i := 125) (by decide +kernel) (sz_p2_ok (i := 126) (by decide +kernel) (sz_p0_ok (i := 127) (by decide +kernel) (sz_p0_ok (i := 128) (by decide +kernel) (sz_p0_ok (i := 129) (by decide +kernel) (sz_p0_ok (i := 130) (by decide +kernel) (sz_ca_ok (i := 131) (a := 53) (b := 5) (by decide +kernel) rfl rfl szp_53 rfl (fun _ _ h => szm_53k h) (sz_o3_ok (i := 132) (by decide +kernel) (sz_o35_ok (i := 133) (a := 190) (b := 0) (by decide +kernel) (szb_25_190k hr hg))) (sz_t0_ok szp_25 rfl hr)))))))) (sz_t0_ok szp_25 rfl hr))
noncomputable def szb_25_119 (q : Nat) (ret : sz_K) (go : Nat → sz_Q) : sz_Q := sz_p2 0 0 (sz_ca 56 1 1 (szm_55 q) (sz_o3 10 0 (szb_25_190 q ret go)) (sz_t0 ret))
theorem szb_25_119k (hr : sz_rt ρ Q ret) (hg : ∀ t, sz_at S ρ q Q 25 t (go t)) : sz_at S ρ q Q 25 119 (szb_25_119 q ret go) := sz_p2_ok (i := 119) (by decide +kernel) (sz_ca_ok (i := 120) (a := 55) (b := 1) (by decide +kernel) rfl rfl szp_55 rfl (fun _ _ h => szm_55k h) (sz_o3_ok (i := 121) (by decide +kernel) (sz_o35_ok (i := 122) (a := 190) (b := 0) (by decide +kernel) (szb_25_190k hr hg))) (sz_t0_ok szp_25 rfl hr))
noncomputable def szb_25_113 (q : Nat) (ret : sz_K) (go : Nat → sz_Q) : sz_Q := sz_o3 9 0 (sz_p2 0 0 (sz_p0 0 0 (sz_o47 1 56 (sz_p1 1 0 (sz_o36 sxc25 (36, 0, 0, 223, 41, .tableswitch (151) (0) (6) #[41, 50, 68, 87, 106, 121, 135]) 2147483648 2147483655 (fun t => bif Nat.beq t 119 then (szb_25_119 q ret go) else bif Nat.beq t 123 then (szb_25_123 q ret go) else bif Nat.beq t 134 then (szb_25_134 q ret go) else bif Nat.beq t 145 then (szb_25_145 q ret go) else bif Nat.beq t 156 then (szb_25_156 q ret go) else bif Nat.beq t 164 then (szb_25_164 q ret go) else bif Nat.beq t 172 then (szb_25_172 q ret go) else bif Nat.beq t 180 then (szb_25_180 q ret go) else sz_no))))))
theorem szb_25_113k (hr : sz_rt ρ Q ret) (hg : ∀ t, sz_at S ρ q Q 25 t (go t)) : sz_at S ρ q Q 25 113 (szb_25_113 q ret go) := sz_o3_ok (i := 113) (by decide +kernel) (sz_p2_ok (i := 114) (by decide +kernel) (sz_p0_ok (i := 115) (by decide +kernel) (sz_o47_ok (i := 116) (by decide +kernel) (sz_p1_ok (i := 117) (by decide +kernel) (sz_o36_ok (i := 118) (M := (11, 1, 1, [], sxc25)) (en := (36, 0, 0, 223, 41, .tableswitch (151) (0) (6) #[41, 50, 68, 87, 106, 121, 135])) szp_25 rfl rfl (fun t => (sz_sel_ok (szb_25_119k hr hg) (sz_sel_ok (szb_25_123k hr hg) (sz_sel_ok (szb_25_134k hr hg) (sz_sel_ok (szb_25_145k hr hg) (sz_sel_ok (szb_25_156k hr hg) (sz_sel_ok (szb_25_164k hr hg) (sz_sel_ok (szb_25_172k hr hg) (sz_sel_ok (szb_25_180k hr hg) sz_no_ok))))))))))))))
noncomputable def szb_25_112 (q : Nat) (ret : sz_K) (go : Nat → sz_Q) : sz_Q := sz_p0 0 0 (szb_25_113 q ret go)
theorem szb_25_112k (hr : sz_rt ρ Q ret) (hg : ∀ t, sz_at S ρ q Q 25 t (go t)) : sz_at S ρ q Q 25 112 (szb_25_112 q ret go) := sz_p0_ok (i := 112) (by decide +kernel) (szb_25_113k hr hg)
noncomputable def szb_25_107 (q : Nat) (ret : sz_K) (go : Nat → sz_Q) : sz_Q := sz_F38 q 0 1 14 3 (szb_25_113 q ret go)
theorem szb_25_107k (hr : sz_rt ρ Q ret) (hg : ∀ t, sz_at S ρ q Q 25 t (go t)) : sz_at S ρ q Q 25 107 (szb_25_107 q ret go) := sz_F38_ok (i := 107) (by decide +kernel) (by decide +kernel) (by decide +kernel) (by decide +kernel) (sz_o35_ok (i := 111) (a := 113) (b := 0) (by decide +kernel) (szb_25_113k hr hg))
noncomputable def szb_25_104 (q : Nat) (ret : sz_K) (go : Nat → sz_Q) : sz_Q := sz_o3 8 0 (sz_p1 5 0 (sz_p23 112 0 (szb_25_112 q ret go) (szb_25_107 q ret go)))
theorem szb_25_104k (hr : sz_rt ρ Q ret) (hg : ∀ t, sz_at S ρ q Q 25 t (go t)) : sz_at S ρ q Q 25 104 (szb_25_104 q ret go) := sz_o3_ok (i := 104) (by decide +kernel) (sz_p1_ok (i := 105) (by decide +kernel) (sz_p23_ok (i := 106) (by decide +kernel) (szb_25_112k hr hg) (szb_25_107k hr hg)))
noncomputable def szb_25_103 (q : Nat) (ret : sz_K) (go : Nat → sz_Q) : sz_Q := sz_p0 0 0 (szb_25_104 q ret go)
theorem szb_25_103k (hr : sz_rt ρ Q ret) (hg : ∀ t, sz_at S ρ q Q 25 t (go t)) : sz_at S ρ q Q 25 103 (szb_25_103 q ret go) := sz_p0_ok (i := 103) (by decide +kernel) (szb_25_104k hr hg)
noncomputable def szb_25_98 (q : Nat) (ret : sz_K) (go : Nat → sz_Q) : sz_Q := sz_F38 q 0 1 14 2 (szb_25_104 q ret go)
theorem szb_25_98k (hr : sz_rt ρ Q ret) (hg : ∀ t, sz_at S ρ q Q 25 t (go t)) : sz_at S ρ q Q 25 98 (szb_25_98 q ret go) := sz_F38_ok (i := 98) (by decide +kernel) (by decide +kernel) (by decide +kernel) (by decide +kernel) (sz_o35_ok (i := 102) (a := 104) (b := 0) (by decide +kernel) (szb_25_104k hr hg))
noncomputable def szb_25_96 (q : Nat) (ret : sz_K) (go : Nat → sz_Q) : sz_Q := sz_p1 4 0 (sz_p23 103 0 (szb_25_103 q ret go) (szb_25_98 q ret go))
theorem szb_25_96k (hr : sz_rt ρ Q ret) (hg : ∀ t, sz_at S ρ q Q 25 t (go t)) : sz_at S ρ q Q 25 96 (szb_25_96 q ret go) := sz_p1_ok (i := 96) (by decide +kernel) (sz_p23_ok (i := 97) (by decide +kernel) (szb_25_103k hr hg) (szb_25_98k hr hg))
noncomputable def szb_25_94 (q : Nat) (ret : sz_K) (go : Nat → sz_Q) : sz_Q := sz_p0 0 0 (sz_o60 1 ret)
theorem szb_25_94k (hr : sz_rt ρ Q ret) (hg : ∀ t, sz_at S ρ q Q 25 t (go t)) : sz_at S ρ q Q 25 94 (szb_25_94 q ret go) := sz_p0_ok (i := 94) (by decide +kernel) (sz_o60_ok (i := 95) (a := 0) (b := 0) szp_25 rfl (by decide +kernel) hr)
noncomputable def szb_25_90 (q : Nat) (ret : sz_K) (go : Nat → sz_Q) : sz_Q := sz_o47 1 0 (sz_F1 0 1 0 (sz_p28 96 0 (szb_25_96 q ret go) (szb_25_94 q ret go)))
theorem szb_25_90k (hr : sz_rt ρ Q ret) (hg : ∀ t, sz_at S ρ q Q 25 t (go t)) : sz_at S ρ q Q 25 90 (szb_25_90 q ret go) := sz_o47_ok (i := 90) (by decide +kernel) (sz_F1_ok (i := 91) (by decide +kernel) (by decide +kernel) (sz_p28_ok (i := 93) (by decide +kernel) (szb_25_96k hr hg) (szb_25_94k hr hg)))
noncomputable def szb_25_89 (q : Nat) (ret : sz_K) (go : Nat → sz_Q) : sz_Q := sz_p0 0 0 (szb_25_90 q ret go)
theorem szb_25_89k (hr : sz_rt ρ Q ret) (hg : ∀ t, sz_at S ρ q Q 25 t (go t)) : sz_at S ρ q Q 25 89 (szb_25_89 q ret go) := sz_p0_ok (i := 89) (by decide +kernel) (szb_25_90k hr hg)
noncomputable def szb_25_87 (q : Nat) (ret : sz_K) (go : Nat → sz_Q) : sz_Q := sz_p0 2 0 (szb_25_90 q ret go)
theorem szb_25_87k (hr : sz_rt ρ Q ret) (hg : ∀ t, sz_at S ρ q Q 25 t (go t)) : sz_at S ρ q Q 25 87 (szb_25_87 q ret go) := sz_p0_ok (i := 87) (by decide +kernel) (sz_o35_ok (i := 88) (a := 90) (b := 0) (by decide +kernel) (szb_25_90k hr hg))
noncomputable def szb_25_83 (q : Nat) (ret : sz_K) (go : Nat → sz_Q) : sz_Q := sz_F1 0 1 3 (sz_p0 300 0 (sz_p34 89 0 (szb_25_89 q ret go) (szb_25_87 q ret go)))
theorem szb_25_83k (hr : sz_rt ρ Q ret) (hg : ∀ t, sz_at S ρ q Q 25 t (go t)) : sz_at S ρ q Q 25 83 (szb_25_83 q ret go) := sz_F1_ok (i := 83) (by decide +kernel) (by decide +kernel) (sz_p0_ok (i := 85) (by decide +kernel) (sz_p34_ok (i := 86) (by decide +kernel) (szb_25_89k hr hg) (szb_25_87k hr hg)))
noncomputable def szb_25_81 (q : Nat) (ret : sz_K) (go : Nat → sz_Q) : sz_Q := sz_p1 7 0 (sz_p23 89 0 (szb_25_89 q ret go) (szb_25_83 q ret go))
theorem szb_25_81k (hr : sz_rt ρ Q ret) (hg : ∀ t, sz_at S ρ q Q 25 t (go t)) : sz_at S ρ q Q 25 81 (szb_25_81 q ret go) := sz_p1_ok (i := 81) (by decide +kernel) (sz_p23_ok (i := 82) (by decide +kernel) (szb_25_89k hr hg) (szb_25_83k hr hg))
noncomputable def szb_25_72 (q : Nat) (ret : sz_K) (go : Nat → sz_Q) : sz_Q := sz_F1 0 1 6 (sz_F38 q 0 1 14 2 (sz_p38 q 0 0 (sz_p0 5 0 (sz_p30 87 0 (szb_25_87 q ret go) (szb_25_81 q ret go)))))
theorem szb_25_72k (hr : sz_rt ρ Q ret) (hg : ∀ t, sz_at S ρ q Q 25 t (go t)) : sz_at S ρ q Q 25 72 (szb_25_72 q ret go) := sz_F1_ok (i := 72) (by decide +kernel) (by decide +kernel) (sz_F38_ok (i := 74) (by decide +kernel) (by decide +kernel) (by decide +kernel) (by decide +kernel) (sz_p38_ok (i := 78) (by decide +kernel) (sz_p0_ok (i := 79) (by decide +kernel) (sz_p30_ok (i := 80) (by decide +kernel) (szb_25_87k hr hg) (szb_25_81k hr hg)))))
noncomputable def szb_25_69 (q : Nat) (ret : sz_K) (go : Nat → sz_Q) : sz_Q := sz_p1 1 0 (sz_p0 6 0 (sz_p30 81 0 (szb_25_81 q ret go) (szb_25_72 q ret go)))
theorem szb_25_69k (hr : sz_rt ρ Q ret) (hg : ∀ t, sz_at S ρ q Q 25 t (go t)) : sz_at S ρ q Q 25 69 (szb_25_69 q ret go) := sz_p1_ok (i := 69) (by decide +kernel) (sz_p0_ok (i := 70) (by decide +kernel) (sz_p30_ok (i := 71) (by decide +kernel) (szb_25_81k hr hg) (szb_25_72k hr hg)))
noncomputable def szb_25_67 (q : Nat) (ret : sz_K) (go : Nat → sz_Q) : sz_Q := sz_p0 1 0 (szb_25_90 q ret go)
theorem szb_25_67k (hr : sz_rt ρ Q ret) (hg : ∀ t, sz_at S ρ q Q 25 t (go t)) : sz_at S ρ q Q 25 67 (szb_25_67 q ret go) := sz_p0_ok (i := 67) (by decide +kernel) (sz_o35_ok (i := 68) (a := 90) (b := 0) (by decide +kernel) (szb_25_90k hr hg))
noncomputable def szb_25_63 (q : Nat) (ret : sz_K) (go : Nat → sz_Q) : sz_Q := sz_o3 7 0 (sz_p2 0 0 (sz_p1 6 0 (sz_p23 69 0 (szb_25_69 q ret go) (szb_25_67 q ret go))))
theorem szb_25_63k (hr : sz_rt ρ Q ret) (hg : ∀ t, sz_at S ρ q Q 25 t (go t)) : sz_at S ρ q Q 25 63 (szb_25_63 q ret go) := sz_o3_ok (i := 63) (by decide +kernel) (sz_p2_ok (i := 64) (by decide +kernel) (sz_p1_ok (i := 65) (by decide +kernel) (sz_p23_ok (i := 66) (by decide +kernel) (szb_25_69k hr hg) (szb_25_67k hr hg))))
noncomputable def szb_25_62 (q : Nat) (ret : sz_K) (go : Nat → sz_Q) : sz_Q := sz_p0 0 0 (szb_25_63 q ret go)
theorem szb_25_62k (hr : sz_rt ρ Q ret) (hg : ∀ t, sz_at S ρ q Q 25 t (go t)) : sz_at S ρ q Q 25 62 (szb_25_62 q ret go) := sz_p0_ok (i := 62) (by decide +kernel) (szb_25_63k hr hg)
noncomputable def szb_25_60 (q : Nat) (ret : sz_K) (go : Nat → sz_Q) : sz_Q := sz_p0 1 0 (szb_25_63 q ret go)
theorem szb_25_60k (hr : sz_rt ρ Q ret) (hg : ∀ t, sz_at S ρ q Q 25 t (go t)) : sz_at S ρ q Q 25 60 (szb_25_60 q ret go) := sz_p0_ok (i := 60) (by decide +kernel) (sz_o35_ok (i := 61) (a := 63) (b := 0) (by decide +kernel) (szb_25_63k hr hg))
noncomputable def szb_25_57 (q : Nat) (ret : sz_K) (go : Nat → sz_Q) : sz_Q := sz_p1 1 0 (sz_p0 7 0 (sz_p30 62 0 (szb_25_62 q ret go) (szb_25_60 q ret go)))
theorem szb_25_57k (hr : sz_rt ρ Q ret) (hg : ∀ t, sz_at S ρ q Q 25 t (go t)) : sz_at S ρ q Q 25 57 (szb_25_57 q ret go) := sz_p1_ok (i := 57) (by decide +kernel) (sz_p0_ok (i := 58) (by decide +kernel) (sz_p30_ok (i := 59) (by decide +kernel) (szb_25_62k hr hg) (szb_25_60k hr hg)))
noncomputable def szb_25_54 (q : Nat) (ret : sz_K) (go : Nat → sz_Q) : sz_Q := sz_p1 1 0 (sz_p0 3 0 (sz_p29 60 0 (szb_25_60 q ret go) (szb_25_57 q ret go)))
theorem szb_25_54k (hr : sz_rt ρ Q ret) (hg : ∀ t, sz_at S ρ q Q 25 t (go t)) : sz_at S ρ q Q 25 54 (szb_25_54 q ret go) := sz_p1_ok (i := 54) (by decide +kernel) (sz_p0_ok (i := 55) (by decide +kernel) (sz_p29_ok (i := 56) (by decide +kernel) (szb_25_60k hr hg) (szb_25_57k hr hg)))
noncomputable def szb_25_51 (q : Nat) (ret : sz_K) (go : Nat → sz_Q) : sz_Q := sz_p1 1 0 (sz_p0 2 0 (sz_p29 60 0 (szb_25_60 q ret go) (szb_25_54 q ret go)))
theorem szb_25_51k (hr : sz_rt ρ Q ret) (hg : ∀ t, sz_at S ρ q Q 25 t (go t)) : sz_at S ρ q Q 25 51 (szb_25_51 q ret go) := sz_p1_ok (i := 51) (by decide +kernel) (sz_p0_ok (i := 52) (by decide +kernel) (sz_p29_ok (i := 53) (by decide +kernel) (szb_25_60k hr hg) (szb_25_54k hr hg)))
noncomputable def szb_25_47 (q : Nat) (ret : sz_K) (go : Nat → sz_Q) : sz_Q := sz_o3 6 0 (sz_p1 1 0 (sz_p0 1 0 (sz_p29 60 0 (szb_25_60 q ret go) (szb_25_51 q ret go))))
theorem szb_25_47k (hr : sz_rt ρ Q ret) (hg : ∀ t, sz_at S ρ q Q 25 t (go t)) : sz_at S ρ q Q 25 47 (szb_25_47 q ret go) := sz_o3_ok (i := 47) (by decide +kernel) (sz_p1_ok (i := 48) (by decide +kernel) (sz_p0_ok (i := 49) (by decide +kernel) (sz_p29_ok (i := 50) (by decide +kernel) (szb_25_60k hr hg) (szb_25_51k hr hg))))
noncomputable def szb_25_46 (q : Nat) (ret : sz_K) (go : Nat → sz_Q) : sz_Q := sz_p0 0 0 (szb_25_47 q ret go)
theorem szb_25_46k (hr : sz_rt ρ Q ret) (hg : ∀ t, sz_at S ρ q Q 25 t (go t)) : sz_at S ρ q Q 25 46 (szb_25_46 q ret go) := sz_p0_ok (i := 46) (by decide +kernel) (szb_25_47k hr hg)
noncomputable def szb_25_44 (q : Nat) (ret : sz_K) (go : Nat → sz_Q) : sz_Q := sz_p0 1 0 (szb_25_47 q ret go)
theorem szb_25_44k (hr : sz_rt ρ Q ret) (hg : ∀ t, sz_at S ρ q Q 25 t (go t)) : sz_at S ρ q Q 25 44 (szb_25_44 q ret go) := sz_p0_ok (i := 44) (by decide +kernel) (sz_o35_ok (i := 45) (a := 47) (b := 0) (by decide +kernel) (szb_25_47k hr hg))
noncomputable def szb_25_41 (q : Nat) (ret : sz_K) (go : Nat → sz_Q) : sz_Q := sz_p1 3 0 (sz_p0 9 0 (sz_p34 46 0 (szb_25_46 q ret go) (szb_25_44 q ret go)))
theorem szb_25_41k (hr : sz_rt ρ Q ret) (hg : ∀ t, sz_at S ρ q Q 25 t (go t)) : sz_at S ρ q Q 25 41 (szb_25_41 q ret go) := sz_p1_ok (i := 41) (by decide +kernel) (sz_p0_ok (i := 42) (by decide +kernel) (sz_p34_ok (i := 43) (by decide +kernel) (szb_25_46k hr hg) (szb_25_44k hr hg)))
noncomputable def szb_25_39 (q : Nat) (ret : sz_K) (go : Nat → sz_Q) : sz_Q := sz_p1 3 0 (sz_p25 44 0 (szb_25_44 q ret go) (szb_25_41 q ret go))
theorem szb_25_39k (hr : sz_rt ρ Q ret) (hg : ∀ t, sz_at S ρ q Q 25 t (go t)) : sz_at S ρ q Q 25 39 (szb_25_39 q ret go) := sz_p1_ok (i := 39) (by decide +kernel) (sz_p25_ok (i := 40) (by decide +kernel) (szb_25_44k hr hg) (szb_25_41k hr hg))
noncomputable def szb_25_36 (q : Nat) (ret : sz_K) (go : Nat → sz_Q) : sz_Q := sz_p1 1 0 (sz_p0 3 0 (sz_p30 46 0 (szb_25_46 q ret go) (szb_25_39 q ret go)))
theorem szb_25_36k (hr : sz_rt ρ Q ret) (hg : ∀ t, sz_at S ρ q Q 25 t (go t)) : sz_at S ρ q Q 25 36 (szb_25_36 q ret go) := sz_p1_ok (i := 36) (by decide +kernel) (sz_p0_ok (i := 37) (by decide +kernel) (sz_p30_ok (i := 38) (by decide +kernel) (szb_25_46k hr hg) (szb_25_39k hr hg)))
noncomputable def szb_25_32 (q : Nat) (ret : sz_K) (go : Nat → sz_Q) : sz_Q := sz_p2 0 0 (sz_p1 3 0 (sz_ca 56 2 1 (szm_115 q) (sz_p23 44 0 (szb_25_44 q ret go) (szb_25_36 q ret go)) (sz_t0 ret)))
theorem szb_25_32k (hr : sz_rt ρ Q ret) (hg : ∀ t, sz_at S ρ q Q 25 t (go t)) : sz_at S ρ q Q 25 32 (szb_25_32 q ret go) := sz_p2_ok (i := 32) (by decide +kernel) (sz_p1_ok (i := 33) (by decide +kernel) (sz_ca_ok (i := 34) (a := 115) (b := 2) (by decide +kernel) rfl rfl szp_115 rfl (fun _ _ h => szm_115k h) (sz_p23_ok (i := 35) (by decide +kernel) (szb_25_44k hr hg) (szb_25_36k hr hg)) (sz_t0_ok szp_25 rfl hr)))
noncomputable def szb_25_30 (q : Nat) (ret : sz_K) (go : Nat → sz_Q) : sz_Q := sz_p1 5 0 (sz_p23 36 0 (szb_25_36 q ret go) (szb_25_32 q ret go))
theorem szb_25_30k (hr : sz_rt ρ Q ret) (hg : ∀ t, sz_at S ρ q Q 25 t (go t)) : sz_at S ρ q Q 25 30 (szb_25_30 q ret go) := sz_p1_ok (i := 30) (by decide +kernel) (sz_p23_ok (i := 31) (by decide +kernel) (szb_25_36k hr hg) (szb_25_32k hr hg))
noncomputable def szb_25_26 (q : Nat) (ret : sz_K) (go : Nat → sz_Q) : sz_Q := sz_p2 0 0 (sz_p1 2 0 (sz_ca 56 2 1 (szm_115 q) (sz_p23 44 0 (szb_25_44 q ret go) (szb_25_30 q ret go)) (sz_t0 ret)))
theorem szb_25_26k (hr : sz_rt ρ Q ret) (hg : ∀ t, sz_at S ρ q Q 25 t (go t)) : sz_at S ρ q Q 25 26 (szb_25_26 q ret go) := sz_p2_ok (i := 26) (by decide +kernel) (sz_p1_ok (i := 27) (by decide +kernel) (sz_ca_ok (i := 28) (a := 115) (b := 2) (by decide +kernel) rfl rfl szp_115 rfl (fun _ _ h => szm_115k h) (sz_p23_ok (i := 29) (by decide +kernel) (szb_25_44k hr hg) (szb_25_30k hr hg)) (sz_t0_ok szp_25 rfl hr)))
noncomputable def szb_25_24 (q : Nat) (ret : sz_K) (go : Nat → sz_Q) : sz_Q := sz_p1 4 0 (sz_p23 30 0 (szb_25_30 q ret go) (szb_25_26 q ret go))
theorem szb_25_24k (hr : sz_rt ρ Q ret) (hg : ∀ t, sz_at S ρ q Q 25 t (go t)) : sz_at S ρ q Q 25 24 (szb_25_24 q ret go) := sz_p1_ok (i := 24) (by decide +kernel) (sz_p23_ok (i := 25) (by decide +kernel) (szb_25_30k hr hg) (szb_25_26k hr hg))
noncomputable def szb_25_21 (q : Nat) (ret : sz_K) (go : Nat → sz_Q) : sz_Q := sz_p1 1 0 (sz_p0 7 0 (sz_p33 44 0 (szb_25_44 q ret go) (szb_25_24 q ret go)))
theorem szb_25_21k (hr : sz_rt ρ Q ret) (hg : ∀ t, sz_at S ρ q Q 25 t (go t)) : sz_at S ρ q Q 25 21 (szb_25_21 q ret go) := sz_p1_ok (i := 21) (by decide +kernel) (sz_p0_ok (i := 22) (by decide +kernel) (sz_p33_ok (i := 23) (by decide +kernel) (szb_25_44k hr hg) (szb_25_24k hr hg)))
noncomputable def szb_25_18 (q : Nat) (ret : sz_K) (go : Nat → sz_Q) : sz_Q := sz_o3 5 0 (sz_p1 1 0 (sz_p25 44 0 (szb_25_44 q ret go) (szb_25_21 q ret go)))
theorem szb_25_18k (hr : sz_rt ρ Q ret) (hg : ∀ t, sz_at S ρ q Q 25 t (go t)) : sz_at S ρ q Q 25 18 (szb_25_18 q ret go) := sz_o3_ok (i := 18) (by decide +kernel) (sz_p1_ok (i := 19) (by decide +kernel) (sz_p25_ok (i := 20) (by decide +kernel) (szb_25_44k hr hg) (szb_25_21k hr hg)))
noncomputable def szb_25_17 (q : Nat) (ret : sz_K) (go : Nat → sz_Q) : sz_Q := sz_p0 0 0 (szb_25_18 q ret go)
theorem szb_25_17k (hr : sz_rt ρ Q ret) (hg : ∀ t, sz_at S ρ q Q 25 t (go t)) : sz_at S ρ q Q 25 17 (szb_25_17 q ret go) := sz_p0_ok (i := 17) (by decide +kernel) (szb_25_18k hr hg)
noncomputable def szb_25_15 (q : Nat) (ret : sz_K) (go : Nat → sz_Q) : sz_Q := sz_p0 1 0 (szb_25_18 q ret go)
theorem szb_25_15k (hr : sz_rt ρ Q ret) (hg : ∀ t, sz_at S ρ q Q 25 t (go t)) : sz_at S ρ q Q 25 15 (szb_25_15 q ret go) := sz_p0_ok (i := 15) (by decide +kernel) (sz_o35_ok (i := 16) (a := 18) (b := 0) (by decide +kernel) (szb_25_18k hr hg))
noncomputable def szb_25_12 (q : Nat) (ret : sz_K) (go : Nat → sz_Q) : sz_Q := sz_p1 1 0 (sz_p0 6 0 (sz_p30 17 0 (szb_25_17 q ret go) (szb_25_15 q ret go)))
theorem szb_25_12k (hr : sz_rt ρ Q ret) (hg : ∀ t, sz_at S ρ q Q 25 t (go t)) : sz_at S ρ q Q 25 12 (szb_25_12 q ret go) := sz_p1_ok (i := 12) (by decide +kernel) (sz_p0_ok (i := 13) (by decide +kernel) (sz_p30_ok (i := 14) (by decide +kernel) (szb_25_17k hr hg) (szb_25_15k hr hg)))
noncomputable def szb_25_8 (q : Nat) (ret : sz_K) (go : Nat → sz_Q) : sz_Q := sz_o3 4 0 (sz_p1 1 0 (sz_p0 4 0 (sz_p29 15 0 (szb_25_15 q ret go) (szb_25_12 q ret go))))
theorem szb_25_8k (hr : sz_rt ρ Q ret) (hg : ∀ t, sz_at S ρ q Q 25 t (go t)) : sz_at S ρ q Q 25 8 (szb_25_8 q ret go) := sz_o3_ok (i := 8) (by decide +kernel) (sz_p1_ok (i := 9) (by decide +kernel) (sz_p0_ok (i := 10) (by decide +kernel) (sz_p29_ok (i := 11) (by decide +kernel) (szb_25_15k hr hg) (szb_25_12k hr hg))))
noncomputable def szb_25_7 (q : Nat) (ret : sz_K) (go : Nat → sz_Q) : sz_Q := sz_p0 0 0 (szb_25_8 q ret go)
theorem szb_25_7k (hr : sz_rt ρ Q ret) (hg : ∀ t, sz_at S ρ q Q 25 t (go t)) : sz_at S ρ q Q 25 7 (szb_25_7 q ret go) := sz_p0_ok (i := 7) (by decide +kernel) (szb_25_8k hr hg)
noncomputable def szb_25_5 (q : Nat) (ret : sz_K) (go : Nat → sz_Q) : sz_Q := sz_p0 1 0 (szb_25_8 q ret go)
theorem szb_25_5k (hr : sz_rt ρ Q ret) (hg : ∀ t, sz_at S ρ q Q 25 t (go t)) : sz_at S ρ q Q 25 5 (szb_25_5 q ret go) := sz_p0_ok (i := 5) (by decide +kernel) (sz_o35_ok (i := 6) (a := 8) (b := 0) (by decide +kernel) (szb_25_8k hr hg))
noncomputable def szb_25_0 (q : Nat) (ret : sz_K) (go : Nat → sz_Q) : sz_Q := sz_p2 0 0 (sz_ca 56 1 1 (szi_83 q) (sz_p1 1 0 (sz_p0 1 0 (sz_p34 7 0 (szb_25_7 q ret go) (szb_25_5 q ret go)))) (sz_t0 ret))
theorem szb_25_0k (hr : sz_rt ρ Q ret) (hg : ∀ t, sz_at S ρ q Q 25 t (go t)) : sz_at S ρ q Q 25 0 (szb_25_0 q ret go) := sz_p2_ok (i := 0) (by decide +kernel) (sz_ca_ok (i := 1) (a := 83) (b := 1) (by decide +kernel) rfl rfl szp_83 rfl (fun _ _ h => szi_83k h) (sz_p1_ok (i := 2) (by decide +kernel) (sz_p0_ok (i := 3) (by decide +kernel) (sz_p34_ok (i := 4) (by decide +kernel) (szb_25_7k hr hg) (szb_25_5k hr hg)))) (sz_t0_ok szp_25 rfl hr))
noncomputable def szm_25 (q : Nat) (ret : sz_K) : sz_Q := szb_25_0 q ret sz_nog
theorem szm_25k (hr : sz_rt ρ Q ret) : sz_at S ρ q Q 25 0 (szm_25 q ret) := szb_25_0k hr sz_nog_ok
/-! KeyGroups$Member.tellAll(LKeyGroups$Terms;)V -/
theorem szp_243 : sxP 243 = some (3, 6, 0, [], sxc243) := rfl
noncomputable def szb_243_53 (q : Nat) (ret : sz_K) (go : Nat → sz_Q) : sz_Q := sz_o59 ret
theorem szb_243_53k (hr : sz_rt ρ Q ret) (hg : ∀ t, sz_at S ρ q Q 243 t (go t)) : sz_at S ρ q Q 243 53 (szb_243_53 q ret go) := sz_o59_ok (i := 53) (a := 0) (b := 0) szp_243 rfl (by decide +kernel) hr
noncomputable def szb_243_45 (q : Nat) (ret : sz_K) (go : Nat → sz_Q) : sz_Q := sz_F1 0 6 6 (sz_p0 4294967295 0 (sz_p29 53 0 (szb_243_53 q ret go) sz_no))
theorem szb_243_45k (hr : sz_rt ρ Q ret) (hg : ∀ t, sz_at S ρ q Q 243 t (go t)) : sz_at S ρ q Q 243 45 (szb_243_45 q ret go) := sz_F1_ok (i := 45) (by decide +kernel) (by decide +kernel) (sz_p0_ok (i := 47) (by decide +kernel) (sz_p29_ok (i := 48) (by decide +kernel) (szb_243_53k hr hg) sz_no_ok))
noncomputable def szb_243_38 (q : Nat) (ret : sz_K) (go : Nat → sz_Q) : sz_Q := sz_F1 0 6 3 (sz_p23 45 0 (szb_243_45 q ret go) sz_no)
theorem szb_243_38k (hr : sz_rt ρ Q ret) (hg : ∀ t, sz_at S ρ q Q 243 t (go t)) : sz_at S ρ q Q 243 38 (szb_243_38 q ret go) := sz_F1_ok (i := 38) (by decide +kernel) (by decide +kernel) (sz_p23_ok (i := 40) (by decide +kernel) (szb_243_45k hr hg) sz_no_ok)
noncomputable def szb_243_24 (q : Nat) (ret : sz_K) (go : Nat → sz_Q) : sz_Q := sz_p0 0 0 (sz_o3 2 0 (sz_p1 2 0 (sz_F1 0 6 11 (sz_p32 38 0 (szb_243_38 q ret go) sz_no))))
theorem szb_243_24k (hr : sz_rt ρ Q ret) (hg : ∀ t, sz_at S ρ q Q 243 t (go t)) : sz_at S ρ q Q 243 24 (szb_243_24 q ret go) := sz_p0_ok (i := 24) (by decide +kernel) (sz_o3_ok (i := 25) (by decide +kernel) (sz_p1_ok (i := 26) (by decide +kernel) (sz_F1_ok (i := 27) (by decide +kernel) (by decide +kernel) (sz_p32_ok (i := 29) (by decide +kernel) (szb_243_38k hr hg) sz_no_ok))))
noncomputable def szb_243_0 (q : Nat) (ret : sz_K) (go : Nat → sz_Q) : sz_Q := sz_p2 1 0 (sz_F1 0 6 1 (sz_ca 56 2 11 (szm_144 q) (sz_p0 0 0 (sz_o3 2 0 (sz_p1 2 0 (sz_F1 0 6 16 (sz_p32 24 0 (szb_243_24 q ret go) sz_no))))) (sz_t0 ret)))
theorem szb_243_0k (hr : sz_rt ρ Q ret) (hg : ∀ t, sz_at S ρ q Q 243 t (go t)) : sz_at S ρ q Q 243 0 (szb_243_0 q ret go) := sz_p2_ok (i := 0) (by decide +kernel) (sz_F1_ok (i := 1) (by decide +kernel) (by decide +kernel) (sz_ca_ok (i := 3) (a := 144) (b := 2) (by decide +kernel) rfl rfl szp_144 rfl (fun _ _ h => szm_144k h) (sz_p0_ok (i := 4) (by decide +kernel) (sz_o3_ok (i := 5) (by decide +kernel) (sz_p1_ok (i := 6) (by decide +kernel) (sz_F1_ok (i := 7) (by decide +kernel) (by decide +kernel) (sz_p32_ok (i := 9) (by decide +kernel) (szb_243_24k hr hg) sz_no_ok))))) (sz_t0_ok szp_243 rfl hr)))
noncomputable def szm_243 (q : Nat) (ret : sz_K) : sz_Q := szb_243_0 q ret sz_nog
theorem szm_243k (hr : sz_rt ρ Q ret) : sz_at S ρ q Q 243 0 (szm_243 q ret) := szb_243_0k hr sz_nog_ok
/-! KeyGroups$Terms.knownNumbers()I -/
theorem szp_142 : sxP 142 = some (3, 11, 1, [], sxc142) := rfl
noncomputable def szb_142_18 (q : Nat) (ret : sz_K) (go : Nat → sz_Q) : sz_Q := sz_p1 1 0 (sz_o60 1 ret)
theorem szb_142_18k (hr : sz_rt ρ Q ret) (hg : ∀ t, sz_at S ρ q Q 142 t (go t)) : sz_at S ρ q Q 142 18 (szb_142_18 q ret go) := sz_p1_ok (i := 18) (by decide +kernel) (sz_o60_ok (i := 19) (a := 0) (b := 0) szp_142 rfl (by decide +kernel) hr)
noncomputable def szb_142_16 (q : Nat) (ret : sz_K) (go : Nat → sz_Q) : sz_Q := sz_o5 2 1 (go 4)
theorem szb_142_16k (hr : sz_rt ρ Q ret) (hg : ∀ t, sz_at S ρ q Q 142 t (go t)) : sz_at S ρ q Q 142 16 (szb_142_16 q ret go) := sz_o5_ok (i := 16) (by decide +kernel) (sz_o35_ok (i := 17) (a := 4) (b := 0) (by decide +kernel) (hg 4))
noncomputable def szb_142_15 (q : Nat) (ret : sz_K) (go : Nat → sz_Q) : sz_Q := sz_o5 1 1 (szb_142_16 q ret go)
theorem szb_142_15k (hr : sz_rt ρ Q ret) (hg : ∀ t, sz_at S ρ q Q 142 t (go t)) : sz_at S ρ q Q 142 15 (szb_142_15 q ret go) := sz_o5_ok (i := 15) (by decide +kernel) (szb_142_16k hr hg)
noncomputable def szb_142_8 (q : Nat) (ret : sz_K) (go : Nat → sz_Q) : sz_Q := sz_p2 0 0 (sz_F38 q 0 11 6 2 (sz_ca 56 2 11 (szm_120 q) (sz_p23 16 0 (szb_142_16 q ret go) (szb_142_15 q ret go)) (sz_t0 ret)))
theorem szb_142_8k (hr : sz_rt ρ Q ret) (hg : ∀ t, sz_at S ρ q Q 142 t (go t)) : sz_at S ρ q Q 142 8 (szb_142_8 q ret go) := sz_p2_ok (i := 8) (by decide +kernel) (sz_F38_ok (i := 9) (by decide +kernel) (by decide +kernel) (by decide +kernel) (by decide +kernel) (sz_ca_ok (i := 13) (a := 120) (b := 2) (by decide +kernel) rfl rfl szp_120 rfl (fun _ _ h => szm_120k h) (sz_p23_ok (i := 14) (by decide +kernel) (szb_142_16k hr hg) (szb_142_15k hr hg)) (sz_t0_ok szp_142 rfl hr)))
noncomputable def szb_142_4 (q : Nat) (ret : sz_K) (go : Nat → sz_Q) : sz_Q := sz_p1 2 0 (sz_F1 0 11 7 (sz_p33 18 0 (szb_142_18 q ret go) (szb_142_8 q ret go)))
theorem szb_142_4k (hr : sz_rt ρ Q ret) (hg : ∀ t, sz_at S ρ q Q 142 t (go t)) : sz_at S ρ q Q 142 4 (szb_142_4 q ret go) := sz_p1_ok (i := 4) (by decide +kernel) (sz_F1_ok (i := 5) (by decide +kernel) (by decide +kernel) (sz_p33_ok (i := 7) (by decide +kernel) (szb_142_18k hr hg) (szb_142_8k hr hg)))
noncomputable def szb_142_0 (q : Nat) (ret : sz_K) (go : Nat → sz_Q) : sz_Q := sz_p0 0 0 (sz_o3 1 0 (sz_p0 1 0 (sz_o3 2 0 (szb_142_4 q ret go))))
theorem szb_142_0k (hr : sz_rt ρ Q ret) (hg : ∀ t, sz_at S ρ q Q 142 t (go t)) : sz_at S ρ q Q 142 0 (szb_142_0 q ret go) := sz_p0_ok (i := 0) (by decide +kernel) (sz_o3_ok (i := 1) (by decide +kernel) (sz_p0_ok (i := 2) (by decide +kernel) (sz_o3_ok (i := 3) (by decide +kernel) (szb_142_4k hr hg))))
noncomputable def szl_142 (q : Nat) (ret : sz_K) : Nat → sz_Q := sz_loop (fun go t => bif Nat.beq t 4 then szb_142_4 q ret go else sz_no) 1000
theorem szl_142k (hr : sz_rt ρ Q ret) (t : Nat) : sz_at S ρ q Q 142 t (szl_142 q ret t) := sz_loop_ok (fun go hg t => (sz_sel_ok (szb_142_4k hr hg) sz_no_ok)) 1000 t
noncomputable def szm_142 (q : Nat) (ret : sz_K) : sz_Q := szb_142_0 q ret (szl_142 q ret)
theorem szm_142k (hr : sz_rt ρ Q ret) : sz_at S ρ q Q 142 0 (szm_142 q ret) := szb_142_0k hr (szl_142k hr)
/-! KeyGroups.compromise(I)I -/
theorem szp_116 : sxP 116 = some (2, 0, 1, [], sxc116) := rfl
noncomputable def szb_116_0 (q : Nat) (ret : sz_K) (go : Nat → sz_Q) : sz_Q := sz_p2 0 0 (sz_p1 1 0 (sz_ca 56 2 0 (szm_151 q) (sz_F1 0 0 0 (sz_ca 56 2 6 (szm_243 q) (sz_F1 0 0 0 (sz_ca 56 1 11 (szm_142 q) (sz_o60 1 ret) (sz_t0 ret))) (sz_t0 ret))) (sz_t0 ret)))
theorem szb_116_0k (hr : sz_rt ρ Q ret) (hg : ∀ t, sz_at S ρ q Q 116 t (go t)) : sz_at S ρ q Q 116 0 (szb_116_0 q ret go) := sz_p2_ok (i := 0) (by decide +kernel) (sz_p1_ok (i := 1) (by decide +kernel) (sz_ca_ok (i := 2) (a := 151) (b := 2) (by decide +kernel) rfl rfl szp_151 rfl (fun _ _ h => szm_151k h) (sz_F1_ok (i := 3) (by decide +kernel) (by decide +kernel) (sz_ca_ok (i := 5) (a := 243) (b := 2) (by decide +kernel) rfl rfl szp_243 rfl (fun _ _ h => szm_243k h) (sz_F1_ok (i := 6) (by decide +kernel) (by decide +kernel) (sz_ca_ok (i := 8) (a := 142) (b := 1) (by decide +kernel) rfl rfl szp_142 rfl (fun _ _ h => szm_142k h) (sz_o60_ok (i := 9) (a := 0) (b := 0) szp_116 rfl (by decide +kernel) hr) (sz_t0_ok szp_116 rfl hr))) (sz_t0_ok szp_116 rfl hr))) (sz_t0_ok szp_116 rfl hr)))
noncomputable def szm_116 (q : Nat) (ret : sz_K) : sz_Q := szb_116_0 q ret sz_nog
theorem szm_116k (hr : sz_rt ρ Q ret) : sz_at S ρ q Q 116 0 (szm_116 q ret) := szb_116_0k hr sz_nog_ok
/-! KeyGroupsLaw.compromise(LKeyGroups;I[J)I -/
theorem szp_26 : sxP 26 = some (4, 999, 1, [(0, 9, 8, 13)], sxc26) := rfl
noncomputable def szb_26_11 (q : Nat) (ret : sz_K) (go : Nat → sz_Q) : sz_Q := sz_p0 0 0 (sz_o60 1 ret)
theorem szb_26_11k (hr : sz_rt ρ Q ret) (hg : ∀ t, sz_at S ρ q Q 26 t (go t)) : sz_at S ρ q Q 26 11 (szb_26_11 q ret go) := sz_p0_ok (i := 11) (by decide +kernel) (sz_o60_ok (i := 12) (a := 0) (b := 0) szp_26 rfl (by decide +kernel) hr)
noncomputable def szb_26_8 (q : Nat) (ret : sz_K) (go : Nat → sz_Q) : sz_Q := sz_o4 3 0 (sz_p0 1 0 (sz_o60 1 ret))
theorem szb_26_8k (hr : sz_rt ρ Q ret) (hg : ∀ t, sz_at S ρ q Q 26 t (go t)) : sz_at S ρ q Q 26 8 (szb_26_8 q ret go) := sz_o4_ok (i := 8) (by decide +kernel) (sz_p0_ok (i := 9) (by decide +kernel) (sz_o60_ok (i := 10) (a := 0) (b := 0) szp_26 rfl (by decide +kernel) hr))
noncomputable def szb_26_0 (q : Nat) (ret : sz_K) (go : Nat → sz_Q) : sz_Q := sz_p2 2 0 (sz_p0 0 0 (sz_p2 0 0 (sz_p1 1 0 (sz_ca 56 2 0 (szm_116 q) (sz_o20 0 0 (sz_o44 0 0 (szb_26_11 q ret go))) (sz_t1 [(0, 9, 8, 13)] 4 (fun t => bif Nat.beq t 8 then (szb_26_8 q ret go) else sz_no))))))
theorem szb_26_0k (hr : sz_rt ρ Q ret) (hg : ∀ t, sz_at S ρ q Q 26 t (go t)) : sz_at S ρ q Q 26 0 (szb_26_0 q ret go) := sz_p2_ok (i := 0) (by decide +kernel) (sz_p0_ok (i := 1) (by decide +kernel) (sz_p2_ok (i := 2) (by decide +kernel) (sz_p1_ok (i := 3) (by decide +kernel) (sz_ca_ok (i := 4) (a := 116) (b := 2) (by decide +kernel) rfl rfl szp_116 rfl (fun _ _ h => szm_116k h) (sz_o20_ok (i := 5) (by decide +kernel) (sz_o44_ok (i := 6) (by decide +kernel) (sz_o35_ok (i := 7) (a := 11) (b := 0) (by decide +kernel) (szb_26_11k hr hg)))) (sz_t1_ok (i := 4) (M := (4, 999, 1, [(0, 9, 8, 13)], sxc26)) (en := (56, 116, 2, 4, 3, .invokevirtual 45)) szp_26 rfl rfl rfl (fun t => (sz_sel_ok (szb_26_8k hr hg) sz_no_ok)))))))
noncomputable def szm_26 (q : Nat) (ret : sz_K) : sz_Q := szb_26_0 q ret sz_nog
theorem szm_26k (hr : sz_rt ρ Q ret) : sz_at S ρ q Q 26 0 (szm_26 q ret) := szb_26_0k hr sz_nog_ok
/-! KeyGroupsModel.knownTold()I -/
theorem szp_118 : sxP 118 = some (3, 1, 1, [], sxc118) := rfl
noncomputable def szb_118_26 (q : Nat) (ret : sz_K) (go : Nat → sz_Q) : sz_Q := sz_p1 1 0 (sz_o60 1 ret)
theorem szb_118_26k (hr : sz_rt ρ Q ret) (hg : ∀ t, sz_at S ρ q Q 118 t (go t)) : sz_at S ρ q Q 118 26 (szb_118_26 q ret go) := sz_p1_ok (i := 26) (by decide +kernel) (sz_o60_ok (i := 27) (a := 0) (b := 0) szp_118 rfl (by decide +kernel) hr)
noncomputable def szb_118_22 (q : Nat) (ret : sz_K) (go : Nat → sz_Q) : sz_Q := sz_p9 0 0 (sz_o3 1 0 (sz_o5 2 1 (go 6)))
theorem szb_118_22k (hr : sz_rt ρ Q ret) (hg : ∀ t, sz_at S ρ q Q 118 t (go t)) : sz_at S ρ q Q 118 22 (szb_118_22 q ret go) := sz_p9_ok (i := 22) (by decide +kernel) (sz_o3_ok (i := 23) (by decide +kernel) (sz_o5_ok (i := 24) (by decide +kernel) (sz_o35_ok (i := 25) (a := 6) (b := 0) (by decide +kernel) (hg 6))))
noncomputable def szb_118_19 (q : Nat) (ret : sz_K) (go : Nat → sz_Q) : sz_Q := sz_p0 1 0 (szb_118_22 q ret go)
theorem szb_118_19k (hr : sz_rt ρ Q ret) (hg : ∀ t, sz_at S ρ q Q 118 t (go t)) : sz_at S ρ q Q 118 19 (szb_118_19 q ret go) := sz_p0_ok (i := 19) (by decide +kernel) (sz_o35_ok (i := 20) (a := 22) (b := 0) (by decide +kernel) (szb_118_22k hr hg))
noncomputable def szb_118_10 (q : Nat) (ret : sz_K) (go : Nat → sz_Q) : sz_Q := sz_p1 1 0 (sz_F1 0 1 16 (sz_F38 q 0 1 14 2 (sz_p39 0 0 (sz_p23 21 0 sz_no (szb_118_19 q ret go)))))
theorem szb_118_10k (hr : sz_rt ρ Q ret) (hg : ∀ t, sz_at S ρ q Q 118 t (go t)) : sz_at S ρ q Q 118 10 (szb_118_10 q ret go) := sz_p1_ok (i := 10) (by decide +kernel) (sz_F1_ok (i := 11) (by decide +kernel) (by decide +kernel) (sz_F38_ok (i := 13) (by decide +kernel) (by decide +kernel) (by decide +kernel) (by decide +kernel) (sz_p39_ok (i := 17) (by decide +kernel) (sz_p23_ok (i := 18) (by decide +kernel) sz_no_ok (szb_118_19k hr hg)))))
noncomputable def szb_118_6 (q : Nat) (ret : sz_K) (go : Nat → sz_Q) : sz_Q := sz_p1 2 0 (sz_F1 0 1 18 (sz_p33 26 0 (szb_118_26 q ret go) (szb_118_10 q ret go)))
theorem szb_118_6k (hr : sz_rt ρ Q ret) (hg : ∀ t, sz_at S ρ q Q 118 t (go t)) : sz_at S ρ q Q 118 6 (szb_118_6 q ret go) := sz_p1_ok (i := 6) (by decide +kernel) (sz_F1_ok (i := 7) (by decide +kernel) (by decide +kernel) (sz_p33_ok (i := 9) (by decide +kernel) (szb_118_26k hr hg) (szb_118_10k hr hg)))
noncomputable def szb_118_0 (q : Nat) (ret : sz_K) (go : Nat → sz_Q) : sz_Q := sz_p2 0 0 (sz_ca 56 1 1 (szi_83 q) (sz_p0 0 0 (sz_o3 1 0 (sz_p0 1 0 (sz_o3 2 0 (szb_118_6 q ret go))))) (sz_t0 ret))
theorem szb_118_0k (hr : sz_rt ρ Q ret) (hg : ∀ t, sz_at S ρ q Q 118 t (go t)) : sz_at S ρ q Q 118 0 (szb_118_0 q ret go) := sz_p2_ok (i := 0) (by decide +kernel) (sz_ca_ok (i := 1) (a := 83) (b := 1) (by decide +kernel) rfl rfl szp_83 rfl (fun _ _ h => szi_83k h) (sz_p0_ok (i := 2) (by decide +kernel) (sz_o3_ok (i := 3) (by decide +kernel) (sz_p0_ok (i := 4) (by decide +kernel) (sz_o3_ok (i := 5) (by decide +kernel) (szb_118_6k hr hg))))) (sz_t0_ok szp_118 rfl hr))
noncomputable def szl_118 (q : Nat) (ret : sz_K) : Nat → sz_Q := sz_loop (fun go t => bif Nat.beq t 6 then szb_118_6 q ret go else sz_no) 1000
theorem szl_118k (hr : sz_rt ρ Q ret) (t : Nat) : sz_at S ρ q Q 118 t (szl_118 q ret t) := sz_loop_ok (fun go hg t => (sz_sel_ok (szb_118_6k hr hg) sz_no_ok)) 1000 t
noncomputable def szm_118 (q : Nat) (ret : sz_K) : sz_Q := szb_118_0 q ret (szl_118 q ret)
theorem szm_118k (hr : sz_rt ρ Q ret) : sz_at S ρ q Q 118 0 (szm_118 q ret) := szb_118_0k hr (szl_118k hr)
/-! KeyGroupsModel.compromise(I)I -/
theorem szp_27 : sxP 27 = some (3, 1, 1, [], sxc27) := rfl
noncomputable def szb_27_89 (q : Nat) (ret : sz_K) (go : Nat → sz_Q) : sz_Q := sz_p2 0 0 (sz_ca 56 1 1 (szm_118 q) (sz_o60 1 ret) (sz_t0 ret))
theorem szb_27_89k (hr : sz_rt ρ Q ret) (hg : ∀ t, sz_at S ρ q Q 27 t (go t)) : sz_at S ρ q Q 27 89 (szb_27_89 q ret go) := sz_p2_ok (i := 89) (by decide +kernel) (sz_ca_ok (i := 90) (a := 118) (b := 1) (by decide +kernel) rfl rfl szp_118 rfl (fun _ _ h => szm_118k h) (sz_o60_ok (i := 91) (a := 0) (b := 0) szp_27 rfl (by decide +kernel) hr) (sz_t0_ok szp_27 rfl hr))
noncomputable def szb_27_51 (q : Nat) (ret : sz_K) (go : Nat → sz_Q) : sz_Q := sz_F39 0 1 27 1 (sz_p23 89 0 (szb_27_89 q ret go) sz_no)
theorem szb_27_51k (hr : sz_rt ρ Q ret) (hg : ∀ t, sz_at S ρ q Q 27 t (go t)) : sz_at S ρ q Q 27 51 (szb_27_51 q ret go) := sz_F39_ok (i := 51) (by decide +kernel) (by decide +kernel) (by decide +kernel) (by decide +kernel) (sz_p23_ok (i := 55) (by decide +kernel) (szb_27_89k hr hg) sz_no_ok)
noncomputable def szb_27_15 (q : Nat) (ret : sz_K) (go : Nat → sz_Q) : sz_Q := sz_p2 0 0 (sz_F38 q 0 1 20 1 (sz_ca 56 2 1 (szm_56 q) (sz_p0 0 0 (sz_o3 2 0 (sz_p1 2 0 (sz_F38 q 0 1 45 1 (sz_p32 51 0 (szb_27_51 q ret go) sz_no))))) (sz_t0 ret)))
theorem szb_27_15k (hr : sz_rt ρ Q ret) (hg : ∀ t, sz_at S ρ q Q 27 t (go t)) : sz_at S ρ q Q 27 15 (szb_27_15 q ret go) := sz_p2_ok (i := 15) (by decide +kernel) (sz_F38_ok (i := 16) (by decide +kernel) (by decide +kernel) (by decide +kernel) (by decide +kernel) (sz_ca_ok (i := 20) (a := 56) (b := 2) (by decide +kernel) rfl rfl szp_56 rfl (fun _ _ h => szm_56k h) (sz_p0_ok (i := 21) (by decide +kernel) (sz_o3_ok (i := 22) (by decide +kernel) (sz_p1_ok (i := 23) (by decide +kernel) (sz_F38_ok (i := 24) (by decide +kernel) (by decide +kernel) (by decide +kernel) (by decide +kernel) (sz_p32_ok (i := 28) (by decide +kernel) (szb_27_51k hr hg) sz_no_ok))))) (sz_t0_ok szp_27 rfl hr)))
noncomputable def szb_27_13 (q : Nat) (ret : sz_K) (go : Nat → sz_Q) : sz_Q := sz_p0 0 0 (sz_o60 1 ret)
theorem szb_27_13k (hr : sz_rt ρ Q ret) (hg : ∀ t, sz_at S ρ q Q 27 t (go t)) : sz_at S ρ q Q 27 13 (szb_27_13 q ret go) := sz_p0_ok (i := 13) (by decide +kernel) (sz_o60_ok (i := 14) (a := 0) (b := 0) szp_27 rfl (by decide +kernel) hr)
noncomputable def szb_27_9 (q : Nat) (ret : sz_K) (go : Nat → sz_Q) : sz_Q := sz_o47 1 0 (sz_F1 0 1 0 (sz_p28 15 0 (szb_27_15 q ret go) (szb_27_13 q ret go)))
theorem szb_27_9k (hr : sz_rt ρ Q ret) (hg : ∀ t, sz_at S ρ q Q 27 t (go t)) : sz_at S ρ q Q 27 9 (szb_27_9 q ret go) := sz_o47_ok (i := 9) (by decide +kernel) (sz_F1_ok (i := 10) (by decide +kernel) (by decide +kernel) (sz_p28_ok (i := 12) (by decide +kernel) (szb_27_15k hr hg) (szb_27_13k hr hg)))
noncomputable def szb_27_8 (q : Nat) (ret : sz_K) (go : Nat → sz_Q) : sz_Q := sz_p0 0 0 (szb_27_9 q ret go)
theorem szb_27_8k (hr : sz_rt ρ Q ret) (hg : ∀ t, sz_at S ρ q Q 27 t (go t)) : sz_at S ρ q Q 27 8 (szb_27_8 q ret go) := sz_p0_ok (i := 8) (by decide +kernel) (szb_27_9k hr hg)
noncomputable def szb_27_6 (q : Nat) (ret : sz_K) (go : Nat → sz_Q) : sz_Q := sz_p0 1 0 (szb_27_9 q ret go)
theorem szb_27_6k (hr : sz_rt ρ Q ret) (hg : ∀ t, sz_at S ρ q Q 27 t (go t)) : sz_at S ρ q Q 27 6 (szb_27_6 q ret go) := sz_p0_ok (i := 6) (by decide +kernel) (sz_o35_ok (i := 7) (a := 9) (b := 0) (by decide +kernel) (szb_27_9k hr hg))
noncomputable def szb_27_3 (q : Nat) (ret : sz_K) (go : Nat → sz_Q) : sz_Q := sz_p1 1 0 (sz_p0 24 0 (sz_p31 8 0 (szb_27_8 q ret go) (szb_27_6 q ret go)))
theorem szb_27_3k (hr : sz_rt ρ Q ret) (hg : ∀ t, sz_at S ρ q Q 27 t (go t)) : sz_at S ρ q Q 27 3 (szb_27_3 q ret go) := sz_p1_ok (i := 3) (by decide +kernel) (sz_p0_ok (i := 4) (by decide +kernel) (sz_p31_ok (i := 5) (by decide +kernel) (szb_27_8k hr hg) (szb_27_6k hr hg)))
noncomputable def szb_27_0 (q : Nat) (ret : sz_K) (go : Nat → sz_Q) : sz_Q := sz_p2 0 0 (sz_p1 1 0 (sz_p25 6 0 (szb_27_6 q ret go) (szb_27_3 q ret go)))
theorem szb_27_0k (hr : sz_rt ρ Q ret) (hg : ∀ t, sz_at S ρ q Q 27 t (go t)) : sz_at S ρ q Q 27 0 (szb_27_0 q ret go) := sz_p2_ok (i := 0) (by decide +kernel) (sz_p1_ok (i := 1) (by decide +kernel) (sz_p25_ok (i := 2) (by decide +kernel) (szb_27_6k hr hg) (szb_27_3k hr hg)))
noncomputable def szm_27 (q : Nat) (ret : sz_K) : sz_Q := szb_27_0 q ret sz_nog
theorem szm_27k (hr : sz_rt ρ Q ret) : sz_at S ρ q Q 27 0 (szm_27 q ret) := szb_27_0k hr sz_nog_ok
/-! KeyGroups.isKnown(I)Z -/
theorem szp_28 : sxP 28 = some (2, 0, 2, [], sxc28) := rfl
noncomputable def szb_28_0 (q : Nat) (ret : sz_K) (go : Nat → sz_Q) : sz_Q := sz_F1 0 0 0 (sz_F1 0 0 0 (sz_p1 1 0 (sz_ca 56 2 11 (szm_119 q) (sz_ca 56 2 11 (szm_120 q) (sz_o60 2 ret) (sz_t0 ret)) (sz_t0 ret))))
theorem szb_28_0k (hr : sz_rt ρ Q ret) (hg : ∀ t, sz_at S ρ q Q 28 t (go t)) : sz_at S ρ q Q 28 0 (szb_28_0 q ret go) := sz_F1_ok (i := 0) (by decide +kernel) (by decide +kernel) (sz_F1_ok (i := 2) (by decide +kernel) (by decide +kernel) (sz_p1_ok (i := 4) (by decide +kernel) (sz_ca_ok (i := 5) (a := 119) (b := 2) (by decide +kernel) rfl rfl szp_119 rfl (fun _ _ h => szm_119k h) (sz_ca_ok (i := 6) (a := 120) (b := 2) (by decide +kernel) rfl rfl szp_120 rfl (fun _ _ h => szm_120k h) (sz_o60_ok (i := 7) (a := 0) (b := 0) szp_28 rfl (by decide +kernel) hr) (sz_t0_ok szp_28 rfl hr)) (sz_t0_ok szp_28 rfl hr))))
noncomputable def szm_28 (q : Nat) (ret : sz_K) : sz_Q := szb_28_0 q ret sz_nog
theorem szm_28k (hr : sz_rt ρ Q ret) : sz_at S ρ q Q 28 0 (szm_28 q ret) := szb_28_0k hr sz_nog_ok
/-! KeyGroupsModel.isKnown(I)Z -/
theorem szp_29 : sxP 29 = some (2, 1, 2, [], sxc29) := rfl
noncomputable def szb_29_0 (q : Nat) (ret : sz_K) (go : Nat → sz_Q) : sz_Q := sz_p2 0 0 (sz_p0 0 0 (sz_o47 1 0 (sz_p2 0 0 (sz_ca 56 1 1 (szi_83 q) (sz_p2 0 0 (sz_p1 1 0 (sz_ca 56 2 1 (szm_115 q) (sz_o60 2 ret) (sz_t0 ret)))) (sz_t0 ret)))))
theorem szb_29_0k (hr : sz_rt ρ Q ret) (hg : ∀ t, sz_at S ρ q Q 29 t (go t)) : sz_at S ρ q Q 29 0 (szb_29_0 q ret go) := sz_p2_ok (i := 0) (by decide +kernel) (sz_p0_ok (i := 1) (by decide +kernel) (sz_o47_ok (i := 2) (by decide +kernel) (sz_p2_ok (i := 3) (by decide +kernel) (sz_ca_ok (i := 4) (a := 83) (b := 1) (by decide +kernel) rfl rfl szp_83 rfl (fun _ _ h => szi_83k h) (sz_p2_ok (i := 5) (by decide +kernel) (sz_p1_ok (i := 6) (by decide +kernel) (sz_ca_ok (i := 7) (a := 115) (b := 2) (by decide +kernel) rfl rfl szp_115 rfl (fun _ _ h => szm_115k h) (sz_o60_ok (i := 8) (a := 0) (b := 0) szp_29 rfl (by decide +kernel) hr) (sz_t0_ok szp_29 rfl hr)))) (sz_t0_ok szp_29 rfl hr)))))
noncomputable def szm_29 (q : Nat) (ret : sz_K) : sz_Q := szb_29_0 q ret sz_nog
theorem szm_29k (hr : sz_rt ρ Q ret) : sz_at S ρ q Q 29 0 (szm_29 q ret) := szb_29_0k hr sz_nog_ok
/-! KeyGroups$Terms.firstOf(I)I -/
theorem szp_122 : sxP 122 = some (2, 11, 1, [], sxc122) := rfl
noncomputable def szb_122_0 (q : Nat) (ret : sz_K) (go : Nat → sz_Q) : sz_Q := sz_F1 0 11 1 (sz_p1 1 0 (sz_p0 14 0 (sz_p11 0 0 (sz_p0 1 0 (sz_p9 0 0 (sz_p38 q 0 0 (sz_o60 1 ret)))))))
theorem szb_122_0k (hr : sz_rt ρ Q ret) (hg : ∀ t, sz_at S ρ q Q 122 t (go t)) : sz_at S ρ q Q 122 0 (szb_122_0 q ret go) := sz_F1_ok (i := 0) (by decide +kernel) (by decide +kernel) (sz_p1_ok (i := 2) (by decide +kernel) (sz_p0_ok (i := 3) (by decide +kernel) (sz_p11_ok (i := 4) (by decide +kernel) (sz_p0_ok (i := 5) (by decide +kernel) (sz_p9_ok (i := 6) (by decide +kernel) (sz_p38_ok (i := 7) (by decide +kernel) (sz_o60_ok (i := 8) (a := 0) (b := 0) szp_122 rfl (by decide +kernel) hr)))))))
noncomputable def szm_122 (q : Nat) (ret : sz_K) : sz_Q := szb_122_0 q ret sz_nog
theorem szm_122k (hr : sz_rt ρ Q ret) : sz_at S ρ q Q 122 0 (szm_122 q ret) := szb_122_0k hr sz_nog_ok
/-! KeyGroups$Terms.secondOf(I)I -/
theorem szp_124 : sxP 124 = some (2, 11, 1, [], sxc124) := rfl
noncomputable def szb_124_0 (q : Nat) (ret : sz_K) (go : Nat → sz_Q) : sz_Q := sz_F1 0 11 1 (sz_p1 1 0 (sz_p0 14 0 (sz_p11 0 0 (sz_p0 2 0 (sz_p9 0 0 (sz_p38 q 0 0 (sz_o60 1 ret)))))))
theorem szb_124_0k (hr : sz_rt ρ Q ret) (hg : ∀ t, sz_at S ρ q Q 124 t (go t)) : sz_at S ρ q Q 124 0 (szb_124_0 q ret go) := sz_F1_ok (i := 0) (by decide +kernel) (by decide +kernel) (sz_p1_ok (i := 2) (by decide +kernel) (sz_p0_ok (i := 3) (by decide +kernel) (sz_p11_ok (i := 4) (by decide +kernel) (sz_p0_ok (i := 5) (by decide +kernel) (sz_p9_ok (i := 6) (by decide +kernel) (sz_p38_ok (i := 7) (by decide +kernel) (sz_o60_ok (i := 8) (a := 0) (b := 0) szp_124 rfl (by decide +kernel) hr)))))))
noncomputable def szm_124 (q : Nat) (ret : sz_K) : sz_Q := szb_124_0 q ret sz_nog
theorem szm_124k (hr : sz_rt ρ Q ret) : sz_at S ρ q Q 124 0 (szm_124 q ret) := szb_124_0k hr sz_nog_ok
/-! KeyGroups$Terms.thirdOf(I)I -/
theorem szp_125 : sxP 125 = some (2, 11, 1, [], sxc125) := rfl
noncomputable def szb_125_0 (q : Nat) (ret : sz_K) (go : Nat → sz_Q) : sz_Q := sz_F1 0 11 1 (sz_p1 1 0 (sz_p0 14 0 (sz_p11 0 0 (sz_p0 3 0 (sz_p9 0 0 (sz_p38 q 0 0 (sz_o60 1 ret)))))))
theorem szb_125_0k (hr : sz_rt ρ Q ret) (hg : ∀ t, sz_at S ρ q Q 125 t (go t)) : sz_at S ρ q Q 125 0 (szb_125_0 q ret go) := sz_F1_ok (i := 0) (by decide +kernel) (by decide +kernel) (sz_p1_ok (i := 2) (by decide +kernel) (sz_p0_ok (i := 3) (by decide +kernel) (sz_p11_ok (i := 4) (by decide +kernel) (sz_p0_ok (i := 5) (by decide +kernel) (sz_p9_ok (i := 6) (by decide +kernel) (sz_p38_ok (i := 7) (by decide +kernel) (sz_o60_ok (i := 8) (a := 0) (b := 0) szp_125 rfl (by decide +kernel) hr)))))))
noncomputable def szm_125 (q : Nat) (ret : sz_K) : sz_Q := szb_125_0 q ret sz_nog
theorem szm_125k (hr : sz_rt ρ Q ret) : sz_at S ρ q Q 125 0 (szm_125 q ret) := szb_125_0k hr sz_nog_ok
/-! KeyGroups$Terms.lengthOf(I)I -/
theorem szp_126 : sxP 126 = some (2, 11, 1, [], sxc126) := rfl
noncomputable def szb_126_0 (q : Nat) (ret : sz_K) (go : Nat → sz_Q) : sz_Q := sz_F1 0 11 1 (sz_p1 1 0 (sz_p0 14 0 (sz_p11 0 0 (sz_p0 5 0 (sz_p9 0 0 (sz_p38 q 0 0 (sz_o60 1 ret)))))))
theorem szb_126_0k (hr : sz_rt ρ Q ret) (hg : ∀ t, sz_at S ρ q Q 126 t (go t)) : sz_at S ρ q Q 126 0 (szb_126_0 q ret go) := sz_F1_ok (i := 0) (by decide +kernel) (by decide +kernel) (sz_p1_ok (i := 2) (by decide +kernel) (sz_p0_ok (i := 3) (by decide +kernel) (sz_p11_ok (i := 4) (by decide +kernel) (sz_p0_ok (i := 5) (by decide +kernel) (sz_p9_ok (i := 6) (by decide +kernel) (sz_p38_ok (i := 7) (by decide +kernel) (sz_o60_ok (i := 8) (a := 0) (b := 0) szp_126 rfl (by decide +kernel) hr)))))))
noncomputable def szm_126 (q : Nat) (ret : sz_K) : sz_Q := szb_126_0 q ret sz_nog
theorem szm_126k (hr : sz_rt ρ Q ret) : sz_at S ρ q Q 126 0 (szm_126 q ret) := szb_126_0k hr sz_nog_ok
/-! KeyGroups.term(II)I -/
theorem szp_30 : sxP 30 = some (5, 0, 1, [], sxc30) := rfl
noncomputable def szb_30_62 (q : Nat) (ret : sz_K) (go : Nat → sz_Q) : sz_Q := sz_p0 4294967295 0 (sz_o60 1 ret)
theorem szb_30_62k (hr : sz_rt ρ Q ret) (hg : ∀ t, sz_at S ρ q Q 30 t (go t)) : sz_at S ρ q Q 30 62 (szb_30_62 q ret go) := sz_p0_ok (i := 62) (by decide +kernel) (sz_o60_ok (i := 63) (a := 0) (b := 0) szp_30 rfl (by decide +kernel) hr)
noncomputable def szb_30_57 (q : Nat) (ret : sz_K) (go : Nat → sz_Q) : sz_Q := sz_F1 0 0 0 (sz_p1 3 0 (sz_ca 56 2 11 (szm_126 q) (sz_o60 1 ret) (sz_t0 ret)))
theorem szb_30_57k (hr : sz_rt ρ Q ret) (hg : ∀ t, sz_at S ρ q Q 30 t (go t)) : sz_at S ρ q Q 30 57 (szb_30_57 q ret go) := sz_F1_ok (i := 57) (by decide +kernel) (by decide +kernel) (sz_p1_ok (i := 59) (by decide +kernel) (sz_ca_ok (i := 60) (a := 126) (b := 2) (by decide +kernel) rfl rfl szp_126 rfl (fun _ _ h => szm_126k h) (sz_o60_ok (i := 61) (a := 0) (b := 0) szp_30 rfl (by decide +kernel) hr) (sz_t0_ok szp_30 rfl hr)))
noncomputable def szb_30_49 (q : Nat) (ret : sz_K) (go : Nat → sz_Q) : sz_Q := sz_F1 0 0 0 (sz_F1 0 0 0 (sz_p1 3 0 (sz_ca 56 2 11 (szm_125 q) (sz_ca 56 2 11 (szm_123 q) (sz_o60 1 ret) (sz_t0 ret)) (sz_t0 ret))))
theorem szb_30_49k (hr : sz_rt ρ Q ret) (hg : ∀ t, sz_at S ρ q Q 30 t (go t)) : sz_at S ρ q Q 30 49 (szb_30_49 q ret go) := sz_F1_ok (i := 49) (by decide +kernel) (by decide +kernel) (sz_F1_ok (i := 51) (by decide +kernel) (by decide +kernel) (sz_p1_ok (i := 53) (by decide +kernel) (sz_ca_ok (i := 54) (a := 125) (b := 2) (by decide +kernel) rfl rfl szp_125 rfl (fun _ _ h => szm_125k h) (sz_ca_ok (i := 55) (a := 123) (b := 2) (by decide +kernel) rfl rfl szp_123 rfl (fun _ _ h => szm_123k h) (sz_o60_ok (i := 56) (a := 0) (b := 0) szp_30 rfl (by decide +kernel) hr) (sz_t0_ok szp_30 rfl hr)) (sz_t0_ok szp_30 rfl hr))))
noncomputable def szb_30_41 (q : Nat) (ret : sz_K) (go : Nat → sz_Q) : sz_Q := sz_F1 0 0 0 (sz_F1 0 0 0 (sz_p1 3 0 (sz_ca 56 2 11 (szm_124 q) (sz_ca 56 2 11 (szm_123 q) (sz_o60 1 ret) (sz_t0 ret)) (sz_t0 ret))))
theorem szb_30_41k (hr : sz_rt ρ Q ret) (hg : ∀ t, sz_at S ρ q Q 30 t (go t)) : sz_at S ρ q Q 30 41 (szb_30_41 q ret go) := sz_F1_ok (i := 41) (by decide +kernel) (by decide +kernel) (sz_F1_ok (i := 43) (by decide +kernel) (by decide +kernel) (sz_p1_ok (i := 45) (by decide +kernel) (sz_ca_ok (i := 46) (a := 124) (b := 2) (by decide +kernel) rfl rfl szp_124 rfl (fun _ _ h => szm_124k h) (sz_ca_ok (i := 47) (a := 123) (b := 2) (by decide +kernel) rfl rfl szp_123 rfl (fun _ _ h => szm_123k h) (sz_o60_ok (i := 48) (a := 0) (b := 0) szp_30 rfl (by decide +kernel) hr) (sz_t0_ok szp_30 rfl hr)) (sz_t0_ok szp_30 rfl hr))))
noncomputable def szb_30_32 (q : Nat) (ret : sz_K) (go : Nat → sz_Q) : sz_Q := sz_p0 0 0 (sz_o3 4 0 (sz_p1 4 0 (sz_p23 41 0 (szb_30_41 q ret go) sz_no)))
theorem szb_30_32k (hr : sz_rt ρ Q ret) (hg : ∀ t, sz_at S ρ q Q 30 t (go t)) : sz_at S ρ q Q 30 32 (szb_30_32 q ret go) := sz_p0_ok (i := 32) (by decide +kernel) (sz_o3_ok (i := 33) (by decide +kernel) (sz_p1_ok (i := 34) (by decide +kernel) (sz_p23_ok (i := 35) (by decide +kernel) (szb_30_41k hr hg) sz_no_ok)))
noncomputable def szb_30_24 (q : Nat) (ret : sz_K) (go : Nat → sz_Q) : sz_Q := sz_F1 0 0 0 (sz_p1 3 0 (sz_ca 56 2 11 (szm_121 q) (sz_p0 3 0 (sz_p30 32 0 (szb_30_32 q ret go) sz_no)) (sz_t0 ret)))
theorem szb_30_24k (hr : sz_rt ρ Q ret) (hg : ∀ t, sz_at S ρ q Q 30 t (go t)) : sz_at S ρ q Q 30 24 (szb_30_24 q ret go) := sz_F1_ok (i := 24) (by decide +kernel) (by decide +kernel) (sz_p1_ok (i := 26) (by decide +kernel) (sz_ca_ok (i := 27) (a := 121) (b := 2) (by decide +kernel) rfl rfl szp_121 rfl (fun _ _ h => szm_121k h) (sz_p0_ok (i := 28) (by decide +kernel) (sz_p30_ok (i := 29) (by decide +kernel) (szb_30_32k hr hg) sz_no_ok)) (sz_t0_ok szp_30 rfl hr)))
noncomputable def szb_30_16 (q : Nat) (ret : sz_K) (go : Nat → sz_Q) : sz_Q := sz_F1 0 0 0 (sz_F1 0 0 0 (sz_p1 3 0 (sz_ca 56 2 11 (szm_122 q) (sz_ca 56 2 11 (szm_123 q) (sz_o60 1 ret) (sz_t0 ret)) (sz_t0 ret))))
theorem szb_30_16k (hr : sz_rt ρ Q ret) (hg : ∀ t, sz_at S ρ q Q 30 t (go t)) : sz_at S ρ q Q 30 16 (szb_30_16 q ret go) := sz_F1_ok (i := 16) (by decide +kernel) (by decide +kernel) (sz_F1_ok (i := 18) (by decide +kernel) (by decide +kernel) (sz_p1_ok (i := 20) (by decide +kernel) (sz_ca_ok (i := 21) (a := 122) (b := 2) (by decide +kernel) rfl rfl szp_122 rfl (fun _ _ h => szm_122k h) (sz_ca_ok (i := 22) (a := 123) (b := 2) (by decide +kernel) rfl rfl szp_123 rfl (fun _ _ h => szm_123k h) (sz_o60_ok (i := 23) (a := 0) (b := 0) szp_30 rfl (by decide +kernel) hr) (sz_t0_ok szp_30 rfl hr)) (sz_t0_ok szp_30 rfl hr))))
noncomputable def szb_30_11 (q : Nat) (ret : sz_K) (go : Nat → sz_Q) : sz_Q := sz_F1 0 0 0 (sz_p1 3 0 (sz_ca 56 2 11 (szm_121 q) (sz_o60 1 ret) (sz_t0 ret)))
theorem szb_30_11k (hr : sz_rt ρ Q ret) (hg : ∀ t, sz_at S ρ q Q 30 t (go t)) : sz_at S ρ q Q 30 11 (szb_30_11 q ret go) := sz_F1_ok (i := 11) (by decide +kernel) (by decide +kernel) (sz_p1_ok (i := 13) (by decide +kernel) (sz_ca_ok (i := 14) (a := 121) (b := 2) (by decide +kernel) rfl rfl szp_121 rfl (fun _ _ h => szm_121k h) (sz_o60_ok (i := 15) (a := 0) (b := 0) szp_30 rfl (by decide +kernel) hr) (sz_t0_ok szp_30 rfl hr)))
noncomputable def szb_30_9 (q : Nat) (ret : sz_K) (go : Nat → sz_Q) : sz_Q := sz_p1 2 0 (sz_o36 sxc30 (36, 0, 0, 16, 36, .tableswitch (137) (0) (4) #[36, 45, 61, 112, 128]) 2147483648 2147483653 (fun t => bif Nat.beq t 11 then (szb_30_11 q ret go) else bif Nat.beq t 16 then (szb_30_16 q ret go) else bif Nat.beq t 24 then (szb_30_24 q ret go) else bif Nat.beq t 49 then (szb_30_49 q ret go) else bif Nat.beq t 57 then (szb_30_57 q ret go) else bif Nat.beq t 62 then (szb_30_62 q ret go) else sz_no))
theorem szb_30_9k (hr : sz_rt ρ Q ret) (hg : ∀ t, sz_at S ρ q Q 30 t (go t)) : sz_at S ρ q Q 30 9 (szb_30_9 q ret go) := sz_p1_ok (i := 9) (by decide +kernel) (sz_o36_ok (i := 10) (M := (5, 0, 1, [], sxc30)) (en := (36, 0, 0, 16, 36, .tableswitch (137) (0) (4) #[36, 45, 61, 112, 128])) szp_30 rfl rfl (fun t => (sz_sel_ok (szb_30_11k hr hg) (sz_sel_ok (szb_30_16k hr hg) (sz_sel_ok (szb_30_24k hr hg) (sz_sel_ok (szb_30_49k hr hg) (sz_sel_ok (szb_30_57k hr hg) (sz_sel_ok (szb_30_62k hr hg) sz_no_ok))))))))
noncomputable def szb_30_7 (q : Nat) (ret : sz_K) (go : Nat → sz_Q) : sz_Q := sz_p0 4294967295 0 (sz_o60 1 ret)
theorem szb_30_7k (hr : sz_rt ρ Q ret) (hg : ∀ t, sz_at S ρ q Q 30 t (go t)) : sz_at S ρ q Q 30 7 (szb_30_7 q ret go) := sz_p0_ok (i := 7) (by decide +kernel) (sz_o60_ok (i := 8) (a := 0) (b := 0) szp_30 rfl (by decide +kernel) hr)
noncomputable def szb_30_0 (q : Nat) (ret : sz_K) (go : Nat → sz_Q) : sz_Q := sz_F1 0 0 0 (sz_p1 1 0 (sz_ca 56 2 11 (szm_119 q) (sz_o3 3 0 (sz_p1 3 0 (sz_p24 9 0 (szb_30_9 q ret go) (szb_30_7 q ret go)))) (sz_t0 ret)))
theorem szb_30_0k (hr : sz_rt ρ Q ret) (hg : ∀ t, sz_at S ρ q Q 30 t (go t)) : sz_at S ρ q Q 30 0 (szb_30_0 q ret go) := sz_F1_ok (i := 0) (by decide +kernel) (by decide +kernel) (sz_p1_ok (i := 2) (by decide +kernel) (sz_ca_ok (i := 3) (a := 119) (b := 2) (by decide +kernel) rfl rfl szp_119 rfl (fun _ _ h => szm_119k h) (sz_o3_ok (i := 4) (by decide +kernel) (sz_p1_ok (i := 5) (by decide +kernel) (sz_p24_ok (i := 6) (by decide +kernel) (szb_30_9k hr hg) (szb_30_7k hr hg)))) (sz_t0_ok szp_30 rfl hr)))
noncomputable def szm_30 (q : Nat) (ret : sz_K) : sz_Q := szb_30_0 q ret sz_nog
theorem szm_30k (hr : sz_rt ρ Q ret) : sz_at S ρ q Q 30 0 (szm_30 q ret) := szb_30_0k hr sz_nog_ok
/-! KeyGroupsModel.term(II)I -/
theorem szp_31 : sxP 31 = some (5, 1, 1, [], sxc31) := rfl
noncomputable def szb_31_62 (q : Nat) (ret : sz_K) (go : Nat → sz_Q) : sz_Q := sz_F38 q 0 1 11 3 (sz_o60 1 ret)
theorem szb_31_62k (hr : sz_rt ρ Q ret) (hg : ∀ t, sz_at S ρ q Q 31 t (go t)) : sz_at S ρ q Q 31 62 (szb_31_62 q ret go) := sz_F38_ok (i := 62) (by decide +kernel) (by decide +kernel) (by decide +kernel) (by decide +kernel) (sz_o60_ok (i := 66) (a := 0) (b := 0) szp_31 rfl (by decide +kernel) hr)
noncomputable def szb_31_55 (q : Nat) (ret : sz_K) (go : Nat → sz_Q) : sz_Q := sz_p2 0 0 (sz_F38 q 0 1 9 3 (sz_ca 56 2 1 (szm_54 q) (sz_o60 1 ret) (sz_t0 ret)))
theorem szb_31_55k (hr : sz_rt ρ Q ret) (hg : ∀ t, sz_at S ρ q Q 31 t (go t)) : sz_at S ρ q Q 31 55 (szb_31_55 q ret go) := sz_p2_ok (i := 55) (by decide +kernel) (sz_F38_ok (i := 56) (by decide +kernel) (by decide +kernel) (by decide +kernel) (by decide +kernel) (sz_ca_ok (i := 60) (a := 54) (b := 2) (by decide +kernel) rfl rfl szp_54 rfl (fun _ _ h => szm_54k h) (sz_o60_ok (i := 61) (a := 0) (b := 0) szp_31 rfl (by decide +kernel) hr) (sz_t0_ok szp_31 rfl hr)))
noncomputable def szb_31_48 (q : Nat) (ret : sz_K) (go : Nat → sz_Q) : sz_Q := sz_p2 0 0 (sz_F38 q 0 1 8 3 (sz_ca 56 2 1 (szm_54 q) (sz_o60 1 ret) (sz_t0 ret)))
theorem szb_31_48k (hr : sz_rt ρ Q ret) (hg : ∀ t, sz_at S ρ q Q 31 t (go t)) : sz_at S ρ q Q 31 48 (szb_31_48 q ret go) := sz_p2_ok (i := 48) (by decide +kernel) (sz_F38_ok (i := 49) (by decide +kernel) (by decide +kernel) (by decide +kernel) (by decide +kernel) (sz_ca_ok (i := 53) (a := 54) (b := 2) (by decide +kernel) rfl rfl szp_54 rfl (fun _ _ h => szm_54k h) (sz_o60_ok (i := 54) (a := 0) (b := 0) szp_31 rfl (by decide +kernel) hr) (sz_t0_ok szp_31 rfl hr)))
noncomputable def szb_31_40 (q : Nat) (ret : sz_K) (go : Nat → sz_Q) : sz_Q := sz_p1 4 0 (sz_p0 3 0 (sz_p30 48 0 (szb_31_48 q ret go) sz_no))
theorem szb_31_40k (hr : sz_rt ρ Q ret) (hg : ∀ t, sz_at S ρ q Q 31 t (go t)) : sz_at S ρ q Q 31 40 (szb_31_40 q ret go) := sz_p1_ok (i := 40) (by decide +kernel) (sz_p0_ok (i := 41) (by decide +kernel) (sz_p30_ok (i := 42) (by decide +kernel) (szb_31_48k hr hg) sz_no_ok))
noncomputable def szb_31_33 (q : Nat) (ret : sz_K) (go : Nat → sz_Q) : sz_Q := sz_p2 0 0 (sz_F38 q 0 1 7 3 (sz_ca 56 2 1 (szm_54 q) (sz_o60 1 ret) (sz_t0 ret)))
theorem szb_31_33k (hr : sz_rt ρ Q ret) (hg : ∀ t, sz_at S ρ q Q 31 t (go t)) : sz_at S ρ q Q 31 33 (szb_31_33 q ret go) := sz_p2_ok (i := 33) (by decide +kernel) (sz_F38_ok (i := 34) (by decide +kernel) (by decide +kernel) (by decide +kernel) (by decide +kernel) (sz_ca_ok (i := 38) (a := 54) (b := 2) (by decide +kernel) rfl rfl szp_54 rfl (fun _ _ h => szm_54k h) (sz_o60_ok (i := 39) (a := 0) (b := 0) szp_31 rfl (by decide +kernel) hr) (sz_t0_ok szp_31 rfl hr)))
noncomputable def szb_31_31 (q : Nat) (ret : sz_K) (go : Nat → sz_Q) : sz_Q := sz_p1 4 0 (sz_o60 1 ret)
theorem szb_31_31k (hr : sz_rt ρ Q ret) (hg : ∀ t, sz_at S ρ q Q 31 t (go t)) : sz_at S ρ q Q 31 31 (szb_31_31 q ret go) := sz_p1_ok (i := 31) (by decide +kernel) (sz_o60_ok (i := 32) (a := 0) (b := 0) szp_31 rfl (by decide +kernel) hr)
noncomputable def szb_31_26 (q : Nat) (ret : sz_K) (go : Nat → sz_Q) : sz_Q := sz_p1 4 0 (sz_p0 8 0 (sz_p30 31 0 (szb_31_31 q ret go) sz_no))
theorem szb_31_26k (hr : sz_rt ρ Q ret) (hg : ∀ t, sz_at S ρ q Q 31 t (go t)) : sz_at S ρ q Q 31 26 (szb_31_26 q ret go) := sz_p1_ok (i := 26) (by decide +kernel) (sz_p0_ok (i := 27) (by decide +kernel) (sz_p30_ok (i := 28) (by decide +kernel) (szb_31_31k hr hg) sz_no_ok))
noncomputable def szb_31_14 (q : Nat) (ret : sz_K) (go : Nat → sz_Q) : sz_Q := sz_F38 q 0 1 14 1 (sz_o3 3 0 (sz_F38 q 0 1 6 3 (sz_o3 4 0 (sz_p1 2 0 (sz_o36 sxc31 (36, 0, 0, 40, 32, .tableswitch (94) (0) (3) #[32, 46, 57, 83]) 2147483648 2147483652 (fun t => bif Nat.beq t 26 then (szb_31_26 q ret go) else bif Nat.beq t 33 then (szb_31_33 q ret go) else bif Nat.beq t 40 then (szb_31_40 q ret go) else bif Nat.beq t 55 then (szb_31_55 q ret go) else bif Nat.beq t 62 then (szb_31_62 q ret go) else sz_no))))))
theorem szb_31_14k (hr : sz_rt ρ Q ret) (hg : ∀ t, sz_at S ρ q Q 31 t (go t)) : sz_at S ρ q Q 31 14 (szb_31_14 q ret go) := sz_F38_ok (i := 14) (by decide +kernel) (by decide +kernel) (by decide +kernel) (by decide +kernel) (sz_o3_ok (i := 18) (by decide +kernel) (sz_F38_ok (i := 19) (by decide +kernel) (by decide +kernel) (by decide +kernel) (by decide +kernel) (sz_o3_ok (i := 23) (by decide +kernel) (sz_p1_ok (i := 24) (by decide +kernel) (sz_o36_ok (i := 25) (M := (5, 1, 1, [], sxc31)) (en := (36, 0, 0, 40, 32, .tableswitch (94) (0) (3) #[32, 46, 57, 83])) szp_31 rfl rfl (fun t => (sz_sel_ok (szb_31_26k hr hg) (sz_sel_ok (szb_31_33k hr hg) (sz_sel_ok (szb_31_40k hr hg) (sz_sel_ok (szb_31_55k hr hg) (sz_sel_ok (szb_31_62k hr hg) sz_no_ok)))))))))))
noncomputable def szb_31_12 (q : Nat) (ret : sz_K) (go : Nat → sz_Q) : sz_Q := sz_p0 4294967295 0 (sz_o60 1 ret)
theorem szb_31_12k (hr : sz_rt ρ Q ret) (hg : ∀ t, sz_at S ρ q Q 31 t (go t)) : sz_at S ρ q Q 31 12 (szb_31_12 q ret go) := sz_p0_ok (i := 12) (by decide +kernel) (sz_o60_ok (i := 13) (a := 0) (b := 0) szp_31 rfl (by decide +kernel) hr)
noncomputable def szb_31_9 (q : Nat) (ret : sz_K) (go : Nat → sz_Q) : sz_Q := sz_p1 2 0 (sz_p0 4 0 (sz_p34 14 0 (szb_31_14 q ret go) (szb_31_12 q ret go)))
theorem szb_31_9k (hr : sz_rt ρ Q ret) (hg : ∀ t, sz_at S ρ q Q 31 t (go t)) : sz_at S ρ q Q 31 9 (szb_31_9 q ret go) := sz_p1_ok (i := 9) (by decide +kernel) (sz_p0_ok (i := 10) (by decide +kernel) (sz_p34_ok (i := 11) (by decide +kernel) (szb_31_14k hr hg) (szb_31_12k hr hg)))
noncomputable def szb_31_7 (q : Nat) (ret : sz_K) (go : Nat → sz_Q) : sz_Q := sz_p1 2 0 (sz_p25 12 0 (szb_31_12 q ret go) (szb_31_9 q ret go))
theorem szb_31_7k (hr : sz_rt ρ Q ret) (hg : ∀ t, sz_at S ρ q Q 31 t (go t)) : sz_at S ρ q Q 31 7 (szb_31_7 q ret go) := sz_p1_ok (i := 7) (by decide +kernel) (sz_p25_ok (i := 8) (by decide +kernel) (szb_31_12k hr hg) (szb_31_9k hr hg))
noncomputable def szb_31_0 (q : Nat) (ret : sz_K) (go : Nat → sz_Q) : sz_Q := sz_p2 0 0 (sz_p0 0 0 (sz_o47 1 0 (sz_p2 0 0 (sz_p1 1 0 (sz_ca 56 2 1 (szm_61 q) (sz_p23 12 0 (szb_31_12 q ret go) (szb_31_7 q ret go)) (sz_t0 ret))))))
theorem szb_31_0k (hr : sz_rt ρ Q ret) (hg : ∀ t, sz_at S ρ q Q 31 t (go t)) : sz_at S ρ q Q 31 0 (szb_31_0 q ret go) := sz_p2_ok (i := 0) (by decide +kernel) (sz_p0_ok (i := 1) (by decide +kernel) (sz_o47_ok (i := 2) (by decide +kernel) (sz_p2_ok (i := 3) (by decide +kernel) (sz_p1_ok (i := 4) (by decide +kernel) (sz_ca_ok (i := 5) (a := 61) (b := 2) (by decide +kernel) rfl rfl szp_61 rfl (fun _ _ h => szm_61k h) (sz_p23_ok (i := 6) (by decide +kernel) (szb_31_12k hr hg) (szb_31_7k hr hg)) (sz_t0_ok szp_31 rfl hr))))))
noncomputable def szm_31 (q : Nat) (ret : sz_K) : sz_Q := szb_31_0 q ret sz_nog
theorem szm_31k (hr : sz_rt ρ Q ret) : sz_at S ρ q Q 31 0 (szm_31 q ret) := szb_31_0k hr sz_nog_ok
end
