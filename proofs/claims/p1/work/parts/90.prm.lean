noncomputable def sxCd : List Cond := sx_lg [] sxTR 0 ++ (sx_lg [] sxTR 2 ++ (sx_lg [] sxTR 5 ++ (sx_lg [] sxTR 6 ++ (sx_lg [] sxTR 7))))
theorem sxCd_mem {x : Cond} (h : x ∈ sxCd) : x ∈ sxTs := by
  unfold sxCd at h
  simp only [List.mem_append] at h
  rcases h with h | h | h | h | h <;> exact sx_lg_mem h
noncomputable def sx_inB (l : List Cond) : Bool := l.all (fun a => sxCd.any (fun b => decide (a = b)))
theorem sx_inB_ok {l : List Cond} (h : sx_inB l = true) : ∀ a ∈ l, a ∈ sxTs := fun a ha => by
  have h1 := List.all_eq_true.mp h a ha
  rw [List.any_eq_true] at h1
  obtain ⟨b, b1, b2⟩ := h1
  rw [of_decide_eq_true b2]
  exact sxCd_mem b1
theorem sx_thr_0 : sx_thr "java/lang/IndexOutOfBoundsException" := by
  refine ⟨sxwB_mem (q := (5, 144)) (by decide +kernel), sxwB_mem (q := (2, 20)) (by decide +kernel), by decide +kernel, fun own ic h a ha => ?_⟩
  unfold Bundle.ownAtoms at ha
  rcases List.mem_append.mp ha with ha | ha
  · exact sx_inB_ok (by decide +kernel) a ha
  · rcases List.mem_cons.mp ha with rfl | ha
    · exact h
    · exact sx_inB_ok (by decide +kernel) a ha
theorem sx_thr_1 : sx_thr "java/lang/IllegalStateException" := by
  refine ⟨sxwB_mem (q := (5, 225)) (by decide +kernel), sxwB_mem (q := (2, 21)) (by decide +kernel), by decide +kernel, fun own ic h a ha => ?_⟩
  unfold Bundle.ownAtoms at ha
  rcases List.mem_append.mp ha with ha | ha
  · exact sx_inB_ok (by decide +kernel) a ha
  · rcases List.mem_cons.mp ha with rfl | ha
    · exact h
    · exact sx_inB_ok (by decide +kernel) a ha
theorem sx_thr_2 : sx_thr "java/lang/IllegalArgumentException" := by
  refine ⟨sxwB_mem (q := (7, 14)) (by decide +kernel), sxwB_mem (q := (2, 23)) (by decide +kernel), by decide +kernel, fun own ic h a ha => ?_⟩
  unfold Bundle.ownAtoms at ha
  rcases List.mem_append.mp ha with ha | ha
  · exact sx_inB_ok (by decide +kernel) a ha
  · rcases List.mem_cons.mp ha with rfl | ha
    · exact h
    · exact sx_inB_ok (by decide +kernel) a ha
theorem sx_thr_ok : ∀ a z, 13 ≤ a → a ≤ 15 → sxCl[a]? = some z → sx_thr z.1 := by
  intro a z h1 h2 hz
  have h3 : a = 13 ∨ a = 14 ∨ a = 15 := by omega
  rcases h3 with rfl | rfl | rfl
  · cases hz; exact sx_thr_0
  · cases hz; exact sx_thr_1
  · cases hz; exact sx_thr_2
theorem sx_ncs_ok : sx_ncs := by
  intro a b h1 h2 h3 h4 hne
  have h5 : a = 13 ∨ a = 14 ∨ a = 15 := by omega
  have h6 : b = 13 ∨ b = 14 ∨ b = 15 := by omega
  rcases h5 with rfl | rfl | rfl <;> rcases h6 with rfl | rfl | rfl
  · exact absurd rfl hne
  · exact ⟨_, _, rfl, rfl, sxwB_mem (q := (0, 2)) (by decide +kernel)⟩
  · exact ⟨_, _, rfl, rfl, sxwB_mem (q := (0, 3)) (by decide +kernel)⟩
  · exact ⟨_, _, rfl, rfl, sxwB_mem (q := (0, 4)) (by decide +kernel)⟩
  · exact absurd rfl hne
  · exact ⟨_, _, rfl, rfl, sxwB_mem (q := (0, 5)) (by decide +kernel)⟩
  · exact ⟨_, _, rfl, rfl, sxwB_mem (q := (0, 6)) (by decide +kernel)⟩
  · exact ⟨_, _, rfl, rfl, sxwB_mem (q := (0, 7)) (by decide +kernel)⟩
  · exact absurd rfl hne
theorem sx_lk_0 : sx_ev2 (sx_l2 "KeyGroupsLaw") sxl0 0 = true := by decide +kernel
theorem sx_lk_1 : sx_ev2 (sx_l2 "KeyGroups") sxl1 0 = true := by decide +kernel
theorem sx_lk_2 : sx_ev2 (sx_l2 "KeyGroupsModel") sxl2 0 = true := by decide +kernel
theorem sx_lk_3 : sx_ev2 (sx_l2 "KeyGroups$Terms") sxl3 0 = true := by decide +kernel
theorem sx_lk_4 : sx_ev2 (sx_l2 "KeyGroups$Crypt") sxl4 0 = true := by decide +kernel
theorem sx_lk_5 : sx_ev2 (sx_l2 "KeyGroups$Reader") sxl5 0 = true := by decide +kernel
theorem sx_lk_6 : sx_ev2 (sx_l2 "KeyGroups$Changes") sxl6 0 = true := by decide +kernel
theorem sx_lk_7 : sx_ev2 (sx_l2 "KeyGroups$Path") sxl7 0 = true := by decide +kernel
theorem sx_lk_8 : sx_ev2 (sx_l2 "KeyGroups$Taker") sxl8 0 = true := by decide +kernel
theorem sx_lk_9 : sx_ev2 (sx_l2 "KeyGroups$Member") sxl9 0 = true := by decide +kernel
theorem sx_lk_10 : sx_ev2 (sx_l2 "KeyGroups$Row") sxl10 0 = true := by decide +kernel
theorem sx_lk_11 : sx_ev2 (sx_l2 "KeyGroups$Leaf") sxl11 0 = true := by decide +kernel
theorem sx_lk_12 : sx_ev2 (sx_l2 "java/util/Arrays") sxl12 0 = true := by decide +kernel
theorem sx_lk_13 : sx_ev2 (sx_l2 "java/lang/Math") sxl13 0 = true := by decide +kernel
theorem sx_lk_14 : sx_ev2 (sx_l2 "KeyGroups$Group") sxl14 0 = true := by decide +kernel
theorem sx_lk_15 : sx_ev2 (sx_l2 "KeyGroups$Tree") sxl15 0 = true := by decide +kernel
theorem sx_lk_16 : sx_ev2 (sx_l2 "java/lang/Integer") sxl16 0 = true := by decide +kernel
theorem sx_lk_ok : ∀ o, sx_ev2 (sx_l2 (sx_lg "" sxOw o)) (sxL o) 0 = true := fun o => match o with
  | 0 => sx_lk_0
  | 1 => sx_lk_1
  | 2 => sx_lk_2
  | 3 => sx_lk_3
  | 4 => sx_lk_4
  | 5 => sx_lk_5
  | 6 => sx_lk_6
  | 7 => sx_lk_7
  | 8 => sx_lk_8
  | 9 => sx_lk_9
  | 10 => sx_lk_10
  | 11 => sx_lk_11
  | 12 => sx_lk_12
  | 13 => sx_lk_13
  | 14 => sx_lk_14
  | 15 => sx_lk_15
  | 16 => sx_lk_16
  | _ + 17 => rfl
theorem sx_sw_0 : decode (sxI 0).2.1 40 = .ok (.tableswitch (1073) (0) (19) #[96, 167, 192, 248, 297, 333, 389, 469, 553, 621, 665, 745, 801, 826, 863, 900, 925, 962, 999, 1048], 96) := by decide +kernel
theorem sx_sw_1 : decode (sxI 21).2.1 70 = .ok (.tableswitch (57) (1) (4) #[30, 36, 43, 50], 30) := by decide +kernel
theorem sx_sw_2 : decode (sxI 25).2.1 223 = .ok (.tableswitch (151) (0) (6) #[41, 50, 68, 87, 106, 121, 135], 41) := by decide +kernel
theorem sx_sw_3 : decode (sxI 30).2.1 16 = .ok (.tableswitch (137) (0) (4) #[36, 45, 61, 112, 128], 36) := by decide +kernel
theorem sx_sw_4 : decode (sxI 31).2.1 40 = .ok (.tableswitch (94) (0) (3) #[32, 46, 57, 83], 32) := by decide +kernel
theorem sx_sw_5 : decode (sxI 38).2.1 17 = .ok (.tableswitch (128) (0) (12) #[67, 128, 128, 128, 128, 128, 128, 128, 80, 85, 90, 95, 109], 67) := by decide +kernel
theorem sx_sw_6 : decode (sxI 39).2.1 30 = .ok (.tableswitch (136) (0) (12) #[66, 136, 136, 136, 136, 136, 136, 136, 81, 88, 95, 102, 117], 66) := by decide +kernel
theorem sx_sw_7 : decode (sxI 39).2.1 178 = .ok (.tableswitch (97) (1) (6) #[38, 45, 52, 59, 75, 86], 38) := by decide +kernel
theorem sx_sw_8 : decode (sxI 40).2.1 51 = .ok (.tableswitch (171) (0) (5) #[37, 55, 73, 87, 138, 155], 37) := by decide +kernel
theorem sx_sw_9 : decode (sxI 41).2.1 56 = .ok (.tableswitch (126) (0) (5) #[40, 52, 64, 75, 98, 110], 40) := by decide +kernel
theorem sx_sw_10 : decode (sxI 42).2.1 1 = .ok (.tableswitch (60) (0) (3) #[31, 39, 44, 52], 31) := by decide +kernel
theorem sx_sw_11 : decode (sxI 43).2.1 6 = .ok (.tableswitch (50) (0) (3) #[30, 35, 40, 45], 30) := by decide +kernel
theorem sx_sw_12 : decode (sxI 107).2.1 50 = .ok (.tableswitch (86) (1) (3) #[26, 56, 72], 26) := by decide +kernel
theorem sx_sw_13 : decode (sxI 132).2.1 1 = .ok (.tableswitch (109) (1) (7) #[43, 48, 53, 61, 73, 85, 97], 43) := by decide +kernel
theorem sx_sw_14 : decode (sxI 167).2.1 48 = .ok (.tableswitch (60) (1) (4) #[32, 39, 46, 53], 32) := by decide +kernel
theorem sx_sw_15 : decode (sxI 175).2.1 6 = .ok (.tableswitch (163) (0) (7) #[46, 46, 48, 48, 60, 94, 106, 48], 46) := by decide +kernel
theorem sx_sw_16 : decode (sxI 242).2.1 1 = .ok (.tableswitch (128) (0) (6) #[43, 51, 128, 67, 83, 109, 83], 43) := by decide +kernel
theorem sx_sw_17 : decode (sxI 336).2.1 51 = .ok (.tableswitch (97) (0) (6) #[41, 43, 97, 97, 45, 97, 45], 41) := by decide +kernel
theorem sx_sw_ok : ∀ q ∈ sxSw, decode (sxI q.1).2.1 q.2.2.2.2.1 = .ok (q.2.2.2.2.2.2, q.2.2.2.2.2.1) := List.forall_mem_cons.mpr ⟨sx_sw_0, List.forall_mem_cons.mpr ⟨sx_sw_1, List.forall_mem_cons.mpr ⟨sx_sw_2, List.forall_mem_cons.mpr ⟨sx_sw_3, List.forall_mem_cons.mpr ⟨sx_sw_4, List.forall_mem_cons.mpr ⟨sx_sw_5, List.forall_mem_cons.mpr ⟨sx_sw_6, List.forall_mem_cons.mpr ⟨sx_sw_7, List.forall_mem_cons.mpr ⟨sx_sw_8, List.forall_mem_cons.mpr ⟨sx_sw_9, List.forall_mem_cons.mpr ⟨sx_sw_10, List.forall_mem_cons.mpr ⟨sx_sw_11, List.forall_mem_cons.mpr ⟨sx_sw_12, List.forall_mem_cons.mpr ⟨sx_sw_13, List.forall_mem_cons.mpr ⟨sx_sw_14, List.forall_mem_cons.mpr ⟨sx_sw_15, List.forall_mem_cons.mpr ⟨sx_sw_16, List.forall_mem_cons.mpr ⟨sx_sw_17, List.forall_mem_nil _⟩⟩⟩⟩⟩⟩⟩⟩⟩⟩⟩⟩⟩⟩⟩⟩⟩⟩
