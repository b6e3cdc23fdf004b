/-! ===== at the law's entry: the words hold, and stay; the classes are known ===== -/
/-- the kinds of words that there are, by how they stay -/
noncomputable def sx_knd (c : Cond) : Bool := match c with
  | .stringRef _ _ _ => true
  | .fieldLinkNest _ _ _ _ _ _ => true
  | .methodLinkNest _ _ _ _ => true
  | .arrayClass _ => true
  | .arrayOver (.object _) => true
  | .laysStatic _ _ _ => true
  | .not (.castable _ _) => true
  | .isRef (.static a n d) => sx_inB [.laysStatic a n d]
  | c => c.onTables && c.keepsFace
theorem sx_knd_ok : sxTR.all (fun r => r.all sx_knd) = true := by decide +kernel
theorem sxTs_row {x : Cond} (h : x ∈ sxTs) : ∃ r, x ∈ sx_lg [] sxTR r ∧ r < sxTR.length := by
  unfold sxTs at h
  obtain ⟨l, hl, hx⟩ := List.mem_flatten.mp h
  obtain ⟨r, hr⟩ := List.getElem?_of_mem hl
  have h1 : r < sxTR.length := (List.getElem?_eq_some_iff.mp hr).1
  refine ⟨r, ?_, h1⟩
  have h2 : ∀ (L : List (List Cond)) (r : Nat), L[r]? = some l → sx_lg [] L r = l := by
    intro L
    induction L with
    | nil => intro r h9; cases r <;> cases h9
    | cons a L ih =>
      intro r h9
      cases r with
      | zero => cases h9; rfl
      | succ r => exact ih r h9
  rw [h2 _ _ hr]
  exact hx
theorem sx_stay_all {s : State} {A : Array Value} (h : ∀ x ∈ sxTs, x.before A s = true) : ∀ x ∈ sxTs, sx_stays s s.heap.size x := by
  intro x hx U a hW hq
  have hb := h x hx
  have hk : sx_knd x = true := by
    obtain ⟨l, hl, hx2⟩ := List.mem_flatten.mp hx
    exact List.all_eq_true.mp (List.all_eq_true.mp sx_knd_ok l hl) x hx2
  unfold sx_knd at hk
  split at hk
  · exact sx_st_str hW hb
  · exact sx_st_fln hW hb
  · exact sx_st_mln hW hb
  · exact word_at hW (Or.inr ⟨_, rfl⟩) hb
  · exact Cond.arrayOver_alike hW.alike hb
  · exact sx_st_ls hW hq hb
  · exact sx_st_nc hW hb
  · exact sx_st_rs hW hq (h _ (sx_inB_ok hk _ List.mem_cons_self)) hb
  · rw [Bool.and_eq_true] at hk
    exact sx_st_face hW hk.1 hk.2 hb
/-- a private method's words stand in the tables -/
noncomputable def sx_pwB (q : (MethodName × Nat) × ((Nat × Nat) × (Nat × Nat) × (Nat × Nat))) : Bool := decide (q.1.1.cls ≠ "java/lang/invoke/MethodHandle") && decide (q.1.1.cls ≠ "java/lang/invoke/VarHandle") && (Nat.ble 2 q.2.1.1 && sxwB q.2.1 (.instantiable q.1.1.cls q.1.2)) && (Nat.ble 2 q.2.2.1.1 && sxwB q.2.2.1 (.privateMethod q.1.1)) && (Nat.ble 2 q.2.2.2.1 && sxwB q.2.2.2 (.instanceMethod q.1.1))
theorem sx_pw_ok : (sxpv.zip sxpw).all sx_pwB = true := by decide +kernel
theorem sx_pw_len : sxpv.length = sxpw.length := by decide +kernel
theorem sx_lg_app : ∀ (L : List (List Cond)) (r : Nat) (x : Cond), x ∈ sx_lg [] L r → x ∈ L.flatten := fun _ _ _ h => sx_lg_mem h
/-- the rows from the second on are the tables -/
theorem sx_tab_row {r : Nat} {x : Cond} (hr : 2 ≤ r) (h : x ∈ sx_lg [] sxTR r) : x ∈ tables_1 := by
  obtain ⟨r, rfl⟩ : ∃ k, r = k + 2 := ⟨r - 2, by omega⟩
  have h1 : x ∈ sx_lg [] (sxTR.drop 2) r := h
  have h2 := sx_lg_mem h1
  have h3 : (sxTR.drop 2).flatten = tables_1 := by
    show tables_1_1 ++ (tables_1_2 ++ (tables_1_3 ++ (tables_1_4 ++ (tables_1_5 ++ (tables_1_6 ++ (tables_1_7 ++ (tables_1_8 ++ (tables_1_9 ++ (tables_1_10 ++ (tables_1_11 ++ (tables_1_12 ++ []))))))))))) = tables_1
    rw [List.append_nil]
    rfl
  rw [h3] at h2
  exact h2
theorem sxw_row {q : Nat × Nat} {x : Cond} (h : sxwB q x = true) : x ∈ sx_lg [] sxTR q.1 := by
  have h1 := of_decide_eq_true h
  unfold sxw at h1
  rw [sx_lo_eq] at h1
  exact List.mem_of_getElem? h1
theorem sx_hold {s : State} {A : Array Value} (h1 : ∀ x ∈ tables_1, x.before A s = true) (hc : (Cond.code x code maxLocals ret).before A s = true) (hg : (Jvm.Cond.and given_1 narrow_1).before A s = true) : ∀ x ∈ sxTs, x.before A s = true := by
  intro y hy
  obtain ⟨r, hr, -⟩ := sxTs_row hy
  match r, hr with
  | 0, hr =>
    have hs := flat_of_before _ hg
    have hr : y ∈ sxE := hr
    unfold sxE at hr
    simp only [List.mem_cons, List.not_mem_nil, or_false] at hr
    rcases hr with rfl | rfl | rfl | rfl | rfl | rfl | rfl | rfl | rfl
    · exact hs _ (by decide +kernel)
    · exact hs _ (by decide +kernel)
    · exact hs _ (by decide +kernel)
    · exact hs _ (by decide +kernel)
    · exact hs _ (by decide +kernel)
    · exact hs _ (by decide +kernel)
    · exact hs _ (by decide +kernel)
    · exact hs _ (by decide +kernel)
    · exact hc
  | 1, hr =>
    have hr : y ∈ k2_sels sxpv := hr
    obtain ⟨q, hq, rfl⟩ := List.mem_map.mp hr
    obtain ⟨i, hi⟩ := List.getElem?_of_mem hq
    have hil : i < sxpw.length := by rw [← sx_pw_len]; exact (List.getElem?_eq_some_iff.mp hi).1
    have hz : (sxpv.zip sxpw)[i]? = some (q, sxpw[i]) := by
      rw [List.getElem?_zip_eq_some]
      exact ⟨hi, List.getElem?_eq_getElem hil⟩
    have h9 := List.all_eq_true.mp sx_pw_ok _ (List.mem_of_getElem? hz)
    unfold sx_pwB at h9
    simp only [Bool.and_eq_true, decide_eq_true_eq] at h9
    obtain ⟨⟨⟨⟨a1, a2⟩, a3, a4⟩, a5, a6⟩, a7, a8⟩ := h9
    exact k2_selects_private ⟨a1, a2⟩ (h1 _ (sx_tab_row (Nat.le_of_ble_eq_true a3) (sxw_row a4))) (h1 _ (sx_tab_row (Nat.le_of_ble_eq_true a5) (sxw_row a6))) (h1 _ (sx_tab_row (Nat.le_of_ble_eq_true a7) (sxw_row a8)))
  | r + 2, hr => exact h1 _ (sx_tab_row (by omega) hr)
