section SXL
variable {own : String} {idx : Nat}
theorem sx_lkB_ok (hall : sx_all) {q : Nat × Nat × Nat × Nat × Nat} (h : sx_lkB own idx q = true) : sx_ln sxg sxP own q.1 idx q.2.1 q.2.2.1 ∧ (q.1 = 70 → ∃ z, sxCl[q.2.1]? = some z ∧ Cond.classLink own idx z.1 ∈ sxTs) := by
  obtain ⟨tag, a, b, p⟩ := q
  unfold sx_lkB at h
  split at h
  · cases h
  · next z hz =>
    dsimp only at h hz
    refine ⟨⟨?_, ?_, ?_, ?_, ?_, ?_, ?_, ?_, ?_, ?_⟩, ?_⟩
    · intro ht
      dsimp only at ht
      subst ht
      exact sxwB_mem h
    · intro ht
      dsimp only at ht
      subst ht
      have h : (Nat.blt b z.2.2 && (sxwB p (.fieldLink own idx (z.2.1 b).1 (z.2.1 b).2.1 (z.2.1 b).2.2.1) || sxwB p (.fieldLinkNest own idx (z.2.1 b).1 (z.2.1 b).2.1 (z.2.1 b).2.2.1 "KeyGroups"))) = true := h
      rw [Bool.and_eq_true, Bool.or_eq_true] at h
      refine ⟨z, hz, Nat.le_of_ble_eq_true h.1, ?_⟩
      rcases h.2 with q | q
      · exact Or.inl (sxwB_mem q)
      · exact Or.inr ⟨_, sxwB_mem q⟩
    · intro ht mn
      dsimp only at ht
      subst ht
      have h : (Nat.blt (b % 1000) z.2.2 && sxwB p (.fieldLink own idx (z.2.1 (b % 1000)).1 (z.2.1 (b % 1000)).2.1 (z.2.1 (b % 1000)).2.2.1) && (match parseFieldDescriptor (z.2.1 (b % 1000)).2.2.1 with
        | some .int => Nat.beq (b / 1000) 0
        | some .boolean => Nat.beq (b / 1000) 1
        | some ty => Nat.beq (b / 1000) 2 && ty.isReference
        | none => false) && !(z.2.1 (b % 1000)).2.2.2) = true := h
      simp only [Bool.and_eq_true, Bool.not_eq_true'] at h
      obtain ⟨⟨⟨h1, h2⟩, h3⟩, h4⟩ := h
      split at h3
      · next he => exact ⟨z, .int, hz, Nat.le_of_ble_eq_true h1, sxwB_mem h2, he, Or.inl ⟨sx_pq h3, rfl⟩, fun h9 => by rw [h4] at h9; cases h9⟩
      · next he => exact ⟨z, .boolean, hz, Nat.le_of_ble_eq_true h1, sxwB_mem h2, he, Or.inr (Or.inl ⟨sx_pq h3, rfl⟩), fun h9 => by rw [h4] at h9; cases h9⟩
      · next ty _ _ he =>
        rw [Bool.and_eq_true] at h3
        exact ⟨z, ty, hz, Nat.le_of_ble_eq_true h1, sxwB_mem h2, he, Or.inr (Or.inr ⟨sx_pq h3.1, h3.2⟩), fun h9 => by rw [h4] at h9; cases h9⟩
      · cases h3
    · intro ht
      dsimp only at ht
      subst ht
      have h : (Nat.blt (b % 1000) z.2.2 && sxwB p (.fieldLink own idx (z.2.1 (b % 1000)).1 (z.2.1 (b % 1000)).2.1 (z.2.1 (b % 1000)).2.2.1) && (match parseFieldDescriptor (z.2.1 (b % 1000)).2.2.1 with
        | some .int => Nat.beq (b / 1000) 0
        | some .boolean => Nat.beq (b / 1000) 1
        | some ty => Nat.beq (b / 1000) 2 && ty.isReference
        | none => false) && decide ((z.2.1 (b % 1000)).1 = own)) = true := h
      simp only [Bool.and_eq_true, decide_eq_true_eq] at h
      obtain ⟨⟨⟨h1, h2⟩, h3⟩, h4⟩ := h
      split at h3
      · next he => exact ⟨z, .int, hz, Nat.le_of_ble_eq_true h1, sxwB_mem h2, he, Or.inl ⟨sx_pq h3, rfl⟩, fun _ => ⟨rfl, h4⟩⟩
      · next he => exact ⟨z, .boolean, hz, Nat.le_of_ble_eq_true h1, sxwB_mem h2, he, Or.inr (Or.inl ⟨sx_pq h3, rfl⟩), fun _ => ⟨rfl, h4⟩⟩
      · next ty _ _ he =>
        rw [Bool.and_eq_true] at h3
        exact ⟨z, ty, hz, Nat.le_of_ble_eq_true h1, sxwB_mem h2, he, Or.inr (Or.inr ⟨sx_pq h3.1, h3.2⟩), fun _ => ⟨rfl, h4⟩⟩
      · cases h3
    · intro ht
      dsimp only at ht
      subst ht
      have h : (sxwB p (.classLink own idx z.1) && sxwB (sxCwf a).1 (.instantiable z.1 z.2.2) && sxwB (sxCwf a).2.1 (.initialized z.1) && Nat.beq (sxD a).length z.2.2 && (sxD a).all (fun v => decide (v = .null) || decide (v = .int 0)) && (List.range z.2.2).all (fun j => match parseFieldDescriptor (z.2.1 j).2.2.1 with
        | some ty => decide (defaultValue ty = (sxD a).getD j .null)
        | none => true)) = true := h
      simp only [Bool.and_eq_true, List.all_eq_true] at h
      obtain ⟨⟨⟨⟨⟨h1, h2⟩, h3⟩, h4⟩, h5⟩, h6⟩ := h
      refine ⟨⟨z, hz, sxwB_mem h1, sxwB_mem h2, sxwB_mem h3, sx_pq h4, fun j hj ty hty => ?_⟩, fun v hv => ?_⟩
      · have h9 := h6 j (List.mem_range.mpr hj)
        rw [hty] at h9
        exact of_decide_eq_true h9
      · have h9 := h5 v hv
        rw [Bool.or_eq_true, decide_eq_true_eq, decide_eq_true_eq] at h9
        exact h9
    · intro ht
      dsimp only at ht
      subst ht
      have h : (sxwB p (.classLink own idx z.1) && sxra.contains a && sxwB (sxCwf a).2.2 (.arrayOver (.object z.1))) = true := h
      simp only [Bool.and_eq_true] at h
      exact ⟨z, hz, List.contains_iff_mem.mp h.1.2, sxwB_mem h.1.1, sxwB_mem h.2⟩
    · intro ht
      dsimp only at ht
      subst ht
      exact ⟨sxwB_mem h, hall.1⟩
    · intro ht
      dsimp only at ht
      subst ht
      exact ⟨sxwB_mem h, hall.2.1⟩
    · intro ht
      exfalso
      dsimp only at ht
      have h1 : tag = 56 ∨ tag = 57 ∨ tag = 58 := by omega
      rcases h1 with rfl | rfl | rfl <;> exact absurd h Bool.false_ne_true
    · intro ht
      exfalso
      dsimp only at ht
      subst ht
      exact absurd h Bool.false_ne_true
    · intro ht
      dsimp only at ht
      subst ht
      exact ⟨z, hz, sxwB_mem h⟩
theorem sx_lcB_ok (hcal : ∀ a N, sxP a = some N → sx_cal a N (sxM a).2.2.2.1 (sxM a).2.2.2.2.1) {q : Nat × Nat × Nat × Nat × Nat} (h : sx_lcB own idx q = true) : (56 ≤ q.1 ∧ q.1 < 59) ∧ sx_ln sxg sxP own q.1 idx q.2.1 q.2.2.1 := by
  obtain ⟨tag, a, b, p⟩ := q
  unfold sx_lcB at h
  split at h
  · cases h
  · next N hN =>
    dsimp only at h hN
    cases hc : (Nat.ble 56 tag && Nat.blt tag 59 && Nat.beq tag (sxM a).2.2.2.1 && Nat.beq b (sxM a).2.2.2.2.1) with
    | false => rw [hc] at h; cases h
    | true =>
      rw [hc] at h
      dsimp only [cond] at h
      simp only [Bool.and_eq_true] at hc
      obtain ⟨⟨⟨c1, c2⟩, c3⟩, c4⟩ := hc
      have c1 : 56 ≤ tag := Nat.le_of_ble_eq_true c1
      have c2 : tag < 59 := Nat.le_of_ble_eq_true c2
      obtain ⟨d1, d2, d3, d4, d5, d6, d7, d8⟩ := hcal a N hN
      rw [← sx_pq c3] at d6 d7 d8
      rw [← sx_pq c4] at d4 d6 d7 d8
      rw [Bool.or_eq_true] at h
      refine ⟨⟨c1, c2⟩, fun ht => ?_, fun ht => ?_, fun ht => ?_, fun ht => ?_, fun ht => ?_, fun ht => ?_, fun ht => ?_, fun ht => ?_, fun _ => ⟨N, hN, ⟨d1, d2, ?_⟩, d3, fun ht => (d6 ht).2.2.2, d4, d5⟩, fun ht => ?_⟩
      any_goals (exfalso; dsimp only at ht; omega)
      have h1 : tag = 56 ∨ tag = 57 ∨ tag = 58 := by omega
      rcases h1 with rfl | rfl | rfl
      · obtain ⟨e1, e2, e3, -⟩ := d6 rfl
        rcases h with h | h
        · exact Or.inl ⟨rfl, e1, sxwB_mem h, e2, e3⟩
        · exact absurd h (by intro h9; rw [Bool.and_eq_true] at h9; exact absurd h9.1 Bool.false_ne_true)
      · obtain ⟨e1, e2, e3, e4, e5⟩ := d7 rfl
        rcases h with h | h
        · exact Or.inr (Or.inl ⟨rfl, e1, e2, e3, e4, e5, Or.inl (sxwB_mem h)⟩)
        · rw [Bool.and_eq_true] at h
          exact Or.inr (Or.inl ⟨rfl, e1, e2, e3, e4, e5, Or.inr ⟨_, sxwB_mem h.2⟩⟩)
      · obtain ⟨e1, e2, e3⟩ := d8 rfl
        rcases h with h | h
        · exact Or.inr (Or.inr ⟨rfl, e1, sxwB_mem h, e2, e3⟩)
        · exact absurd h (by intro h9; rw [Bool.and_eq_true] at h9; exact absurd h9.1 Bool.false_ne_true)
theorem sx_ltB_ok (hthr : ∀ a z, 13 ≤ a → a ≤ 15 → sxCl[a]? = some z → sx_thr z.1) {q : Nat × Nat × Nat × Nat × Nat} (h : sx_ltB own idx q = true) : q.1 = 62 ∧ sx_ln sxg sxP own q.1 idx q.2.1 q.2.2.1 := by
  obtain ⟨tag, a, b, p⟩ := q
  unfold sx_ltB at h
  split at h
  · cases h
  · next z hz =>
    dsimp only at h hz
    simp only [Bool.and_eq_true] at h
    obtain ⟨⟨⟨⟨h1, h2, h3⟩, h4⟩, h5⟩, h6⟩ := h
    have h1 := sx_pq h1
    subst h1
    refine ⟨rfl, fun ht => ?_, fun ht => ?_, fun ht => ?_, fun ht => ?_, fun ht => ?_, fun ht => ?_, fun ht => ?_, fun ht => ?_, fun ht => ?_, fun _ => ?_⟩
    any_goals (exfalso; dsimp only at ht; omega)
    rw [List.any_eq_true] at h6
    obtain ⟨t, -, h6⟩ := h6
    simp only [Bool.and_eq_true] at h6
    obtain ⟨⟨⟨e1, e2⟩, e3⟩, e4⟩ := h6
    obtain ⟨t1, t2, t3, t4⟩ := hthr a z (Nat.le_of_ble_eq_true h2) (Nat.le_of_ble_eq_true h3) hz
    split at e3
    · next o k text hw =>
      rw [Bool.and_eq_true, decide_eq_true_eq] at e3
      refine ⟨text, z.1, ["java/lang/RuntimeException", "java/lang/Exception"], z.2.1, ?_, sxwB_mem h5, t1, t2, ?_, t3, by decide +kernel, t4 _ _ (sxwB_mem e4), rfl⟩
      · show sxCl[a]? = some (z.1, z.2.1, 0)
        rw [hz, ← sx_pq h4]
      · show Cond.stringRef own (b / 65536) text ∈ sxTs
        rw [← sx_pq e3.2, ← e3.1]
        exact sxw_mem hw
    · cases e3
/-- a class' links hold -/
noncomputable def sx_l1 (own : String) (idx : Nat) (q : Nat × Nat × Nat × Nat × Nat) : Bool := bif Nat.ble 56 q.1 && Nat.blt q.1 63 then (bif Nat.beq q.1 62 then sx_ltB own idx q else sx_lcB own idx q) else sx_lkB own idx q
noncomputable def sx_l2 (own : String) (idx : Nat) (l : List (Nat × Nat × Nat × Nat × Nat)) : Bool := l.all (sx_l1 own idx)
noncomputable def sx_K (L : List (List (List (Nat × Nat × Nat × Nat × Nat)))) (tag idx a b : Nat) : Bool := (sx_lg [] (sx_lg [] L (idx / 16)) (idx % 16)).any (fun q => Nat.beq q.1 tag && Nat.beq q.2.1 a && Nat.beq q.2.2.1 b)
theorem sx_lg_lo {α : Type} {l : List (List α)} {k : Nat} (h : sx_lg [] l k ≠ []) : sx_lo l k = some (sx_lg [] l k) := by
  induction l generalizing k with
  | nil => cases k <;> exact absurd rfl h
  | cons a l ih =>
    cases k with
    | zero => rfl
    | succ k => exact ih h
theorem sx_K_ok (hall : sx_all) (hcal : ∀ a N, sxP a = some N → sx_cal a N (sxM a).2.2.2.1 (sxM a).2.2.2.2.1) (hthr : ∀ a z, 13 ≤ a → a ≤ 15 → sxCl[a]? = some z → sx_thr z.1) {L : List (List (List (Nat × Nat × Nat × Nat × Nat)))} (hL : sx_ev2 (sx_l2 own) L 0 = true) {tag a b : Nat} (h : sx_K L tag idx a b = true) :
    sx_ln sxg sxP own tag idx a b ∧ (tag = 70 → ∃ z, sxCl[a]? = some z ∧ Cond.classLink own idx z.1 ∈ sxTs) := by
  unfold sx_K at h
  rw [List.any_eq_true] at h
  obtain ⟨q, hq, h⟩ := h
  simp only [Bool.and_eq_true] at h
  have h1 := sx_ev2_ok hL (i := idx) (sx_lg_lo (by intro h9; rw [h9] at hq; cases hq))
  have h2 := List.all_eq_true.mp h1 q hq
  rw [← sx_pq h.1.1, ← sx_pq h.1.2, ← sx_pq h.2]
  unfold sx_l1 at h2
  cases hc : (Nat.ble 56 q.1 && Nat.blt q.1 63) with
  | false => rw [hc] at h2; exact sx_lkB_ok hall h2
  | true =>
    rw [hc] at h2
    dsimp only [cond] at h2
    cases h62 : Nat.beq q.1 62 with
    | true =>
      rw [h62] at h2
      have := sx_ltB_ok hthr h2
      exact ⟨this.2, fun h9 => by omega⟩
    | false =>
      rw [h62] at h2
      have := sx_lcB_ok hcal h2
      exact ⟨this.2, fun h9 => by omega⟩
end SXL
