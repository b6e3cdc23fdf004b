/-! ===== how many signs: trees whose unmerged leaves stand below their nodes ===== -/
noncomputable section
section
variable {T : w_T} {x y k : Nat} {z : Int}
theorem b_set_g {z : Int} {g : Nat → Nat} : ∀ k, (∀ b, b < k → w_bit z b = 1 → 2 ≤ g b) → ((List.range k).flatMap (fun l => if w_bit z l = 1 then w_b16 (l : Int) else [])).length ≤ ((List.range k).map g).sum
  | 0, _ => Nat.le_refl _
  | k + 1, h => by
    rw [List.range_succ, List.flatMap_append, List.length_append, List.map_append, List.sum_append]
    have ih := b_set_g k (fun b hb => h b (by omega))
    have : ((List.flatMap (fun l : Nat => if w_bit z l = 1 then w_b16 (l : Int) else []) [k])).length ≤ ([k].map g).sum := by
      rw [List.flatMap_cons, List.flatMap_nil, List.append_nil, List.map_cons, List.map_nil, List.sum_cons, List.sum_nil, Nat.add_zero]
      split
      · rename_i c
        exact h k (by omega) c
      · exact Nat.zero_le _
    omega
theorem b_ab_k : ∀ y : Fin 31, ((List.range 16).map (fun b => if t_ab b (w_h y.val) = y.val then 2 else 0)).sum ≤ 2 * 2 ^ w_h y.val := by decide +kernel
theorem b_set_i (hi : t_inv T) (h4 : t_dp T ≤ 4) (hy : y < t_w T) (hk : t_ky T y ≠ []) : (w_set (t_um T y)).length ≤ 2 + 2 * 2 ^ w_h y := by
  have w31 := t_w_4 h4
  unfold w_set
  rw [List.length_append]
  have e : (w_b16 (2 * w_ones (t_um T y))).length = 2 := rfl
  have a := b_set_g (z := t_um T y) (g := fun b => if t_ab b (w_h y) = y then 2 else 0) 16 (fun b hb hbit => by
    show 2 ≤ if t_ab b (w_h y) = y then 2 else 0
    rw [if_pos ((hi y hy hk b hb hbit).2.symm)]
    exact Nat.le_refl _)
  have b := b_ab_k ⟨y, by omega⟩
  have b : ((List.range 16).map (fun b => if t_ab b (w_h y) = y then 2 else 0)).sum ≤ 2 * 2 ^ w_h y := b
  omega
theorem b_nr1 {h : Nat} (hh : h ≠ 0) (hi : t_inv T) (ho : t_ok T) (hy : y < t_w T) (hl hr : Wt) : (w_nr T 0 h y hl hr).length ≤ 8 + 2 * 2 ^ w_h y := by
  unfold w_nr
  rw [if_neg hh, List.length_append, List.length_cons]
  split
  · show 1 + 1 + 2 ≤ _
    omega
  · rename_i c
    have um := ho.2.1 y hy
    rw [sw_and_m1 um.1 um.2.1, List.length_cons, List.length_cons, List.length_cons]
    have := b_set_i hi ho.1 hy c
    show _ + 2 ≤ _
    omega
theorem b_thi (hi : t_inv T) (ho : t_ok T) (hy : y < t_w T) : w_sz (w_th T 0 y) ≤ (if y % 2 = 0 then 11 else 8 + 2 * 2 ^ w_h y) := by
  by_cases c : y % 2 = 0
  · have := b_th T 0 y
    rw [if_pos c] at this ⊢
    exact this
  · rw [if_neg c]
    have w31 := t_w_4 ho.1
    have h1 := (t_h_le ho.1 hy).2 (by omega)
    obtain ⟨h, e⟩ : ∃ h, w_h y = h + 1 := ⟨w_h y - 1, by omega⟩
    unfold w_th
    rw [e]
    show w_sz (w_t 1 [] [] [] (w_nr T 0 (h + 1) y _ _)) ≤ _
    rw [b_sz]
    have := b_nr1 (T := T) (y := y) (h := h + 1) (by omega) hi ho hy (w_thh T 0 h (y - 2 ^ h)) (w_thh T 0 h (y + 2 ^ h))
    rw [e] at this
    exact this
theorem b_all_w (h4 : t_dp T ≤ 4) (hy : y ∈ b_all T) : y < t_w T := by
  have w31 := t_w_4 h4
  obtain ⟨p1, p2, p3⟩ := t_top_h h4
  have pp := Nat.two_pow_pos (w_h (t_top T))
  have := w_ordk_in ⟨t_top T, by omega⟩ p3 y hy
  have this : t_top T + 1 ≤ y + 2 ^ w_h (t_top T) ∧ y < t_top T + 2 ^ w_h (t_top T) := this
  omega
theorem b_cv_inv {S : Wt → Prop} (hi : t_inv T) (ho : t_ok T) (h : ∀ v, S v → ∃ y ∈ b_all T, v = w_th T 0 y) : b_cv S 31 424 := by
  obtain ⟨a1, _, a3⟩ := b_all_n ho.1
  exact b_cv_le (b_cv_map (b_all T) (g := fun y => if y % 2 = 0 then 11 else 8 + 2 * 2 ^ w_h y) (fun y hy => b_thi hi ho (b_all_w ho.1 hy)) h) a1 a3
/-- unmerged leaves stand below their nodes -/
def t_ui (T : w_T) : Prop := ∀ y, y < t_w T → (0 ≤ t_um T y ∧ t_um T y < 65536) ∧ (t_ky T y ≠ [] → ∀ b, b < 16 → w_bit (t_um T y) b = 1 → y = t_ab b (w_h y))
theorem t_ui_of (hi : t_inv T) (ho : t_ok T) : t_ui T := fun y hy => ⟨⟨(ho.2.1 y hy).1, (ho.2.1 y hy).2.1⟩, fun hk b hb hbit => (hi y hy hk b hb hbit).2⟩
theorem b_set_u (hi : t_ui T) (h4 : t_dp T ≤ 4) (hy : y < t_w T) (hk : t_ky T y ≠ []) : (w_set (t_um T y)).length ≤ 2 + 2 * 2 ^ w_h y := by
  have w31 := t_w_4 h4
  unfold w_set
  rw [List.length_append]
  have e : (w_b16 (2 * w_ones (t_um T y))).length = 2 := rfl
  have a := b_set_g (z := t_um T y) (g := fun b => if t_ab b (w_h y) = y then 2 else 0) 16 (fun b hb hbit => by
    show 2 ≤ if t_ab b (w_h y) = y then 2 else 0
    rw [if_pos (((hi y hy).2 hk b hb hbit).symm)]
    exact Nat.le_refl _)
  have b := b_ab_k ⟨y, by omega⟩
  have b : ((List.range 16).map (fun b => if t_ab b (w_h y) = y then 2 else 0)).sum ≤ 2 * 2 ^ w_h y := b
  omega
theorem b_nru {h : Nat} (hh : h ≠ 0) (hi : t_ui T) (h4 : t_dp T ≤ 4) (hy : y < t_w T) (hl hr : Wt) : (w_nr T 0 h y hl hr).length ≤ 8 + 2 * 2 ^ w_h y := by
  unfold w_nr
  rw [if_neg hh, List.length_append, List.length_cons]
  split
  · show 1 + 1 + 2 ≤ _
    omega
  · rename_i c
    have um := (hi y hy).1
    rw [sw_and_m1 um.1 um.2, List.length_cons, List.length_cons, List.length_cons]
    have := b_set_u hi h4 hy c
    show _ + 2 ≤ _
    omega
theorem b_thu (hi : t_ui T) (h4 : t_dp T ≤ 4) (hy : y < t_w T) : w_sz (w_th T 0 y) ≤ (if y % 2 = 0 then 11 else 8 + 2 * 2 ^ w_h y) := by
  by_cases c : y % 2 = 0
  · have := b_th T 0 y
    rw [if_pos c] at this ⊢
    exact this
  · rw [if_neg c]
    have w31 := t_w_4 h4
    have h1 := (t_h_le h4 hy).2 (by omega)
    obtain ⟨h, e⟩ : ∃ h, w_h y = h + 1 := ⟨w_h y - 1, by omega⟩
    unfold w_th
    rw [e]
    show w_sz (w_t 1 [] [] [] (w_nr T 0 (h + 1) y _ _)) ≤ _
    rw [b_sz]
    have := b_nru (T := T) (y := y) (h := h + 1) (by omega) hi h4 hy (w_thh T 0 h (y - 2 ^ h)) (w_thh T 0 h (y + 2 ^ h))
    rw [e] at this
    exact this
theorem b_cv_ui {S : Wt → Prop} (hi : t_ui T) (h4 : t_dp T ≤ 4) (h : ∀ v, S v → ∃ y ∈ b_all T, v = w_th T 0 y) : b_cv S 31 424 := by
  obtain ⟨a1, _, a3⟩ := b_all_n h4
  exact b_cv_le (b_cv_map (b_all T) (g := fun y => if y % 2 = 0 then 11 else 8 + 2 * 2 ^ w_h y) (fun y hy => b_thu hi h4 (b_all_w h4 hy)) h) a1 a3
/-- the text of a tree -/
theorem b_nw (hi : t_inv T) (ho : t_ok T) (hy : y < t_w T) : (w_nw T y).length ≤ (if y % 2 = 0 then 8 else 5 + 2 * 2 ^ w_h y) := by
  unfold w_nw
  split
  · show 1 ≤ _
    split <;> omega
  · rename_i c
    by_cases c1 : y % 2 = 0
    · rw [if_pos c1, if_pos c1, List.length_cons]
      have := b_leaf (T := T) (y / 2)
      omega
    · rw [if_neg c1, if_neg c1, List.length_cons, List.length_cons, List.length_cons]
      have := b_set_i hi ho.1 hy c
      omega
theorem b_nws_n (hi : t_inv T) (ho : t_ok T) : ∀ k, k ≤ t_w T → (w_nws T k).length ≤ ((List.range k).map (fun y => if y % 2 = 0 then 8 else 5 + 2 * 2 ^ w_h y)).sum
  | 0, _ => Nat.le_refl _
  | k + 1, hk => by
    have ih := b_nws_n hi ho k (by omega)
    have a := b_nw (y := k) hi ho (by omega)
    rw [List.range_succ, List.map_append, List.sum_append]
    show (w_nws T k ++ w_nw T k).length ≤ _
    rw [List.length_append, List.map_cons, List.map_nil, List.sum_cons, List.sum_nil, Nat.add_zero]
    omega
theorem b_nws_k : ∀ d : Fin 5, ((List.range (2 ^ (d.val + 1) - 1)).map (fun y => if y % 2 = 0 then 8 else 5 + 2 * 2 ^ w_h y)).sum ≤ 331 := by decide +kernel
theorem b_nws (hi : t_inv T) (ho : t_ok T) : (w_nws T (t_w T)).length ≤ 331 := by
  have a := b_nws_n hi ho (t_w T) (Nat.le_refl _)
  have b := b_nws_k ⟨t_dp T, by have := ho.1; omega⟩
  have b : ((List.range (t_w T)).map (fun y => if y % 2 = 0 then 8 else 5 + 2 * 2 ^ w_h y)).sum ≤ 331 := b
  omega
theorem b_inf {G : w_G} {cm : Wt} (hi : t_inv (gg_T G)) (ho : t_ok (gg_T G)) : (w_inf G cm).length ≤ 342 := by
  unfold w_inf
  have := b_nws hi ho
  rw [List.length_append, List.length_append, List.length_append, List.length_append, List.length_cons, List.length_cons]
  show 4 + (2 + 1 + 1) + (2 + _) + 1 ≤ 342
  omega
end
section
variable {c : w_Ch} {lf : Int} {L : List w_Ch}
theorem b_lfw (f : p_L) : (w_lfw f).length ≤ 7 := by
  unfold w_lfw w_lh
  split
  · exact Nat.le_refl _
  · exact (by decide : (6 : Nat) ≤ 7)
theorem b_pkw (v : Wt × p_L × Wt) : (w_pkw v).length ≤ 10 := by
  unfold w_pkw
  have := b_lfw v.2.1
  rw [List.length_cons, List.length_cons, List.length_append, List.length_singleton]
  omega
theorem b_pp1 (h2 : c.1.1 = 2 → c.2.1 ≠ lf) : (w_pp1 lf c).length ≤ (if c.1.1 = 1 then 14 else 4) := by
  have := b_lfw c.1.2.1.2.1
  unfold w_pp1
  split
  · rename_i own
    unfold w_ctw
    rw [List.length_cons]
    by_cases c1 : c.1.1 = 1
    · rw [if_pos c1, if_pos c1, List.length_cons, List.length_append, List.length_cons, List.length_cons, List.length_append, List.length_singleton]
      have : (w_b16 9).length = 2 := rfl
      omega
    · rw [if_neg c1, if_neg c1]
      rw [if_neg (fun c2 => h2 c2 own)]
      show 1 + 2 + 1 ≤ 4
      omega
  · show 2 ≤ _
    split <;> omega
theorem b_pps : ∀ L : List w_Ch, (∀ c ∈ L, c.1.1 = 2 → c.2.1 ≠ lf) → (w_pps lf L).length ≤ 4 * L.length + 10 * h_nad L
  | [], _ => Nat.le_refl _
  | c :: L, hL => by
    have ih := b_pps L (fun c hc => hL c (List.mem_cons_of_mem _ hc))
    have a := b_pp1 (lf := lf) (c := c) (hL c (List.mem_cons_self ..))
    have e : w_pps lf (c :: L) = w_pp1 lf c ++ w_pps lf L := by unfold w_pps; rw [List.flatMap_cons]
    rw [e, List.length_append, List.length_cons]
    by_cases c1 : c.1.1 = 1
    · rw [if_pos c1] at a
      have : h_nad (c :: L) = h_nad L + 1 := by unfold h_nad; simp [c1]
      omega
    · rw [if_neg c1] at a
      have : h_nad (c :: L) = h_nad L := by unfold h_nad; simp [c1]
      omega
end
end
