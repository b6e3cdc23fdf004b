/-! ===== how many terms may be made: covers; trees ===== -/
noncomputable section
/-- what may be made is at most n terms, of u signs in all -/
def b_cv (S : Wt → Prop) (n u : Nat) : Prop := ∃ L : List Wt, (∀ v, S v → v ∈ L) ∧ L.length ≤ n ∧ b_tot L ≤ u
section
variable {S S1 S2 : Wt → Prop} {n u n1 u1 n2 u2 k : Nat} {w : Wt} {L : List Wt}
theorem b_cv_no (h : ∀ v, ¬ S v) : b_cv S 0 0 := ⟨[], fun v hv => absurd hv (h v), Nat.le_refl _, Nat.le_refl _⟩
theorem b_tot_1 (w : Wt) : b_tot [w] = w_sz w := by
  unfold b_tot
  rw [List.map_cons, List.sum_cons, List.map_nil, List.sum_nil, Nat.add_zero]
theorem b_cv_1 (h : ∀ v, S v → v = w) : b_cv S 1 (w_sz w) := ⟨[w], fun v hv => List.mem_singleton.mpr (h v hv), Nat.le_refl _, Nat.le_of_eq (b_tot_1 w)⟩
theorem b_cv_or (h1 : b_cv S1 n1 u1) (h2 : b_cv S2 n2 u2) (h : ∀ v, S v → S1 v ∨ S2 v) : b_cv S (n1 + n2) (u1 + u2) := by
  obtain ⟨L1, a1, a2, a3⟩ := h1
  obtain ⟨L2, b1, b2, b3⟩ := h2
  refine ⟨L1 ++ L2, fun v hv => List.mem_append.mpr ((h v hv).imp (a1 v) (b1 v)), by rw [List.length_append]; omega, by rw [b_tot_app]; omega⟩
theorem b_cv_im (h : b_cv S1 n u) (hs : ∀ v, S v → S1 v) : b_cv S n u := by
  obtain ⟨L, a1, a2, a3⟩ := h
  exact ⟨L, fun v hv => a1 v (hs v hv), a2, a3⟩
theorem b_cv_le (h : b_cv S n1 u1) (hn : n1 ≤ n) (hu : u1 ≤ u) : b_cv S n u := by
  obtain ⟨L, a1, a2, a3⟩ := h
  exact ⟨L, a1, by omega, by omega⟩
theorem b_cv_mem (L : List Wt) (h : ∀ v, S v → v ∈ L) : b_cv S L.length (b_tot L) := ⟨L, h, Nat.le_refl _, Nat.le_refl _⟩
theorem b_cv_lt {F : Nat → Wt → Prop} : ∀ k, (∀ j, j < k → b_cv (F j) n u) → b_cv (fun v => ∃ j, j < k ∧ F j v) (k * n) (k * u)
  | 0, _ => by
    rw [Nat.zero_mul, Nat.zero_mul]
    exact b_cv_no (fun v h => by obtain ⟨j, hj, _⟩ := h; omega)
  | k + 1, h => by
    have a := b_cv_lt k (fun j hj => h j (by omega))
    have b := h k (by omega)
    rw [Nat.succ_mul, Nat.succ_mul]
    refine b_cv_or a b (fun v hv => ?_)
    obtain ⟨j, hj, hf⟩ := hv
    by_cases e : j = k
    · subst e; exact Or.inr hf
    · exact Or.inl ⟨j, by omega, hf⟩
/-- a sum by places -/
theorem b_tot_map {f : Nat → Wt} {g : Nat → Nat} : ∀ (M : List Nat), (∀ y ∈ M, w_sz (f y) ≤ g y) → b_tot (M.map f) ≤ (M.map g).sum
  | [], _ => Nat.le_refl _
  | a :: M, h => by
    have ih := b_tot_map M (fun y hy => h y (List.mem_cons_of_mem _ hy))
    have ha := h a (List.mem_cons_self ..)
    unfold b_tot at ih ⊢
    rw [List.map_cons, List.map_cons, List.sum_cons, List.map_cons, List.sum_cons]
    omega
theorem b_cv_map {f : Nat → Wt} {g : Nat → Nat} (M : List Nat) (hg : ∀ y ∈ M, w_sz (f y) ≤ g y) (h : ∀ v, S v → ∃ y ∈ M, v = f y) : b_cv S M.length ((M.map g).sum) := ⟨M.map f, fun v hv => by
  obtain ⟨y, hy, e⟩ := h v hv
  exact List.mem_map.mpr ⟨y, hy, e.symm⟩, Nat.le_of_eq (List.length_map ..), b_tot_map M hg⟩
end
section
variable {T A B : w_T} {l k n m nn x y : Nat} {kf : Nat → Wt} {C : Nat → Int} {wo : Int} {f : p_L} {v : Wt}
theorem b_sz (s : Nat) (a b c : Wt) (L : List Wt) : w_sz (w_t s a b c L) = L.length := w_sz_mk s a b c L
theorem b_set_n (z : Int) : ∀ k, ((List.range k).flatMap (fun l => if w_bit z l = 1 then w_b16 (l : Int) else [])).length ≤ 2 * k
  | 0 => Nat.le_refl _
  | k + 1 => by
    rw [List.range_succ, List.flatMap_append, List.length_append]
    have ih := b_set_n z k
    have : ((List.flatMap (fun l : Nat => if w_bit z l = 1 then w_b16 (l : Int) else []) [k])).length ≤ 2 := by
      rw [List.flatMap_cons, List.flatMap_nil, List.append_nil]
      split
      · exact Nat.le_refl _
      · exact Nat.zero_le _
    omega
theorem b_set (z : Int) : (w_set z).length ≤ 34 := by
  unfold w_set
  rw [List.length_append]
  have := b_set_n z 16
  have : (w_b16 (2 * w_ones z)).length = 2 := rfl
  omega
theorem b_leaf (k : Nat) : (w_leaf T k).length ≤ 7 := by
  unfold w_leaf
  split
  · exact Nat.le_refl _
  · exact (by decide : (6 : Nat) ≤ 7)
theorem b_nr0 (hl hr : Wt) : (w_nr T wo 0 x hl hr).length ≤ 11 := by
  unfold w_nr
  rw [if_pos rfl]
  split
  · have := b_leaf (T := T) (x / 2)
    rw [List.length_append, List.length_cons, List.length_cons]
    have : (w_b16 ((x / 2 : Nat) : Int)).length = 2 := rfl
    omega
  · exact (by decide : (4 : Nat) ≤ 11)
theorem b_nrs {h : Nat} (hh : h ≠ 0) (hl hr : Wt) : (w_nr T wo h x hl hr).length ≤ 6 + (w_set (sw_and (t_um T x) (sw_xor wo (-1)))).length := by
  unfold w_nr
  rw [if_neg hh, List.length_append, List.length_cons]
  split
  · show 1 + 1 + 2 ≤ _
    omega
  · rw [List.length_cons, List.length_cons, List.length_cons]
    show _ + 2 ≤ _
    omega
theorem b_th (T : w_T) (wo : Int) (x : Nat) : w_sz (w_th T wo x) ≤ (if x % 2 = 0 then 11 else 40) := by
  unfold w_th
  by_cases c : x % 2 = 0
  · have e : w_h x = 0 := by unfold w_h; rw [if_pos c]
    rw [e, if_pos c]
    show w_sz (w_t 1 [] [] [] (w_nr T wo 0 x [] [])) ≤ 11
    rw [b_sz]
    exact b_nr0 _ _
  · rw [if_neg c]
    obtain ⟨h, e⟩ : ∃ h, w_h x = h := ⟨_, rfl⟩
    rw [e]
    cases h with
    | zero =>
      show w_sz (w_t 1 [] [] [] (w_nr T wo 0 x [] [])) ≤ 40
      rw [b_sz]
      have := b_nr0 (T := T) (wo := wo) (x := x) [] []
      omega
    | succ h =>
      show w_sz (w_t 1 [] [] [] (w_nr T wo (h + 1) x _ _)) ≤ 40
      rw [b_sz]
      have a := b_nrs (T := T) (wo := wo) (x := x) (h := h + 1) (by omega) (w_thh T wo h (x - 2 ^ h)) (w_thh T wo h (x + 2 ^ h))
      have := b_set (sw_and (t_um T x) (sw_xor wo (-1)))
      omega
/-- the nodes of a tree -/
def b_all (T : w_T) : List Nat := w_ordk (w_h (t_top T)) (t_top T) (w_h (t_top T) + 1) 0
theorem b_all_k : ∀ d : Fin 5, (w_ordk (w_h (2 ^ d.val - 1)) (2 ^ d.val - 1) (w_h (2 ^ d.val - 1) + 1) 0).length ≤ 31 ∧ ((w_ordk (w_h (2 ^ d.val - 1)) (2 ^ d.val - 1) (w_h (2 ^ d.val - 1) + 1) 0).map (fun y => if y % 2 = 0 then 11 else 40)).sum ≤ 776 ∧ ((w_ordk (w_h (2 ^ d.val - 1)) (2 ^ d.val - 1) (w_h (2 ^ d.val - 1) + 1) 0).map (fun y => if y % 2 = 0 then 11 else 8 + 2 * 2 ^ w_h y)).sum ≤ 424 := by decide +kernel
theorem b_all_n (h4 : t_dp T ≤ 4) : (b_all T).length ≤ 31 ∧ ((b_all T).map (fun y => if y % 2 = 0 then 11 else 40)).sum ≤ 776 ∧ ((b_all T).map (fun y => if y % 2 = 0 then 11 else 8 + 2 * 2 ^ w_h y)).sum ≤ 424 := b_all_k ⟨t_dp T, by omega⟩
theorem b_all_in (h4 : t_dp T ≤ 4) (hy : y < t_w T) : y ∈ b_all T := by
  have w31 := t_w_4 h4
  obtain ⟨p1, p2, p3⟩ := t_top_h h4
  have pp := Nat.two_pow_pos (t_dp T)
  have e := t_w_e T
  have et : t_top T = 2 ^ t_dp T - 1 := rfl
  refine w_ordk_all ⟨t_top T, by omega⟩ ⟨y, by omega⟩ ?_ p3
  rw [show (⟨t_top T, by omega⟩ : Fin 31).val = t_top T from rfl, show (⟨y, by omega⟩ : Fin 31).val = y from rfl, p1]
  omega
theorem b_cv_all {S : Wt → Prop} (h4 : t_dp T ≤ 4) (h : ∀ v, S v → ∃ y ∈ b_all T, v = w_th T wo y) : b_cv S 31 776 := by
  obtain ⟨a1, a2, _⟩ := b_all_n h4
  exact b_cv_le (b_cv_map (b_all T) (g := fun y => if y % 2 = 0 then 11 else 40) (fun y _ => b_th T wo y) h) a1 a2
/-- two trees are the same at y -/
def t_sm (A B : w_T) (y : Nat) : Prop := t_ky A y = t_ky B y ∧ t_ph A y = t_ph B y ∧ t_um A y = t_um B y ∧ t_ow A (y / 2) = t_ow B (y / 2) ∧ t_sk A (y / 2) = t_sk B (y / 2) ∧ t_so A (y / 2) = t_so B (y / 2) ∧ t_sg A (y / 2) = t_sg B (y / 2)
theorem b_thh_cg : ∀ h x, x + 2 ^ h ≤ 31 → w_h x = h → (∀ y, x + 1 ≤ y + 2 ^ h → y < x + 2 ^ h → (y % 2 = 0 → t_sm A B y) ∧ (y % 2 = 1 → t_ky A y = t_ky B y ∧ t_ph A y = t_ph B y ∧ t_um A y = t_um B y)) → w_thh A wo h x = w_thh B wo h x
  | 0, x, hx, e, hs => by
    have hx : x + 1 ≤ 31 := hx
    have ev : x % 2 = 0 := by
      rcases Nat.mod_two_eq_zero_or_one x with g | g
      · exact g
      · have := (w_h_le ⟨4, by decide⟩ ⟨x, by omega⟩ (by show x < 31; omega)).2 g
        have this : 1 ≤ w_h x := this
        omega
    obtain ⟨e1, e2, e3, e4, e5, e6, e7⟩ := (hs x (by omega) (by show x < x + 1; omega)).1 ev
    show w_t 1 [] [] [] (w_nr A wo 0 x [] []) = w_t 1 [] [] [] (w_nr B wo 0 x [] [])
    have le : w_leaf A (x / 2) = w_leaf B (x / 2) := by
      unfold w_leaf
      rw [show 2 * (x / 2) = x by omega, e1, e2, e4, e5, e6, e7]
    unfold w_nr
    rw [if_pos rfl, if_pos rfl, e1, le]
  | h + 1, x, hx, e, hs => by
    have hp : 0 < 2 ^ h := Nat.two_pow_pos _
    have h2 : 2 ^ (h + 1) = 2 * 2 ^ h := by rw [Nat.pow_succ]; omega
    obtain ⟨k1, k2, k3⟩ := w_h_kid (y := x) (h := h) (by omega) e
    have i1 := b_thh_cg h (x - 2 ^ h) (by omega) k2 (fun y y1 y2 => hs y (by omega) (by omega))
    have i2 := b_thh_cg h (x + 2 ^ h) (by omega) k3 (fun y y1 y2 => hs y (by omega) (by omega))
    have od : x % 2 = 1 := by
      rcases Nat.mod_two_eq_zero_or_one x with g | g
      · have : w_h x = 0 := by unfold w_h; rw [if_pos g]
        omega
      · exact g
    obtain ⟨e1, e2, e3⟩ := (hs x (by omega) (by omega)).2 od
    show w_t 1 [] [] [] (w_nr A wo (h + 1) x (w_thh A wo h (x - 2 ^ h)) (w_thh A wo h (x + 2 ^ h))) = w_t 1 [] [] [] (w_nr B wo (h + 1) x (w_thh B wo h (x - 2 ^ h)) (w_thh B wo h (x + 2 ^ h)))
    rw [i1, i2]
    have hn : ¬ (h + 1 = 0) := by omega
    unfold w_nr
    rw [if_neg hn, if_neg hn, e1, e2, e3]
theorem t_pp_so : ∀ n, t_so (t_pp C T l n).1 = t_so T ∧ t_sg (t_pp C T l n).1 = t_sg T
  | 0 => ⟨rfl, rfl⟩
  | n + 1 => by
    have ih := t_pp_so n
    by_cases c : C (t_dp T - 1 - n) = 0
    · rw [t_pp_0 c]; exact ih
    · rw [t_pp_1 c]; exact ih
theorem t_pp_ph (h : ∀ j, j < t_dp T → y ≠ t_ab l (j + 1)) : ∀ n, n ≤ t_dp T → t_ph (t_pp C T l n).1 y = t_ph T y
  | 0, _ => rfl
  | n + 1, hn => by
    have ih := t_pp_ph h n (by omega)
    by_cases c : C (t_dp T - 1 - n) = 0
    · rw [t_pp_0 c]; exact ih
    · rw [t_pp_1 c]
      show fu (t_ph (t_pp C T l n).1) (t_ab l (t_dp T - 1 - n + 1)) _ y = _
      rw [fu_ne (h _ (by omega))]
      exact ih
/-- what was made for the path's parent hashes is made for the next tree, but for the wanted hashes -/
theorem t_mw_in (h4 : t_dp T ≤ 4) (hl : l < 2 ^ t_dp T) (h : t_mw C T l v) : (∃ m, m < t_dp T ∧ v = w_wt (t_pa C T l m) (t_ab l (t_dp T - 1 - m + 1)) (t_si l (t_dp T - 1 - m))) ∨ ∃ y ∈ b_all (t_put (t_pp C T l (t_dp T)).1 l f), v = w_th (t_put (t_pp C T l (t_dp T)).1 l f) 0 y := by
  obtain ⟨m, hm, hc, e | ⟨y, hy, e⟩⟩ := h
  · exact Or.inl ⟨m, hm, e⟩
  · right
    obtain ⟨k, ek⟩ : ∃ k, k = t_dp T - 1 - m := ⟨_, rfl⟩
    rw [← ek] at hy
    have hk : k < t_dp T := by omega
    have d16 := t_d_16 h4
    have w31 := t_w_4 h4
    obtain ⟨s1, s2, s3, s4, _⟩ := t_si_ok h4 hl hk
    have sl : t_si l k < 31 := by have := Nat.two_pow_pos k; omega
    have yi := w_ordk_in ⟨t_si l k, sl⟩ (by show 2 ^ w_h (t_si l k) ≤ t_si l k + 1; rw [s1]; exact s4) y (by show y ∈ w_ordk (w_h (t_si l k)) (t_si l k) (w_h (t_si l k) + 1) 0; rw [s1]; exact hy)
    have yi : t_si l k + 1 ≤ y + 2 ^ w_h (t_si l k) ∧ y < t_si l k + 2 ^ w_h (t_si l k) := yi
    rw [s1] at yi
    have yw : y < t_w T := by omega
    have dp2 : t_dp (t_put (t_pp C T l (t_dp T)).1 l f) = t_dp T := t_pp_dp _
    refine ⟨y, b_all_in (by rw [dp2]; exact h4) (by unfold t_w; rw [dp2]; exact yw), ?_⟩
    rw [e]
    -- below y nothing is of the way
    have below : ∀ z, y + 1 ≤ z + 2 ^ w_h y → z < y + 2 ^ w_h y → t_si l k + 1 ≤ z + 2 ^ k ∧ z < t_si l k + 2 ^ k := by
      have key : ∀ x : Fin 31, ∀ y : Fin 31, x.val + 1 ≤ y.val + 2 ^ w_h x.val → y.val < x.val + 2 ^ w_h x.val → 2 ^ w_h x.val ≤ x.val + 1 → x.val + 1 + 2 ^ w_h y.val ≤ y.val + 1 + 2 ^ w_h x.val ∧ y.val + 2 ^ w_h y.val ≤ x.val + 2 ^ w_h x.val := by decide +kernel
      have kk := key ⟨t_si l k, sl⟩ ⟨y, by omega⟩ (by show t_si l k + 1 ≤ y + 2 ^ w_h (t_si l k); rw [s1]; exact yi.1) (by show y < t_si l k + 2 ^ w_h (t_si l k); rw [s1]; exact yi.2) (by show 2 ^ w_h (t_si l k) ≤ t_si l k + 1; rw [s1]; exact s4)
      have kk : t_si l k + 1 + 2 ^ w_h y ≤ y + 1 + 2 ^ w_h (t_si l k) ∧ y + 2 ^ w_h y ≤ t_si l k + 2 ^ w_h (t_si l k) := kk
      rw [s1] at kk
      intro z z1 z2
      omega
    have yb : y + 2 ^ w_h y ≤ 31 := by
      have hp := Nat.two_pow_pos (w_h y)
      have := (below (y + 2 ^ w_h y - 1) (by omega) (by omega)).2
      omega
    unfold w_th
    refine b_thh_cg (w_h y) y yb rfl (fun z z1 z2 => ?_)
    obtain ⟨b1, b2⟩ := below z z1 z2
    have p8 : 2 ^ k ≤ 8 := by
      have : 2 ^ k ≤ 2 ^ 3 := Nat.pow_le_pow_right (by decide) (by omega)
      omega
    obtain ⟨o1, o2⟩ := t_off_k ⟨l, by omega⟩ ⟨k, by omega⟩ ⟨z, by omega⟩ b1 b2
    have o1 : z ≠ 2 * l := o1
    have o2 : ∀ j, j < t_dp T → z ≠ t_ab l (j + 1) := fun j hj => o2 ⟨j, by omega⟩
    have g1 : t_ky (t_pa C T l m) z = t_ky (t_put (t_pp C T l (t_dp T)).1 l f) z := by
      show t_ky (t_pp C T l m).1 z = fu (t_ky (t_pp C T l (t_dp T)).1) (2 * l) f.2.1 z
      rw [fu_ne o1, t_pp_ky, t_pp_ky]
    have g2 : t_ph (t_pa C T l m) z = t_ph (t_put (t_pp C T l (t_dp T)).1 l f) z := by
      show fu (t_ph (t_pp C T l m).1) (t_ab l (t_dp T - 1 - m + 1)) _ z = fu (t_ph (t_pp C T l (t_dp T)).1) (2 * l) f.2.2.2.2.1 z
      rw [fu_ne o1, fu_ne (o2 _ (by omega)), t_pp_ph o2 m (by omega), t_pp_ph o2 (t_dp T) (Nat.le_refl _)]
    have g3 : t_um (t_pa C T l m) z = t_um (t_put (t_pp C T l (t_dp T)).1 l f) z := by
      show t_um (t_pp C T l m).1 z = fu (t_um (t_pp C T l (t_dp T)).1) (2 * l) 0 z
      rw [fu_ne o1, t_pp_um, t_pp_um]
    refine ⟨fun ev => ?_, fun _ => ⟨g1, g2, g3⟩⟩
    have o3 : z / 2 ≠ l := by omega
    refine ⟨g1, g2, g3, ?_, ?_, ?_, ?_⟩
    · show t_ow (t_pp C T l m).1 (z / 2) = fu (t_ow (t_pp C T l (t_dp T)).1) l f.1 (z / 2)
      rw [fu_ne o3, (t_pp_ow m).1, (t_pp_ow (t_dp T)).1]
    · show t_sk (t_pp C T l m).1 (z / 2) = fu (t_sk (t_pp C T l (t_dp T)).1) l f.2.2.1 (z / 2)
      rw [fu_ne o3, (t_pp_ow m).2, (t_pp_ow (t_dp T)).2]
    · show t_so (t_pp C T l m).1 (z / 2) = fu (t_so (t_pp C T l (t_dp T)).1) l f.2.2.2.1 (z / 2)
      rw [fu_ne o3, (t_pp_so m).1, (t_pp_so (t_dp T)).1]
    · show t_sg (t_pp C T l m).1 (z / 2) = fu (t_sg (t_pp C T l (t_dp T)).1) l f.2.2.2.2.2 (z / 2)
      rw [fu_ne o3, (t_pp_so m).2, (t_pp_so (t_dp T)).2]
/-- the cover of a path's parent hashes, beside the next tree's hashes -/
theorem t_mw_cv (h4 : t_dp T ≤ 4) : b_cv (fun v => ∃ m, m < t_dp T ∧ v = w_wt (t_pa C T l m) (t_ab l (t_dp T - 1 - m + 1)) (t_si l (t_dp T - 1 - m))) 4 12 := by
  refine b_cv_le (b_cv_lt (F := fun m v => v = w_wt (t_pa C T l m) (t_ab l (t_dp T - 1 - m + 1)) (t_si l (t_dp T - 1 - m))) (n := 1) (u := 3) (t_dp T) (fun j hj => ?_)) (by omega) (by omega)
  have := b_cv_1 (S := fun v => v = w_wt (t_pa C T l j) (t_ab l (t_dp T - 1 - j + 1)) (t_si l (t_dp T - 1 - j))) (fun v hv => hv)
  unfold w_wt at this ⊢
  rw [b_sz] at this
  exact this
end
end
