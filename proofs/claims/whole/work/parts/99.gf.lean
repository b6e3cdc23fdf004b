/-! ===== keys stay PUBLIC; unmerged leaves behind a path ===== -/
noncomputable section
/-- a PUBLIC as it is made -/
def w_i5 (w : Wt) : Prop := ∃ a, w = w_t 5 a [] [] []
/-- leaves of changes have such keys -/
def h_p5 (L : List w_Ch) : Prop := ∀ c ∈ L, c.1.1 ≠ 3 → w_i5 (h_lf c).2.1
variable {T A B T0 : w_T} {l k n m nn x y b : Nat} {kf : Nat → Wt} {C : Nat → Int} {msk com : Int} {f : p_L} {c : w_Ch} {L : List w_Ch}
theorem t_pk_eq (hd : t_dp B = t_dp A) (hk : t_ky B = t_ky A) (h : t_pk A) : t_pk B := by
  intro x hx
  rw [hk]
  exact h x (by rw [← t_dp_w hd]; exact hx)
theorem t_pk_bl (h : t_pk T) : t_pk (t_bl T x) := by
  intro y hy
  by_cases e : y = x
  · exact Or.inl (by rw [e]; exact fu_eq)
  · have : t_ky (t_bl T x) y = t_ky T y := fu_ne e
    rw [this]
    exact h y hy
theorem t_pk_put (hf : w_i5 f.2.1) (h : t_pk T) : t_pk (t_put T k f) := by
  intro y hy
  by_cases e : y = 2 * k
  · have : t_ky (t_put T k f) y = f.2.1 := by rw [e]; exact fu_eq
    rw [this]
    exact Or.inr hf
  · have : t_ky (t_put T k f) y = t_ky T y := fu_ne e
    rw [this]
    exact h y hy
theorem t_pk_bwn (h : t_pk T) : ∀ n, t_pk (t_bwn T k n)
  | 0 => h
  | n + 1 => t_pk_bl (t_pk_bwn h n)
theorem t_pk_bw (h : t_pk T) : t_pk (t_bw T k) := t_pk_bwn h _
theorem t_pk_lo (h : t_pk T) : t_pk (t_lo T) := by
  intro y hy
  have e : t_w (t_lo T) ≤ t_w T := by
    unfold t_w
    have : 2 ^ (t_dp (t_lo T) + 1) ≤ 2 ^ (t_dp T + 1) := Nat.pow_le_pow_right (by decide) (by show t_dp T - 1 + 1 ≤ _; omega)
    omega
  exact h y (by omega)
theorem t_pk_shn : ∀ n {T : w_T}, t_pk T → t_pk (t_shn n T)
  | 0, _, h => h
  | n + 1, T, h => by
    unfold t_shn
    by_cases c : 0 < t_dp T ∧ t_rb T
    · rw [if_pos c]; exact t_pk_shn n (t_pk_lo h)
    · rw [if_neg c]; exact h
theorem t_pk_sh (h : t_pk T) : t_pk (t_sh T) := t_pk_shn _ h
theorem t_pk_room (h : t_pk T) : t_pk (t_room T k) := by
  unfold t_room
  by_cases c : k = 2 ^ t_dp T
  · rw [if_pos c]
    intro y hy
    show (if y < t_w T then t_ky T y else []) = [] ∨ ∃ a, (if y < t_w T then t_ky T y else []) = _
    by_cases d : y < t_w T
    · rw [if_pos d]; exact h y d
    · rw [if_neg d]; exact Or.inl rfl
  · rw [if_neg c]; exact h
theorem t_pk_add (hf : w_i5 f.2.1) (h : t_pk T) : t_pk (t_add T f) :=
  t_pk_eq (A := t_put (t_room T (t_fl T)) (t_fl T) f) (t_un_dp _) (t_un_ky _) (t_pk_put hf (t_pk_room h))
theorem t_pk_u1 (hf : c.1.1 = 2 → w_i5 (h_lf c).2.1) (h : t_pk T) : t_pk (h_u1 T c) := by
  unfold h_u1
  by_cases c2 : c.1.1 = 2
  · rw [if_pos c2]; exact t_pk_bw (t_pk_put (hf c2) h)
  · rw [if_neg c2]; exact h
theorem t_pk_r1 (h : t_pk T) : t_pk (h_r1 T c) := by
  unfold h_r1
  by_cases c2 : c.1.1 = 3
  · rw [if_pos c2]; exact t_pk_bw (t_pk_bl h)
  · rw [if_neg c2]; exact h
theorem t_pk_a1 (hf : c.1.1 = 1 → w_i5 (h_lf c).2.1) (h : t_pk T) : t_pk (h_a1 T c) := by
  unfold h_a1
  by_cases c2 : c.1.1 = 1
  · rw [if_pos c2]; exact t_pk_add (hf c2) h
  · rw [if_neg c2]; exact h
theorem t_pk_fold {op : w_T → w_Ch → w_T} (ho : ∀ T c, c ∈ L → t_pk T → t_pk (op T c)) : ∀ (P : List w_Ch) {T : w_T}, (∀ c ∈ P, c ∈ L) → t_pk T → t_pk (P.foldl op T)
  | [], _, _, h => h
  | c :: P, _, hp, h => t_pk_fold ho P (fun d hd => hp d (List.mem_cons_of_mem _ hd)) (ho _ _ (hp c (List.mem_cons_self ..)) h)
theorem t_pk_ap (h5 : h_p5 L) (h : t_pk T) : t_pk (h_ap T L) := by
  unfold h_ap h_0 h_fd
  refine t_pk_fold (L := L) (fun T c hc ht => t_pk_a1 (fun e => h5 c hc (by omega)) ht) _ (fun d hd => List.mem_of_mem_take hd) (t_pk_sh ?_)
  refine t_pk_fold (L := L) (fun T c _ ht => t_pk_r1 ht) _ (fun d hd => List.mem_of_mem_take hd) ?_
  exact t_pk_fold (L := L) (fun T c hc ht => t_pk_u1 (fun e => h5 c hc (by omega)) ht) _ (fun d hd => List.mem_of_mem_take hd) h
theorem t_pk_kpn (hk : ∀ j, C j ≠ 0 → w_i5 (kf j)) (h : t_pk T) : ∀ n, t_pk (t_kpn C T l kf n)
  | 0 => h
  | n + 1 => by
    by_cases c : C n = 0
    · rw [t_kpn_0 c]; exact t_pk_bl (t_pk_kpn hk h n)
    · rw [t_kpn_1 c]
      have ih : t_pk (t_bl (t_kpn C T l kf n) (t_ab l (n + 1))) := t_pk_bl (t_pk_kpn hk h n)
      intro y hy
      by_cases e : y = t_ab l (n + 1)
      · have : t_ky (t_sk1 (t_bl (t_kpn C T l kf n) (t_ab l (n + 1))) (t_ab l (n + 1)) (kf n)) y = kf n := by rw [e]; exact fu_eq
        rw [this]
        exact Or.inr (hk n c)
      · have : t_ky (t_sk1 (t_bl (t_kpn C T l kf n) (t_ab l (n + 1))) (t_ab l (n + 1)) (kf n)) y = t_ky (t_bl (t_kpn C T l kf n) (t_ab l (n + 1))) y := fu_ne e
        rw [this]
        exact ih y hy
theorem t_pk_pth (hk : ∀ j, C j ≠ 0 → w_i5 (kf j)) (h : t_pk T) : t_pk (t_pth C T l kf).1 :=
  t_pk_eq (A := t_kpn C T l kf (t_dp T)) (t_pp_dp _) (t_pp_ky _) (t_pk_kpn hk h _)
theorem t_pk_pT2 (h : t_pk T) : t_pk (w_pT2 T l m nn) :=
  t_pk_put ⟨_, rfl⟩ (t_pk_pth (fun _ _ => ⟨_, rfl⟩) h)
theorem t_kpn_of2 : ∀ n, (∀ j, j < n → y ≠ t_ab l (j + 1)) → t_ky (t_kpn C T l kf n) y = t_ky T y ∧ t_um (t_kpn C T l kf n) y = t_um T y
  | 0, _ => ⟨rfl, rfl⟩
  | n + 1, h => by
    have ih := t_kpn_of2 n (fun j hj => h j (by omega))
    have ne := h n (by omega)
    by_cases c : C n = 0
    · rw [t_kpn_0 c]
      show fu _ _ _ _ = _ ∧ fu _ _ _ _ = _
      rw [fu_ne ne, fu_ne ne]; exact ih
    · rw [t_kpn_1 c]
      show fu (fu _ _ _) _ _ _ = _ ∧ fu _ _ _ _ = _
      rw [fu_ne ne, fu_ne ne, fu_ne ne]; exact ih
theorem t_inv_eq (hd : t_dp B = t_dp A) (hk : t_ky B = t_ky A) (hu : t_um B = t_um A) (h : t_inv A) : t_inv B := by
  intro x hx hne b hb hbit
  rw [hk] at hne
  rw [hu] at hbit
  obtain ⟨i1, i2⟩ := h x (by rw [← t_dp_w hd]; exact hx) hne b hb hbit
  exact ⟨⟨by rw [hd]; exact i1.1, by rw [hk]; exact i1.2⟩, i2⟩
theorem t_inv_kpn (hl : l < 16) (h4 : t_dp T ≤ 4) (hi : t_inv T) : t_inv (t_kpn C T l kf (t_dp T)) := by
  intro x hx hne b hb hbit
  rw [t_dp_w (t_kpn_dp _)] at hx
  by_cases e : ∃ j, j < t_dp T ∧ x = t_ab l (j + 1)
  · obtain ⟨j, hj, ej⟩ := e
    rw [ej, (t_kpn_ky hl h4 (t_dp T) (Nat.le_refl _) j hj).2] at hbit
    exact absurd hbit w_bit_0
  · obtain ⟨o1, o2⟩ := t_kpn_of2 (C := C) (T := T) (l := l) (kf := kf) (y := x) (t_dp T) (fun j hj c => e ⟨j, hj, c⟩)
    rw [o1] at hne
    rw [o2] at hbit
    obtain ⟨i1, i2⟩ := hi x hx hne b hb hbit
    exact ⟨⟨by rw [t_kpn_dp]; exact i1.1, by rw [t_kpn_lf hl _ h4]; exact i1.2⟩, i2⟩
theorem t_inv_pth (hl : l < 16) (h4 : t_dp T ≤ 4) (hi : t_inv T) : t_inv (t_pth C T l kf).1 :=
  t_inv_eq (A := t_kpn C T l kf (t_dp T)) (t_pp_dp _) (t_pp_ky _) (t_pp_um _) (t_inv_kpn hl h4 hi)
theorem t_inv_pT2 (hl : l < 16) (h4 : t_dp T ≤ 4) (hi : t_inv T) : t_inv (w_pT2 T l m nn) :=
  t_inv_put (f := w_plf T l m nn) (List.cons_ne_nil _ _) (t_inv_pth hl h4 hi)
theorem t_pT2_dp : t_dp (w_pT2 T l m nn) = t_dp T := t_pth_dp
end
