/-! ===== unmerged leaves stay right: ADD; all changes ===== -/
noncomputable section
variable {T T' T0 : w_T} {l k n m nn x y b : Nat} {f : p_L} {c : w_Ch} {L : List w_Ch} {com : Int}
theorem w_bit_or {a : Int} (h0 : 0 ≤ a) (h1 : a < 65536) (hl : l < 16) (h : w_bit (sw_or a ((2 ^ l : Nat) : Int)) b = 1) : w_bit a b = 1 ∨ b = l := by
  have p := t_2_16 hl
  obtain ⟨_, _, e⟩ := sw_or_h (b := ((2 ^ l : Nat) : Int)) h0 h1 (Int.natCast_nonneg _) (by omega)
  rw [e, Int.toNat_natCast] at h
  have conv : ∀ N : Nat, w_bit (N : Int) b = 1 ↔ N.testBit b = true := fun N => by
    have e2 : w_bit (N : Int) b = (((N / 2 ^ b % 2 : Nat)) : Int) := by
      unfold w_bit
      rw [Int.natCast_emod, Int.natCast_ediv]
      rfl
    rw [e2, Nat.testBit_eq_decide_div_mod_eq]
    simp only [decide_eq_true_eq]
    omega
  rw [conv, Nat.testBit_or, Bool.or_eq_true, Nat.testBit_two_pow] at h
  rcases h with h | h
  · left
    have : ((a.toNat : Nat) : Int) = a := by omega
    rw [← this, conv]
    exact h
  · right
    have := of_decide_eq_true h
    exact this.symm
theorem t_inv_u1 (ok : t_ok T) (hi : t_inv T) (hl : l < 16) (his : t_is T l) (hx : x < t_w T) (hxa : x = t_ab l (w_h x)) : t_inv (t_u1 T l x) := by
  unfold t_u1
  by_cases c : t_ky T x = []
  · rw [if_pos c]; exact hi
  · rw [if_neg c]
    intro y hy hne b hb hbit
    have hbit : w_bit (fu (t_um T) x (sw_or (t_um T x) ((2 ^ l : Nat) : Int)) y) b = 1 := hbit
    by_cases e : y = x
    · subst e
      rw [fu_eq] at hbit
      obtain ⟨g1, g2, _⟩ := ok.2.1 y hx
      rcases w_bit_or g1 g2 hl hbit with h | h
      · exact hi y hy hne b hb h
      · subst h; exact ⟨his, hxa⟩
    · rw [fu_ne e] at hbit
      exact hi y hy hne b hb hbit
theorem t_un_is : ∀ n, t_is (t_un T l n) b ↔ t_is T b := fun n => by
  unfold t_is
  rw [t_un_dp, t_un_ky]
theorem t_inv_un (ok : t_ok T) (hi : t_inv T) (hl : l < 2 ^ t_dp T) (his : t_is T l) : ∀ n, n ≤ t_dp T → t_inv (t_un T l n)
  | 0, _ => hi
  | n + 1, hn => by
    have d16 := t_d_16 ok.1
    have h4 := ok.1
    have ih := t_inv_un ok hi hl his n (by omega)
    have eh : w_h (t_ab l (n + 1)) = n + 1 := (w_h_ab ⟨l, by omega⟩ ⟨n + 1, by omega⟩).1
    have aw := t_ab_w h4 hl (h := n + 1) hn
    exact t_inv_u1 (t_ok_un ok (by omega) n (by omega)) ih (by omega) ((t_un_is n).mpr his) (by rw [t_dp_w (t_un_dp n)]; exact aw) (by rw [eh])
theorem t_inv_gr (hi : t_inv T) : t_inv (t_gr T) := by
  intro x hx hne b hb hbit
  have hne : (if x < t_w T then t_ky T x else []) ≠ [] := hne
  have hbit : w_bit (if x < t_w T then t_um T x else 0) b = 1 := hbit
  by_cases c : x < t_w T
  · rw [if_pos c] at hne hbit
    obtain ⟨i1, i2⟩ := hi x c hne b hb hbit
    refine ⟨⟨?_, ?_⟩, i2⟩
    · have := i1.1
      show b < 2 ^ (t_dp T + 1)
      rw [Nat.pow_succ]; omega
    · show (if 2 * b < t_w T then t_ky T (2 * b) else []) ≠ []
      rw [if_pos ((t_lf_w T b).mpr i1.1)]
      exact i1.2
  · rw [if_neg c] at hne; exact absurd rfl hne
theorem t_inv_room (hi : t_inv T) : t_inv (t_room T k) := by
  unfold t_room
  split
  · exact t_inv_gr hi
  · exact hi
theorem t_inv_put (hf : f.2.1 ≠ []) (hi : t_inv T) : t_inv (t_put T k f) := by
  intro x hx hne b hb hbit
  have hne : fu (t_ky T) (2 * k) f.2.1 x ≠ [] := hne
  have hbit : w_bit (fu (t_um T) (2 * k) 0 x) b = 1 := hbit
  by_cases c : x = 2 * k
  · rw [c, fu_eq] at hbit; exact absurd hbit w_bit_0
  · rw [fu_ne c] at hne hbit
    obtain ⟨i1, i2⟩ := hi x hx hne b hb hbit
    refine ⟨⟨i1.1, ?_⟩, i2⟩
    show fu (t_ky T) (2 * k) f.2.1 (2 * b) ≠ []
    by_cases cb : b = k
    · rw [cb, fu_eq]; exact hf
    · rw [fu_ne (by omega)]; exact i1.2
theorem t_inv_add (ok : t_ok T) (hi : t_inv T) (hf : t_lfok f) (hl : t_fl T < 16) : t_inv (t_add T f) := by
  have hr := t_room_dp ok.1 hl
  have okp := t_ok_put (k := t_fl T) (t_ok_room ok hl) hf
  unfold t_add
  refine t_inv_un okp (t_inv_put hf.2.2.2.2.2 (t_inv_room hi)) hr.2 ⟨hr.2, ?_⟩ _ (Nat.le_refl _)
  show fu _ _ _ _ ≠ []
  rw [fu_eq]
  exact hf.2.2.2.2.2
theorem t_inv_fu : ∀ (P : List w_Ch) {T : w_T}, t_dp T ≤ 4 → t_inv T → (∀ c ∈ P, p_cok c.1 ∧ (c.1.1 ≠ 1 → (h_go c).toNat < 2 ^ t_dp T)) → t_inv (P.foldl h_u1 T)
  | [], _, _, h, _ => h
  | c :: P, T, h4, h, hp => by
    refine t_inv_fu P (T := h_u1 T c) (by rw [h_u1_dp]; exact h4) ?_ (fun d hd => by rw [h_u1_dp]; exact hp d (List.mem_cons_of_mem _ hd))
    have hc := hp c (List.mem_cons_self ..)
    unfold h_u1
    by_cases c2 : c.1.1 = 2
    · rw [if_pos c2]; exact t_inv_u h4 (hc.2 (by omega)) (hc.1.2.1 (by omega)).2.2.2.2.2 h
    · rw [if_neg c2]; exact h
theorem t_inv_fr : ∀ (P : List w_Ch) {T : w_T}, t_dp T ≤ 4 → t_inv T → (∀ c ∈ P, c.1.1 ≠ 1 → (h_go c).toNat < 2 ^ t_dp T) → t_inv (P.foldl h_r1 T)
  | [], _, _, h, _ => h
  | c :: P, T, h4, h, hp => by
    refine t_inv_fr P (T := h_r1 T c) (by rw [h_r1_dp]; exact h4) ?_ (fun d hd => by rw [h_r1_dp]; exact hp d (List.mem_cons_of_mem _ hd))
    unfold h_r1
    by_cases c2 : c.1.1 = 3
    · rw [if_pos c2]; exact t_inv_r h4 (hp c (List.mem_cons_self ..) (by omega)) h
    · rw [if_neg c2]; exact h
theorem t_ok_fa (ok : t_ok T0) (hi : t_inv T0) (hok : ∀ (k : Nat) (c : w_Ch), L[k]? = some c → p_cok c.1) (hr : h_room T0 L) : ∀ k, k ≤ L.length → t_ok (h_fd h_a1 T0 L k) ∧ t_inv (h_fd h_a1 T0 L k)
  | 0, _ => ⟨ok, hi⟩
  | k + 1, hk => by
    obtain ⟨a, b⟩ := t_ok_fa ok hi hok hr k (by omega)
    obtain ⟨d, hd⟩ := h_get (L := L) (k := k) (by omega)
    rw [h_fd_s hd]
    unfold h_a1
    by_cases c : d.1.1 = 1
    · rw [if_pos c]
      have hf := (hok k d hd).2.1 (by omega)
      exact ⟨t_ok_add a hf (hr k d hd c), t_inv_add a b hf (hr k d hd c)⟩
    · rw [if_neg c]; exact ⟨a, b⟩
/-- behind all changes -/
theorem h_ap_inv (h4 : t_dp T ≤ 4) (hi : t_inv T) (ok0 : t_ok (h_0 T L)) (hok : ∀ c ∈ L, p_cok c.1) (h : h_all T L com) (hr : h_room (h_0 T L) L) : t_inv (h_ap T L) := by
  have hg : ∀ c ∈ L, c.1.1 ≠ 1 → (h_go c).toNat < 2 ^ t_dp T := fun c hc h1 => by
    obtain ⟨j, hj⟩ := List.mem_iff_getElem?.mp hc
    obtain ⟨_, ⟨a2, a3, _⟩, _⟩ := (h j c hj).2 h1
    omega
  have eu : h_fd h_u1 T L L.length = L.foldl h_u1 T := by unfold h_fd; rw [List.take_length]
  have er : h_fd h_r1 (h_fd h_u1 T L L.length) L L.length = L.foldl h_r1 (L.foldl h_u1 T) := by unfold h_fd; rw [List.take_length]
  have du : t_dp (L.foldl h_u1 T) = t_dp T := by rw [← eu]; exact h_fu_dp
  have i0 : t_inv (h_0 T L) := by
    unfold h_0
    rw [er]
    exact t_inv_sh (t_inv_fr L (by rw [du]; exact h4) (t_inv_fu L h4 hi (fun c hc => ⟨hok c hc, hg c hc⟩)) (fun c hc h1 => by rw [du]; exact hg c hc h1))
  exact (t_ok_fa ok0 i0 (fun k c hc => hok c (List.mem_of_getElem? hc)) hr L.length (Nat.le_refl _)).2
end
