/-! ===== who commits stays as it is ===== -/
noncomputable section
/-- leaf l is the same in both -/
def t_lsm (T T' : w_T) (l : Nat) : Prop := t_ky T' (2 * l) = t_ky T (2 * l) ∧ t_ow T' l = t_ow T l ∧ t_sk T' l = t_sk T l
variable {T T' T'' T0 : w_T} {l k n x : Nat} {f : p_L} {L P : List w_Ch} {c : w_Ch}
theorem t_lsm_refl : t_lsm T T l := ⟨rfl, rfl, rfl⟩
theorem t_lsm_trans (a : t_lsm T T' l) (b : t_lsm T' T'' l) : t_lsm T T'' l := ⟨b.1.trans a.1, b.2.1.trans a.2.1, b.2.2.trans a.2.2⟩
theorem t_bwn_ow : ∀ n, t_ow (t_bwn T k n) = t_ow T ∧ t_sk (t_bwn T k n) = t_sk T
  | 0 => ⟨rfl, rfl⟩
  | n + 1 => t_bwn_ow n
theorem t_lsm_bw (hd : t_dp T ≤ 4) (hk : k < 16) : t_lsm T (t_bw T k) l := ⟨t_bw_ky hd hk, by unfold t_bw; rw [(t_bwn_ow _).1], by unfold t_bw; rw [(t_bwn_ow _).2]⟩
theorem t_lsm_put (h : k ≠ l) : t_lsm T (t_put T k f) l := ⟨fu_ne (by omega), fu_ne (by omega), fu_ne (by omega)⟩
theorem t_lsm_bl (h : x ≠ 2 * l) : t_lsm T (t_bl T x) l := ⟨fu_ne (by omega), rfl, rfl⟩
theorem t_shn_ow : ∀ n {T : w_T}, t_ow (t_shn n T) = t_ow T ∧ t_sk (t_shn n T) = t_sk T
  | 0, _ => ⟨rfl, rfl⟩
  | n + 1, T => by
    unfold t_shn
    by_cases c : 0 < t_dp T ∧ t_rb T
    · rw [if_pos c]; exact t_shn_ow n
    · rw [if_neg c]; exact ⟨rfl, rfl⟩
theorem t_lsm_sh : t_lsm T (t_sh T) l := by
  unfold t_sh
  exact ⟨by rw [t_shn_ky], by rw [(t_shn_ow _).1], by rw [(t_shn_ow _).2]⟩
theorem t_un_ow {m : Nat} : ∀ n, t_ow (t_un T m n) = t_ow T ∧ t_sk (t_un T m n) = t_sk T
  | 0 => ⟨rfl, rfl⟩
  | n + 1 => by
    have ih := t_un_ow (m := m) n
    show t_ow (t_u1 (t_un T m n) m (t_ab m (n + 1))) = _ ∧ t_sk (t_u1 (t_un T m n) m (t_ab m (n + 1))) = _
    unfold t_u1
    split <;> exact ih
theorem t_lsm_add (hd : t_dp T ≤ 4) (hl : t_fl T < 16) (h : t_is T l) : t_lsm T (t_add T f) l := by
  have hne : t_fl T ≠ l := fun e => t_fl_sp.2.2 hl (e ▸ h)
  have ro : t_ow (t_room T (t_fl T)) = t_ow T ∧ t_sk (t_room T (t_fl T)) = t_sk T := by
    unfold t_room
    split <;> exact ⟨rfl, rfl⟩
  refine ⟨t_add_k h hd hl, ?_, ?_⟩
  · unfold t_add
    rw [(t_un_ow _).1]
    show fu (t_ow (t_room T (t_fl T))) (t_fl T) f.1 l = _
    rw [fu_ne (by omega), ro.1]
  · unfold t_add
    rw [(t_un_ow _).2]
    show fu (t_sk (t_room T (t_fl T))) (t_fl T) f.2.2.1 l = _
    rw [fu_ne (by omega), ro.2]
theorem t_lsm_u1 (hd : t_dp T ≤ 4) (h : c.1.1 = 2 → (h_go c).toNat ≠ l ∧ (h_go c).toNat < 16) : t_lsm T (h_u1 T c) l := by
  unfold h_u1
  by_cases c2 : c.1.1 = 2
  · rw [if_pos c2]
    obtain ⟨h1, h2⟩ := h c2
    exact t_lsm_trans (t_lsm_put h1) (t_lsm_bw hd h2)
  · rw [if_neg c2]; exact t_lsm_refl
theorem t_lsm_r1 (hd : t_dp T ≤ 4) (h : c.1.1 = 3 → (h_go c).toNat ≠ l ∧ (h_go c).toNat < 16) : t_lsm T (h_r1 T c) l := by
  unfold h_r1
  by_cases c2 : c.1.1 = 3
  · rw [if_pos c2]
    obtain ⟨h1, h2⟩ := h c2
    exact t_lsm_trans (t_lsm_bl (by omega)) (t_lsm_bw hd h2)
  · rw [if_neg c2]; exact t_lsm_refl
theorem t_lsm_fu : ∀ (P : List w_Ch) {T : w_T}, t_dp T ≤ 4 → (∀ c ∈ P, c.1.1 ≠ 1 → (h_go c).toNat ≠ l ∧ (h_go c).toNat < 16) → t_lsm T (P.foldl h_u1 T) l
  | [], _, _, _ => t_lsm_refl
  | c :: P, T, hd, h => t_lsm_trans (t_lsm_u1 hd (fun c2 => h c (List.mem_cons_self ..) (by omega))) (t_lsm_fu P (by rw [h_u1_dp]; exact hd) (fun d hd2 => h d (List.mem_cons_of_mem _ hd2)))
theorem t_lsm_fr : ∀ (P : List w_Ch) {T : w_T}, t_dp T ≤ 4 → (∀ c ∈ P, c.1.1 ≠ 1 → (h_go c).toNat ≠ l ∧ (h_go c).toNat < 16) → t_lsm T (P.foldl h_r1 T) l
  | [], _, _, _ => t_lsm_refl
  | c :: P, T, hd, h => t_lsm_trans (t_lsm_r1 hd (fun c2 => h c (List.mem_cons_self ..) (by omega))) (t_lsm_fr P (by rw [h_r1_dp]; exact hd) (fun d hd2 => h d (List.mem_cons_of_mem _ hd2)))
theorem t_lsm_fa (h0 : t_dp T0 ≤ 4) (hok : ∀ (k : Nat) (c : w_Ch), L[k]? = some c → p_cok c.1) (hr : h_room T0 L) (ho : t_is T0 l) : ∀ k, k ≤ L.length → t_lsm T0 (h_fd h_a1 T0 L k) l
  | 0, _ => t_lsm_refl
  | k + 1, hk => by
    have ih := t_lsm_fa h0 hok hr ho k (by omega)
    have a := (h_fa_dp h0 hok k (by omega) (fun j c _ hc => hr j c hc)).1
    have i := h_fa_is h0 hok ho k (by omega) (fun j c _ hc => hr j c hc)
    obtain ⟨d, hd⟩ := h_get (L := L) (k := k) (by omega)
    rw [h_fd_s hd]
    unfold h_a1
    by_cases c : d.1.1 = 1
    · rw [if_pos c]; exact t_lsm_trans ih (t_lsm_add a (hr k d hd c) i)
    · rw [if_neg c]; exact ih
theorem h_0_dp (h4 : t_dp T ≤ 4) : t_dp (h_0 T L) ≤ 4 := by
  unfold h_0 t_sh
  have := t_shn_dp (t_dp (h_fd h_r1 (h_fd h_u1 T L L.length) L L.length)) (T := h_fd h_r1 (h_fd h_u1 T L L.length) L L.length)
  rw [h_fr_dp, h_fu_dp] at this
  rw [h_fr_dp, h_fu_dp]
  omega
/-- the leaf of who commits is as it was, and stands in the tree -/
theorem h_ap_own (h4 : t_dp T ≤ 4) (hok : ∀ c ∈ L, p_cok c.1) (ho : t_is T l) (h : h_all T L (l : Int)) (hr : h_room (h_0 T L) L) : t_lsm T (h_ap T L) l ∧ t_is (h_ap T L) l ∧ t_dp (h_ap T L) ≤ 4 := by
  have d16 := t_d_16 h4
  have hok' : ∀ (k : Nat) (c : w_Ch), L[k]? = some c → p_cok c.1 := fun k c hc => hok c (List.mem_of_getElem? hc)
  have hg : ∀ c ∈ L, c.1.1 ≠ 1 → (h_go c).toNat ≠ l ∧ (h_go c).toNat < 16 := fun c hc h1 => by
    obtain ⟨j, hj⟩ := List.mem_iff_getElem?.mp hc
    obtain ⟨a1, ⟨a2, a3, _⟩, _⟩ := (h j c hj).2 h1
    exact ⟨fun e => a1 (by omega), by omega⟩
  have eu : h_fd h_u1 T L L.length = L.foldl h_u1 T := by unfold h_fd; rw [List.take_length]
  have er : h_fd h_r1 (h_fd h_u1 T L L.length) L L.length = L.foldl h_r1 (L.foldl h_u1 T) := by unfold h_fd; rw [List.take_length]
  have du : t_dp (L.foldl h_u1 T) ≤ 4 := by rw [← eu, h_fu_dp]; exact h4
  have i0 := h_all_is h4 hok ho h
  have s0 : t_lsm T (h_0 T L) l := by
    have := t_lsm_trans (t_lsm_fu (l := l) L h4 hg) (t_lsm_trans (t_lsm_fr (l := l) L du hg) (t_lsm_sh (l := l)))
    unfold h_0
    rw [er]
    exact this
  have d0 := h_0_dp (L := L) h4
  refine ⟨t_lsm_trans s0 (t_lsm_fa d0 hok' hr i0 L.length (Nat.le_refl _)), h_fa_is d0 hok' i0 L.length (Nat.le_refl _) (fun j c _ hc => hr j c hc), (h_fa_dp d0 hok' L.length (Nat.le_refl _) (fun j c _ hc => hr j c hc)).1⟩
end
