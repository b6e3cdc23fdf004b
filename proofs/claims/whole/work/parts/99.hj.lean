/-! ===== leaves behind changes: whose they are, and their keys ===== -/
noncomputable section
/-- each leaf is a member's, with its sign key -/
def t_lv (T : w_T) : Prop := ∀ k, 2 * k < t_w T → t_ky T (2 * k) ≠ [] → t_ow T k < 24 ∧ t_sk T k = w_pub (t_ow T k).toNat
variable {T T' T'' T0 : w_T} {l k n x : Nat} {f : p_L} {L P S : List w_Ch} {c : w_Ch} {com g : Int}
theorem t_lv_sub (h : t_lv T) (hw : t_w T' ≤ t_w T) (hk : ∀ k, t_ky T' (2 * k) = [] ∨ t_ky T' (2 * k) = t_ky T (2 * k)) (ho : t_ow T' = t_ow T) (hs : t_sk T' = t_sk T) : t_lv T' := fun k k1 k2 => by
  rw [ho, hs]
  refine h k (by omega) ?_
  rcases hk k with e | e
  · exact absurd e k2
  · rw [← e]; exact k2
theorem t_lv_put (h : t_lv T) (hf : f.1 < 24 ∧ f.2.2.1 = w_pub f.1.toNat) : t_lv (t_put T k f) := fun j j1 j2 => by
  by_cases e : j = k
  · subst e
    show fu (t_ow T) j f.1 j < 24 ∧ fu (t_sk T) j f.2.2.1 j = w_pub (fu (t_ow T) j f.1 j).toNat
    rw [fu_eq, fu_eq]
    exact hf
  · have e1 : t_ky (t_put T k f) (2 * j) = t_ky T (2 * j) := fu_ne (by omega)
    have e2 : t_ow (t_put T k f) j = t_ow T j := fu_ne (by omega)
    have e3 : t_sk (t_put T k f) j = t_sk T j := fu_ne (by omega)
    rw [e2, e3]
    exact h j j1 (by rw [← e1]; exact j2)
theorem t_lv_bw (h : t_lv T) (hd : t_dp T ≤ 4) (hk : k < 16) : t_lv (t_bw T k) := t_lv_sub h (by rw [t_dp_w t_bw_dp]; exact Nat.le_refl _) (fun j => Or.inr (t_bw_ky hd hk)) (by unfold t_bw; rw [(t_bwn_ow _).1]) (by unfold t_bw; rw [(t_bwn_ow _).2])
theorem t_lv_bl (h : t_lv T) : t_lv (t_bl T x) := t_lv_sub h (Nat.le_refl _) (fun j => by
  by_cases e : 2 * j = x
  · left; rw [← e]; exact fu_eq
  · right; exact fu_ne e) rfl rfl
theorem t_lv_sh (h : t_lv T) : t_lv (t_sh T) := t_lv_sub h (t_w_le (t_shn_dp _)) (fun j => Or.inr (by unfold t_sh; rw [t_shn_ky])) (by unfold t_sh; rw [(t_shn_ow _).1]) (by unfold t_sh; rw [(t_shn_ow _).2])
theorem t_lv_room (h : t_lv T) : t_lv (t_room T n) := by
  unfold t_room
  split
  · intro j j1 j2
    have j2 : (if 2 * j < t_w T then t_ky T (2 * j) else []) ≠ [] := j2
    by_cases e : 2 * j < t_w T
    · rw [if_pos e] at j2
      exact h j e j2
    · rw [if_neg e] at j2
      exact absurd rfl j2
  · exact h
theorem t_lv_add (h : t_lv T) (hf : f.1 < 24 ∧ f.2.2.1 = w_pub f.1.toNat) : t_lv (t_add T f) := by
  unfold t_add
  exact t_lv_sub (t_lv_put (t_lv_room h) hf) (by rw [t_dp_w (t_un_dp _)]; exact Nat.le_refl _) (fun j => Or.inr (by rw [t_un_ky])) (t_un_ow _).1 (t_un_ow _).2
theorem w_lfs_lv (h : w_lfs f g) : f.1 < 24 ∧ f.2.2.1 = w_pub f.1.toNat := ⟨h.2.1, h.2.2.1⟩
theorem t_lv_fu : ∀ (P : List w_Ch) {T : w_T}, t_dp T ≤ 4 → t_lv T → (∀ c ∈ P, c.1.1 = 2 → (h_go c).toNat < 16 ∧ w_lfs (h_lf c) (h_go c)) → t_lv (P.foldl h_u1 T)
  | [], _, _, h, _ => h
  | c :: P, T, h4, h, hp => by
    refine t_lv_fu P (T := h_u1 T c) (by rw [h_u1_dp]; exact h4) ?_ (fun d hd => hp d (List.mem_cons_of_mem _ hd))
    unfold h_u1
    by_cases c2 : c.1.1 = 2
    · rw [if_pos c2]
      obtain ⟨a, b⟩ := hp c (List.mem_cons_self ..) c2
      exact t_lv_bw (t_lv_put h (w_lfs_lv b)) h4 a
    · rw [if_neg c2]; exact h
theorem t_lv_fr : ∀ (P : List w_Ch) {T : w_T}, t_dp T ≤ 4 → t_lv T → (∀ c ∈ P, c.1.1 = 3 → (h_go c).toNat < 16) → t_lv (P.foldl h_r1 T)
  | [], _, _, h, _ => h
  | c :: P, T, h4, h, hp => by
    refine t_lv_fr P (T := h_r1 T c) (by rw [h_r1_dp]; exact h4) ?_ (fun d hd => hp d (List.mem_cons_of_mem _ hd))
    unfold h_r1
    by_cases c2 : c.1.1 = 3
    · rw [if_pos c2]
      exact t_lv_bw (t_lv_bl h) h4 (hp c (List.mem_cons_self ..) c2)
    · rw [if_neg c2]; exact h
theorem t_lv_fa : ∀ (P : List w_Ch) {T : w_T}, t_lv T → (∀ c ∈ P, c.1.1 = 1 → w_lfs (h_lf c) 0) → t_lv (P.foldl h_a1 T)
  | [], _, h, _ => h
  | c :: P, T, h, hp => by
    refine t_lv_fa P (T := h_a1 T c) ?_ (fun d hd => hp d (List.mem_cons_of_mem _ hd))
    unfold h_a1
    by_cases c2 : c.1.1 = 1
    · rw [if_pos c2]
      exact t_lv_add h (w_lfs_lv (hp c (List.mem_cons_self ..) c2))
    · rw [if_neg c2]; exact h
theorem h_all_go (h4 : t_dp T ≤ 4) (h : h_all T L com) (hc : c ∈ L) (h1 : c.1.1 ≠ 1) : (h_go c).toNat < 16 := by
  have d16 := t_d_16 h4
  obtain ⟨j, hj⟩ := List.mem_iff_getElem?.mp hc
  obtain ⟨a1, ⟨a2, a3, _⟩, _⟩ := (h j c hj).2 h1
  omega
/-- behind all changes each leaf is a member's -/
theorem h_ap_lv (h4 : t_dp T ≤ 4) (hv : t_lv T) (hok : ∀ c ∈ L, p_cok c.1) (h : h_all T L com) : t_lv (h_ap T L) := by
  have own := h_all_own h hok
  unfold h_ap h_0 h_fd
  rw [List.take_length]
  refine t_lv_fa L (t_lv_sh (t_lv_fr L ?_ (t_lv_fu L h4 hv (fun c hc c2 => ⟨h_all_go h4 h hc (by omega), ((own c hc).2.2 c2).2⟩)) (fun c hc c2 => h_all_go h4 h hc (by omega)))) (fun c hc c1 => ((own c hc).1 c1).1.1)
  have : t_dp (h_fd h_u1 T L L.length) = t_dp T := h_fu_dp
  unfold h_fd at this
  rw [List.take_length] at this
  rw [this]
  exact h4
theorem h_u_ow : ∀ (P : List w_Ch) {T' : w_T}, t_ow T' = t_ow T → (∀ c ∈ P, c.1.1 = 2 → (h_lf c).1 = t_ow T (h_go c).toNat) → t_ow (P.foldl h_u1 T') = t_ow T
  | [], _, h, _ => h
  | c :: P, T', h, hp => by
    refine h_u_ow P (T' := h_u1 T' c) ?_ (fun d hd => hp d (List.mem_cons_of_mem _ hd))
    unfold h_u1
    by_cases c2 : c.1.1 = 2
    · rw [if_pos c2]
      have e := hp c (List.mem_cons_self ..) c2
      unfold t_bw
      rw [(t_bwn_ow _).1]
      funext j
      show fu (t_ow T') (h_go c).toNat (h_lf c).1 j = t_ow T j
      by_cases ej : j = (h_go c).toNat
      · rw [ej, fu_eq, e]
      · rw [fu_ne ej, h]
    · rw [if_neg c2]; exact h
theorem h_r_ow : ∀ (P : List w_Ch) {T : w_T}, t_ow (P.foldl h_r1 T) = t_ow T
  | [], _ => rfl
  | c :: P, T => by
    have ih := h_r_ow P (T := h_r1 T c)
    refine ih.trans ?_
    unfold h_r1
    by_cases c2 : c.1.1 = 3
    · rw [if_pos c2]
      unfold t_bw
      rw [(t_bwn_ow _).1]
      rfl
    · rw [if_neg c2]
/-- a leaf that is not removed -/
theorem h_ap_oth (h4 : t_dp T ≤ 4) (hok : ∀ c ∈ L, p_cok c.1) (ho : t_is T l) (h : h_all T L com) (hn : ¬ h_rm L (l : Int)) (hr : h_room (h_0 T L) L) : t_ky (h_ap T L) (2 * l) = h_kb T L l ∧ t_ow (h_ap T L) l = t_ow T l ∧ t_is (h_ap T L) l ∧ t_dp (h_ap T L) ≤ 4 := by
  have hok' : ∀ (k : Nat) (c : w_Ch), L[k]? = some c → p_cok c.1 := fun k c hc => hok c (List.mem_of_getElem? hc)
  obtain ⟨z1, z2⟩ := h_0_is (l := l) h4 (h_all_own h hok) hok (h_all_di h)
  have i0 := z1.mpr ⟨ho, hn⟩
  have d0 := h_0_dp (L := L) h4
  have o0 : t_ow (h_0 T L) = t_ow T := by
    unfold h_0 t_sh
    rw [(t_shn_ow _).1]
    unfold h_fd
    rw [List.take_length, h_r_ow]
    exact h_u_ow L rfl (fun c hc c2 => ((h_all_own h hok c hc).2.2 c2).1)
  have s0 := t_lsm_fa d0 hok' hr i0 L.length (Nat.le_refl _)
  exact ⟨s0.1.trans (z2 hn), s0.2.1.trans (by rw [o0]), h_fa_is d0 hok' i0 L.length (Nat.le_refl _) (fun j c _ hc => hr j c hc), (h_fa_dp d0 hok' L.length (Nat.le_refl _) (fun j c _ hc => hr j c hc)).1⟩
theorem h_kb_at : ∀ (P : List w_Ch), (∀ d ∈ P, ¬ (d.1.1 = 2 ∧ h_go d = (l : Int))) → c.1.1 = 2 → h_go c = (l : Int) → h_kb T (P ++ c :: S) l = (h_lf c).2.1
  | [], _, h2, hg => if_pos ⟨h2, hg⟩
  | d :: P, h, h2, hg => by
    show (if d.1.1 = 2 ∧ h_go d = (l : Int) then (h_lf d).2.1 else h_kb T (P ++ c :: S) l) = _
    rw [if_neg (h d (List.mem_cons_self ..))]
    exact h_kb_at P (fun e he => h e (List.mem_cons_of_mem _ he)) h2 hg
theorem h_kb_no : ∀ (P : List w_Ch), (∀ d ∈ P, ¬ (d.1.1 = 2 ∧ h_go d = (l : Int))) → h_kb T P l = t_ky T (2 * l)
  | [], _ => rfl
  | d :: P, h => by
    show (if d.1.1 = 2 ∧ h_go d = (l : Int) then (h_lf d).2.1 else h_kb T P l) = _
    rw [if_neg (h d (List.mem_cons_self ..))]
    exact h_kb_no P (fun e he => h e (List.mem_cons_of_mem _ he))
/-- the key of a leaf that an UPDATE changes -/
theorem h_kb_c (h : h_all T L com) (hc : c ∈ L) (h2 : c.1.1 = 2) (hg : h_go c = (l : Int)) : h_kb T L l = (h_lf c).2.1 := by
  obtain ⟨j, hj⟩ := List.mem_iff_getElem?.mp hc
  have jl : j < L.length := (List.getElem?_eq_some_iff.mp hj).1
  have e : L = L.take j ++ c :: L.drop (j + 1) := by
    rw [← h_drop hj, List.take_append_drop]
  have di := ((h j c hj).2 (by omega)).2.2.1
  rw [e]
  exact h_kb_at _ (fun d hd k => di d hd (by omega) (k.2.trans hg.symm)) h2 hg
end
