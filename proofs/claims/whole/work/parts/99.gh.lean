/-! ===== what a commit is ===== -/
noncomputable section
/-- with a path or without -/
def k_wp (x2 : Int) (L : List w_Ch) : Int := @ite _ (x2 ≠ 0 ∨ h_mp L) (Classical.propDecidable _) 1 0
def k_ad (G : w_G) (L : List w_Ch) : List (Nat × Nat) := h_ads (h_0 (gg_T G) L) L L.length
def k_ms (G : w_G) (L : List w_Ch) : Int := h_msk (h_0 (gg_T G) L) L L.length
def k_T1 (G : w_G) (L : List w_Ch) : w_T := h_ap (gg_T G) L
def k_T2 (G : w_G) (m nn : Nat) (wp : Int) (L : List w_Ch) : w_T := if wp = 0 then k_T1 G L else w_pT2 (k_T1 G L) (gg_lf G) m nn
def k_cs (G : w_G) (nn : Nat) (wp : Int) (L : List w_Ch) : Wt := if wp = 0 then w_z else w_pcs (k_T1 G L) (gg_lf G) nn
def k_nn (G : w_G) (nn : Nat) (wp : Int) (L : List w_Ch) : Nat := if wp = 0 then nn else w_pnn (k_T1 G L) (gg_lf G) nn
def k_lt (G : w_G) (m nn : Nat) (wp : Int) (L : List w_Ch) : List Wt := if wp = 0 then w_ch0 G L ++ [w_by 0] else w_ch0 G L ++ [w_by 1] ++ w_ptx (k_T1 G L) (gg_lf G) m nn (k_ms G L)
def k_hd (G : w_G) (nn : Nat) (wp : Int) (L : List w_Ch) : Nat → Wt := if wp = 0 then w_hcy G (k_T1 G L) else w_hp G (k_T1 G L) (gg_lf G) nn
/-- the next group, its message, its WELCOME -/
def k_G (G : w_G) (m nn : Nat) (wp : Int) (L : List w_Ch) : w_G := w_Gn G (k_T2 G m nn wp L) m (k_cs G nn wp L) (k_lt G m nn wp L) (k_hd G nn wp L)
def k_M (G : w_G) (m nn : Nat) (wp : Int) (L : List w_Ch) : List Wt := w_cM G (k_T2 G m nn wp L) m (k_cs G nn wp L) (k_lt G m nn wp L)
def k_cm (G : w_G) (m nn : Nat) (wp : Int) (L : List w_Ch) : Wt := w_cm2 G (k_T2 G m nn wp L) m (k_cs G nn wp L) (k_lt G m nn wp L)
def k_W (G : w_G) (m nn : Nat) (wp : Int) (L : List w_Ch) : List Wt := w_weM m (k_G G m nn wp L) (k_cm G m nn wp L) (w_weH (k_T1 G L) (gg_lf G) (w_nm (nn + 1)) wp (w_jnr G (k_cs G nn wp L)) L (k_ad G L))
/-- what it makes -/
def k_S (G : w_G) (m nn : Nat) (wp : Int) (L : List w_Ch) (v : Wt) : Prop := (wp ≠ 0 ∧ w_ptS (k_T1 G L) (gg_lf G) m nn (k_ms G L) v) ∨ w_cmS G (k_T2 G m nn wp L) m (k_cs G nn wp L) (k_lt G m nn wp L) v ∨ (∃ (p j : Nat) (c : w_Ch), (p, j) ∈ k_ad G L ∧ L[j]? = some c ∧ v ∈ w_w1 (k_T1 G L) (gg_lf G) (w_nm (nn + 1)) wp (w_jnr G (k_cs G nn wp L)) p c) ∨ v = w_t 7 (w_nm m) [] [] (w_inf (k_G G m nn wp L) (k_cm G m nn wp L))
/-- messages and knowledge behind it -/
def k_ms2 (G : w_G) (m nn : Nat) (wp : Int) (L : List w_Ch) : List (List Wt) := if k_ad G L = [] then [k_M G m nn wp L] else [k_M G m nn wp L, k_W G m nn wp L]
def k_K (K : Wt → Prop) (G : w_G) (m nn : Nat) (wp : Int) (L : List w_Ch) : Wt → Prop := (k_ms2 G m nn wp L).foldl w_lrs K
/-- what holds of the group of member m -/
def g_iv (m : Nat) (G : w_G) : Prop := t_inv (gg_T G) ∧ t_ow (gg_T G) (gg_lf G) = (m : Int) ∧ t_sk (gg_T G) (gg_lf G) = w_pub m ∧ (∀ l', l' ≠ gg_lf G → gg_hd G (2 * l') = []) ∧ t_ky (gg_T G) (2 * gg_lf G) = w_p5 (gg_hd G (2 * gg_lf G)) ∧ t_ok (gg_T G)
variable {G : w_G} {T : w_T} {L : List w_Ch} {m nn l x : Nat} {wp x2 com : Int}
theorem k_wp_01 : k_wp x2 L = 0 ∨ k_wp x2 L = 1 := by
  unfold k_wp
  by_cases c : x2 ≠ 0 ∨ h_mp L
  · rw [if_pos c]; exact Or.inr rfl
  · rw [if_neg c]; exact Or.inl rfl
theorem g_lf (h : gg_ok G) : gg_lf G < 2 ^ t_dp (gg_T G) := by
  have a := h.2.1
  rw [t_w_e] at a
  have : 0 < 2 ^ t_dp (gg_T G) := Nat.two_pow_pos _
  omega
theorem g_is (h : gg_ok G) : t_is (gg_T G) (gg_lf G) := ⟨g_lf h, h.2.2.1⟩
/-- changes that go -/
theorem k_dn (h : L = [] ∨ h_done T L com) : h_all T L com ∧ h_room (h_0 T L) L := by
  rcases h with rfl | h
  · exact ⟨h_all_nil, h_room_nil⟩
  · exact ⟨h.1, h.2.1⟩
theorem t_ok_fold {op : w_T → w_Ch → w_T} (ho : ∀ T c, c ∈ L → t_ok T → t_ok (op T c)) : ∀ (P : List w_Ch) {T : w_T}, (∀ c ∈ P, c ∈ L) → t_ok T → t_ok (P.foldl op T)
  | [], _, _, h => h
  | c :: P, _, hp, h => t_ok_fold ho P (fun d hd => hp d (List.mem_cons_of_mem _ hd)) (ho _ _ (hp c (List.mem_cons_self ..)) h)
theorem t_ok_h0 (hok : ∀ c ∈ L, p_cok c.1) (h : t_ok T) : t_ok (h_0 T L) := by
  unfold h_0 h_fd
  refine t_ok_shn _ (t_ok_fold (L := L) (fun T c _ ht => ?_) _ (fun d hd => List.mem_of_mem_take hd) (t_ok_fold (L := L) (fun T c hc ht => ?_) _ (fun d hd => List.mem_of_mem_take hd) h))
  · unfold h_r1
    by_cases c3 : c.1.1 = 3
    · rw [if_pos c3]; exact t_ok_bw (t_ok_bl ht)
    · rw [if_neg c3]; exact ht
  · unfold h_u1
    by_cases c2 : c.1.1 = 2
    · rw [if_pos c2]; exact t_ok_bw (t_ok_put ht ((hok c hc).2.1 (by omega)))
    · rw [if_neg c2]; exact ht
theorem h_0_inv (h4 : t_dp T ≤ 4) (hi : t_inv T) (hok : ∀ c ∈ L, p_cok c.1) (h : h_all T L com) : t_inv (h_0 T L) := by
  have hg : ∀ c ∈ L, c.1.1 ≠ 1 → (h_go c).toNat < 2 ^ t_dp T := fun c hc h1 => by
    obtain ⟨j, hj⟩ := List.mem_iff_getElem?.mp hc
    obtain ⟨_, ⟨a2, a3, _⟩, _⟩ := (h j c hj).2 h1
    omega
  have eu : h_fd h_u1 T L L.length = L.foldl h_u1 T := by unfold h_fd; rw [List.take_length]
  have er : h_fd h_r1 (h_fd h_u1 T L L.length) L L.length = L.foldl h_r1 (L.foldl h_u1 T) := by unfold h_fd; rw [List.take_length]
  have du : t_dp (L.foldl h_u1 T) = t_dp T := by rw [← eu]; exact h_fu_dp
  unfold h_0
  rw [er]
  exact t_inv_sh (t_inv_fr L (by rw [du]; exact h4) (t_inv_fu L h4 hi (fun c hc => ⟨hok c hc, hg c hc⟩)) (fun c hc h1 => by rw [du]; exact hg c hc h1))
/-- the tree behind the changes -/
theorem k_T1_ok (hg : gg_ok G) (hi : g_iv m G) (hok : ∀ c ∈ L, p_cok c.1) (h5 : h_p5 L) (hd : L = [] ∨ h_done (gg_T G) L (gg_lf G)) : t_ok (k_T1 G L) ∧ t_inv (k_T1 G L) ∧ t_pk (k_T1 G L) ∧ t_lsm (gg_T G) (k_T1 G L) (gg_lf G) ∧ t_is (k_T1 G L) (gg_lf G) := by
  obtain ⟨ha, hr⟩ := k_dn hd
  obtain ⟨i1, i2, i3, i4, i5, i6⟩ := hi
  obtain ⟨o1, o2, o3⟩ := h_ap_own i6.1 hok (g_is hg) ha hr
  have k0 := t_ok_h0 hok i6
  have hok' : ∀ (k : Nat) (c : w_Ch), L[k]? = some c → p_cok c.1 := fun k c hc => hok c (List.mem_of_getElem? hc)
  refine ⟨(t_ok_fa k0 ?_ hok' hr L.length (Nat.le_refl _)).1, h_ap_inv i6.1 i1 k0 hok ha hr, t_pk_ap h5 hg.2.2.2.1, o1, o2⟩
  exact h_0_inv i6.1 i1 hok ha
theorem k_T2_ok (hm : m < 24) (hg : gg_ok G) (hi : g_iv m G) (hok : ∀ c ∈ L, p_cok c.1) (h5 : h_p5 L) (hd : L = [] ∨ h_done (gg_T G) L (gg_lf G)) : t_ok (k_T2 G m nn wp L) ∧ t_inv (k_T2 G m nn wp L) ∧ t_pk (k_T2 G m nn wp L) ∧ t_dp (k_T2 G m nn wp L) = t_dp (k_T1 G L) ∧ t_ow (k_T2 G m nn wp L) (gg_lf G) = (m : Int) ∧ t_sk (k_T2 G m nn wp L) (gg_lf G) = w_pub m ∧ t_ky (k_T2 G m nn wp L) (2 * gg_lf G) = w_p5 (k_hd G nn wp L (2 * gg_lf G)) := by
  obtain ⟨a1, a2, a3, a4, a5⟩ := k_T1_ok hg hi hok h5 hd
  have d16 := t_d_16 a1.1
  have l16 : gg_lf G < 16 := by have := a5.1; omega
  unfold k_T2 k_hd
  by_cases c : wp = 0
  · rw [if_pos c, if_pos c]
    refine ⟨a1, a2, a3, rfl, a4.2.1.trans hi.2.1, a4.2.2.trans hi.2.2.1, ?_⟩
    have e : w_hcy G (k_T1 G L) (2 * gg_lf G) = gg_hd G (2 * gg_lf G) := by unfold w_hcy; rw [if_pos ⟨hg.2.1, a5.2, a4.1⟩]
    rw [e, a4.1]
    exact hi.2.2.2.2.1
  · rw [if_neg c, if_neg c]
    refine ⟨t_ok_pT2 l16 hm a1, t_inv_pT2 l16 a1.1 a2, t_pk_pT2 a3, t_pT2_dp, fu_eq, fu_eq, ?_⟩
    have e : w_hp G (k_T1 G L) (gg_lf G) nn (2 * gg_lf G) = w_nm nn := by unfold w_hp; rw [if_pos rfl]
    rw [e]
    exact fu_eq
theorem w_hcy_bl (h : t_ky T x = []) : w_hcy G T x = [] := by
  unfold w_hcy
  rw [if_neg (fun c => c.2.1 h)]
theorem w_hcy_lf (hA : ∀ l', l' ≠ gg_lf G → gg_hd G (2 * l') = []) {l' : Nat} (h : l' ≠ gg_lf G) : w_hcy G T (2 * l') = [] := by
  unfold w_hcy
  by_cases c : 2 * l' < t_w (gg_T G) ∧ t_ky T (2 * l') ≠ [] ∧ t_ky T (2 * l') = t_ky (gg_T G) (2 * l')
  · rw [if_pos c]; exact hA l' h
  · rw [if_neg c]
theorem k_iv (hm : m < 24) (hg : gg_ok G) (hi : g_iv m G) (hok : ∀ c ∈ L, p_cok c.1) (h5 : h_p5 L) (hd : L = [] ∨ h_done (gg_T G) L (gg_lf G)) : gg_ok (k_G G m nn wp L) ∧ g_iv m (k_G G m nn wp L) := by
  obtain ⟨a1, a2, a3, a4, a5⟩ := k_T1_ok hg hi hok h5 hd
  obtain ⟨b1, b2, b3, b4, b5, b6, b7⟩ := k_T2_ok (wp := wp) (nn := nn) hm hg hi hok h5 hd
  have d16 := t_d_16 a1.1
  have l1 := a5.1
  have w31 := t_w_4 a1.1
  refine ⟨⟨sw_w_c _, ?_, ?_, b3, ?_⟩, b2, b5, b6, ?_, b7, b1⟩
  · show 2 * gg_lf G < t_w (k_T2 G m nn wp L)
    rw [t_dp_w b4, t_w_e]
    omega
  · show t_ky (k_T2 G m nn wp L) (2 * gg_lf G) ≠ []
    rw [b7]
    exact List.cons_ne_nil _ _
  · intro x hx hk
    have hx : x < t_w (k_T2 G m nn wp L) := hx
    rw [t_dp_w b4] at hx
    have hk : t_ky (k_T2 G m nn wp L) x = [] := hk
    show k_hd G nn wp L x = []
    unfold k_hd
    unfold k_T2 at hk
    by_cases c : wp = 0
    · rw [if_pos c] at hk ⊢
      exact w_hcy_bl hk
    · rw [if_neg c] at hk ⊢
      unfold w_hp
      by_cases c1 : x = 2 * gg_lf G
      · rw [c1] at hk
        have : t_ky (w_pT2 (k_T1 G L) (gg_lf G) m nn) (2 * gg_lf G) = w_p5 (w_nm nn) := fu_eq
        rw [this] at hk
        exact absurd hk (List.cons_ne_nil _ _)
      · rw [if_neg c1]
        by_cases c2 : x % 2 = 1 ∧ x = t_ab (gg_lf G) (w_h x) ∧ w_h x ≤ t_dp (k_T1 G L)
        · rw [if_pos c2]
          obtain ⟨a, b, c⟩ := c2
          have h0 : w_h x ≠ 0 := fun e => by
            have := (w_h_0 ⟨x, by omega⟩).mp e
            have : x % 2 = 0 := this
            omega
          obtain ⟨j, ej⟩ : ∃ j, w_h x = j + 1 := ⟨w_h x - 1, by omega⟩
          rw [ej, Nat.add_sub_cancel]
          rw [ej] at b c
          by_cases c3 : t_cb (k_T1 G L) (gg_lf G) j = 0
          · rw [if_pos c3]
          · rw [b, w_pT2_on l1 a1.1 (by omega), if_neg c3] at hk
            exact absurd hk (List.cons_ne_nil _ _)
        · rw [if_neg c2]
          refine w_hcy_bl ?_
          rw [w_pT2_of2 a1.1 c1 (fun j hj e => c2 ?_)] at hk
          · exact hk
          · have e1 : w_h (t_ab (gg_lf G) (j + 1)) = j + 1 := (w_h_ab ⟨gg_lf G, by omega⟩ ⟨j + 1, by have := a1.1; omega⟩).1
            have d4 := a1.1
            rw [e, e1]
            exact ⟨t_ab_o (by omega) (by omega) (by omega), rfl, hj⟩
  · intro l' hl'
    show k_hd G nn wp L (2 * l') = []
    unfold k_hd
    by_cases c : wp = 0
    · rw [if_pos c]; exact w_hcy_lf hi.2.2.2.1 hl'
    · rw [if_neg c]
      unfold w_hp
      rw [if_neg (fun e => hl' (by show l' = gg_lf G; omega)), if_neg (fun e => by omega)]
      exact w_hcy_lf hi.2.2.2.1 hl'
/-- who is added -/
theorem k_ad_ok (hg : gg_ok G) (hi : g_iv m G) (hok : ∀ c ∈ L, p_cok c.1) (h5 : h_p5 L) (hd : L = [] ∨ h_done (gg_T G) L (gg_lf G)) : (k_ad G L).length ≤ 16 ∧ (0 ≤ k_ms G L ∧ k_ms G L < 65536) ∧ ∀ (i p j : Nat), (k_ad G L)[i]? = some (p, j) → p < 2 ^ t_dp (k_T1 G L) ∧ (∃ k, k < t_dp (k_T1 G L) ∧ t_cb (k_T1 G L) (gg_lf G) k ≠ 0 ∧ t_ab p (k + 1) = t_ab (gg_lf G) (k + 1)) ∧ ∃ c : w_Ch, L[j]? = some c ∧ c.1.1 = 1 := by
  obtain ⟨ha, hr⟩ := k_dn hd
  obtain ⟨a1, a2, a3, a4, a5⟩ := k_T1_ok hg hi hok h5 hd
  have h4 := hi.2.2.2.2.2.1
  have h0 : t_dp (h_0 (gg_T G) L) ≤ 4 := h_0_dp h4
  have hok' : ∀ (k : Nat) (c : w_Ch), L[k]? = some c → p_cok c.1 := fun k c hc => hok c (List.mem_of_getElem? hc)
  refine ⟨?_, h_msk_ok hr L.length (Nat.le_refl _), fun i p j hp => ?_⟩
  · have := (h_fa_dp h0 hok' L.length (Nat.le_refl _) (fun j c hj hc h1 => hr j c hc h1)).2
    have n1 := t_nl_le (T := h_fd h_a1 (h_0 (gg_T G) L) L L.length)
    unfold k_ad
    omega
  · obtain ⟨b1, b2, b3⟩ := h_ads_is h0 hok' hr L.length (Nat.le_refl _) p j (List.mem_of_getElem? hp)
    have b1 : t_is (k_T1 G L) p := b1
    have ne := b2 (gg_lf G) (h_all_is h4 hok (g_is hg) ha)
    exact ⟨b1.1, t_meet a1.1 a5.1 b1 ne, b3⟩
end
