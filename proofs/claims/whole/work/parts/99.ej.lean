/-! ===== the reference: isDone ===== -/
noncomputable section
def h_u1 (T : w_T) (c : w_Ch) : w_T := if c.1.1 = 2 then t_bw (t_put T (h_go c).toNat (h_lf c)) (h_go c).toNat else T
def h_r1 (T : w_T) (c : w_Ch) : w_T := if c.1.1 = 3 then t_bw (t_bl T (2 * (h_go c).toNat)) (h_go c).toNat else T
def h_a1 (T : w_T) (c : w_Ch) : w_T := if c.1.1 = 1 then t_add T (h_lf c) else T
/-- the first k of the list are done -/
def h_fd (op : w_T → w_Ch → w_T) (T : w_T) (L : List w_Ch) (k : Nat) : w_T := (L.take k).foldl op T
def h_0 (T : w_T) (L : List w_Ch) : w_T := t_sh (h_fd h_r1 (h_fd h_u1 T L L.length) L L.length)
def h_ap (T : w_T) (L : List w_Ch) : w_T := h_fd h_a1 (h_0 T L) L L.length
def h_room (T0 : w_T) (L : List w_Ch) : Prop := ∀ (k : Nat) (c : w_Ch), L[k]? = some c → c.1.1 = 1 → t_fl (h_fd h_a1 T0 L k) < 16
def h_done (T : w_T) (L : List w_Ch) (com : Int) : Prop := h_all T L com ∧ h_room (h_0 T L) L ∧ t_one (h_ap T L)
def h_kn (L : List w_Ch) (k : Nat) : Int := ((L[k]?).map (fun d => d.1.1)).getD 0
/-- the set of the leaves that are added -/
def h_msk (T0 : w_T) (L : List w_Ch) : Nat → Int
  | 0 => 0
  | k + 1 => if h_kn L k = 1 then sw_or (h_msk T0 L k) ((2 ^ t_fl (h_fd h_a1 T0 L k) : Nat) : Int) else h_msk T0 L k
/-- leaves that are added, and which change adds them -/
def h_ads (T0 : w_T) (L : List w_Ch) : Nat → List (Nat × Nat)
  | 0 => []
  | k + 1 => if h_kn L k = 1 then h_ads T0 L k ++ [(t_fl (h_fd h_a1 T0 L k), k)] else h_ads T0 L k
def m_ad (I : sr_V) (T0 : w_T) (L : List w_Ch) (k : Nat) : Prop := I 1000 83 = h_msk T0 L k ∧ I 1000 84 = ((h_ads T0 L k).length : Nat) ∧ ∀ i p j, (h_ads T0 L k)[i]? = some (p, j) → I 85 i = (p : Nat) ∧ I 86 i = (j : Nat)
section
variable {T T0 : w_T} {L : List w_Ch} {d : w_Ch} {k n : Nat} {op : w_T → w_Ch → w_T}
theorem h_kn_e (h : L[k]? = some d) : h_kn L k = d.1.1 := by unfold h_kn; rw [h]; rfl
theorem h_fd_0 : h_fd op T L 0 = T := rfl
theorem h_fd_s (h : L[k]? = some d) : h_fd op T L (k + 1) = op (h_fd op T L k) d := by
  unfold h_fd
  rw [List.take_add_one, h, List.foldl_append]
  rfl
theorem h_u1_dp : t_dp (h_u1 T d) = t_dp T := by
  unfold h_u1
  by_cases c : d.1.1 = 2
  · rw [if_pos c, t_bw_dp]; rfl
  · rw [if_neg c]
theorem h_r1_dp : t_dp (h_r1 T d) = t_dp T := by
  unfold h_r1
  by_cases c : d.1.1 = 3
  · rw [if_pos c, t_bw_dp]; rfl
  · rw [if_neg c]
theorem h_fl_dp (h : ∀ T d, t_dp (op T d) = t_dp T) : ∀ (P : List w_Ch) (T : w_T), t_dp (P.foldl op T) = t_dp T
  | [], _ => rfl
  | p :: P, T => (h_fl_dp h P (op T p)).trans (h T p)
theorem h_fu_dp : t_dp (h_fd h_u1 T L k) = t_dp T := h_fl_dp (fun _ _ => h_u1_dp) _ _
theorem h_fr_dp : t_dp (h_fd h_r1 T L k) = t_dp T := h_fl_dp (fun _ _ => h_r1_dp) _ _
theorem h_msk_ok (hr : h_room T0 L) : ∀ k, k ≤ L.length → 0 ≤ h_msk T0 L k ∧ h_msk T0 L k < 65536
  | 0, _ => ⟨Int.le_refl 0, (by decide : (0 : Int) < 65536)⟩
  | k + 1, hk => by
    have h := h_msk_ok hr k (by omega)
    unfold h_msk
    by_cases c : h_kn L k = 1
    · rw [if_pos c]
      obtain ⟨d, hd⟩ := h_get (L := L) (k := k) (by omega)
      rw [h_kn_e hd] at c
      have := t_2_16 (hr k d hd c)
      obtain ⟨a, b, _⟩ := sw_or_h (b := ((2 ^ t_fl (h_fd h_a1 T0 L k) : Nat) : Int)) h.1 h.2 (Int.natCast_nonneg _) (by omega)
      exact ⟨a, b⟩
    · rw [if_neg c]; exact h
theorem h_fa_dp (h0 : t_dp T0 ≤ 4) (hok : ∀ (k : Nat) (c : w_Ch), L[k]? = some c → p_cok c.1) : ∀ k, k ≤ L.length → (∀ j c, j < k → L[j]? = some c → c.1.1 = 1 → t_fl (h_fd h_a1 T0 L j) < 16) → t_dp (h_fd h_a1 T0 L k) ≤ 4 ∧ (h_ads T0 L k).length + t_nl T0 = t_nl (h_fd h_a1 T0 L k)
  | 0, _, _ => ⟨h0, by show 0 + t_nl T0 = t_nl T0; omega⟩
  | k + 1, hk, hr => by
    obtain ⟨a, b⟩ := h_fa_dp h0 hok k (by omega) (fun j c hj => hr j c (by omega))
    obtain ⟨d, hd⟩ := h_get (L := L) (k := k) (by omega)
    rw [h_fd_s hd]
    have e := h_kn_e hd
    unfold h_a1 h_ads
    rw [e]
    by_cases c : d.1.1 = 1
    · rw [if_pos c, if_pos c]
      have hl := hr k d (by omega) hd c
      have hf : (h_lf d).2.1 ≠ [] := ((hok k d hd).2.1 (by omega)).2.2.2.2.2
      refine ⟨by rw [t_add_dp]; exact (t_room_dp a hl).1, ?_⟩
      show (h_ads T0 L k ++ [_]).length + _ = t_nl (t_add (h_fd h_a1 T0 L k) (h_lf d))
      rw [t_nl_add a hl hf, List.length_append, List.length_singleton, ← b]
      omega
    · rw [if_neg c, if_neg c]; exact ⟨a, b⟩
theorem h_fa_is {o : Nat} (h0 : t_dp T0 ≤ 4) (hok : ∀ (k : Nat) (c : w_Ch), L[k]? = some c → p_cok c.1) (ho : t_is T0 o) : ∀ k, k ≤ L.length → (∀ j c, j < k → L[j]? = some c → c.1.1 = 1 → t_fl (h_fd h_a1 T0 L j) < 16) → t_is (h_fd h_a1 T0 L k) o
  | 0, _, _ => ho
  | k + 1, hk, hr => by
    have ih := h_fa_is h0 hok ho k (by omega) (fun j c hj => hr j c (by omega))
    have a := (h_fa_dp h0 hok k (by omega) (fun j c hj => hr j c (by omega))).1
    obtain ⟨d, hd⟩ := h_get (L := L) (k := k) (by omega)
    rw [h_fd_s hd]
    unfold h_a1
    by_cases c : d.1.1 = 1
    · rw [if_pos c]
      have hf : (h_lf d).2.1 ≠ [] := ((hok k d hd).2.1 (by omega)).2.2.2.2.2
      exact (t_add_is a (hr k d (by omega) hd c) hf).mpr (Or.inr ih)
    · rw [if_neg c]; exact ih
end
variable {o : Nat} {I I0 J X : sr_V} {nn fr mi s u k h : Nat} {K K' : Wt → Prop} {tl mk mm l : List Wt} {a b c y n S src m so com : Int} {Q : Int → sr_V → Prop} {R : sr_V → Prop} {x i e : Nat} {T T0 T' T'' : w_T} {f : p_L} {L : List w_Ch} {d : w_Ch} {P : Nat → Nat → Prop}
def m_pdl (f k : Nat) : Prop := m_pd f k ∨ m_pl 48 f k
/-- what isDone touches -/
def m_pdn (f k : Nat) : Prop := m_pdl f k ∨ (f = 1000 ∧ (k = 83 ∨ k = 84)) ∨ f = 85 ∨ f = 86
theorem m_li_pdn (h : m_li I mk K L) (g : m_gp m_pdn I J) : m_li J mk K L := m_li_gp h g (fun f k p => by unfold m_pdn m_pdl m_pd m_pl at p; omega)
theorem m_li_pdl (h : m_li I mk K L) (g : m_gp m_pdl I J) : m_li J mk K L := m_li_gp h g (fun f k p => by unfold m_pdl m_pd m_pl at p; omega)
theorem m_pdl_d (g : m_gp m_pd I J) : m_gp m_pdl I J := m_gp_sub g (fun _ _ p => Or.inl p)
theorem m_pdl_l (g : m_gp (m_pl 48) I J) : m_gp m_pdl I J := m_gp_sub g (fun _ _ p => Or.inr p)
theorem m_pdn_l (g : m_gp m_pdl I J) : m_gp m_pdn I J := m_gp_sub g (fun _ _ p => Or.inl p)
theorem m_hr_eq (e : ∀ x, x < t_w T → J 44 (31 * s + x) = I 44 (31 * s + x)) : m_hr o I s T J s T := fun x hx => Or.inr ⟨hx, e x hx, rfl⟩
theorem m_hr_pd (g : m_gp m_pd I J) : m_hr o I s T J s T := m_hr_eq (fun x _ => g 44 _ (by unfold m_pd; omega))
theorem m_co_lr {v : p_C} {s2 : Nat × Nat} (hco : m_co J mk fr s2 v) (h : v.1 = 1 ∨ v.1 = 2) : m_lr J mk v.2.1.2.1 := by
  obtain ⟨kd, ⟨ik, ⟨m, ky, p, so, ph, g0⟩, g⟩, n⟩ := v
  obtain ⟨_, h1, h2, _⟩ := hco
  rcases h with c | c
  · obtain ⟨j, _, _, j3, _⟩ := h1 c
    exact ⟨j3.1, j3.2.1, j3.2.2.1, j3.2.2.2.1, j3.2.2.2.2.1, j3.2.2.2.2.2.1⟩
  · obtain ⟨j, _, j3, _⟩ := h2 c
    exact ⟨j3.1, j3.2.1, j3.2.2.1, j3.2.2.2.1, j3.2.2.2.2.1, j3.2.2.2.2.2.1⟩
theorem r_dn_2 (hs : s < 24) (hL : m_L I0 mk nn K' tl) (hM : m_me I0 mk) (hT : m_tr I0 mk s T) (hli : m_li I0 mk K L) (q0 : ∀ J, ¬ h_all T L com → m_gp m_pd I0 J → Q 0 J) (q1 : ∀ J, h_all T L com → m_gp m_pd I0 J → rm_105 s 48 J (fun X => rb_96_35 Q X)) : ∀ (n k : Nat) {I : sr_V}, m_gp m_pd I0 I → k ≤ L.length → L.length - k < n → (∀ j c, j < k → L[j]? = some c → h_it T L com (L.take j) c) → rl_96_2 Q n s com k I
  | 0, _, _, _, _, h, _ => by omega
  | n + 1, k, I, gI, hk, hn, hp => by
    have li := m_li_pd hli gI
    have b1 := hli.2.1
    unfold rl_96_2
    intro v ev _
    rw [li.1] at ev
    subst ev
    refine ⟨fun c => ⟨fun c2 => by omega, fun _ => q1 I (fun j c hj => hp j c (by have := h_lt hj; omega) hj) gI⟩, fun c => ⟨by omega, by omega, ?_⟩⟩
    obtain ⟨d, hd⟩ := h_get (L := L) (k := k) (by omega)
    obtain ⟨_, _, e79, _⟩ := li.2.2.2 k d hd
    intro v ev _
    rw [Int.toNat_natCast, e79] at ev
    subst ev
    have next : ∀ {J : sr_V}, m_gp m_pd I J → h_it T L com (L.take k) d → rb_96_26 Q (rl_96_2 Q n) s com k J := fun {J} gJ hx => by
      unfold rb_96_26
      intro y ey
      rw [sw_s1 (by omega)] at ey
      subst ey
      exact r_dn_2 hs hL hM hT hli q0 q1 n (k + 1) (m_gp_trans gI gJ) (by omega) (by omega) (fun j c hj hc => by
        rcases Nat.lt_or_ge j k with g | g
        · exact hp j c g hc
        · have ej : j = k := by omega
          subst ej
          rw [hd] at hc
          cases hc
          exact hx)
    refine ⟨fun c1 => ?_, fun c1 => ?_⟩
    · refine r_isChangeRight (com := com) (by omega) (m_L_pd hL gI) (m_me_pd hM gI) (m_tr_pd hT gI) li hd c1 (fun z J hz gJ => ?_)
      intro _
      rcases hz with ⟨rfl, hz⟩ | ⟨rfl, hz⟩
      · exact ⟨fun _ => next gJ ⟨fun c => absurd c c1, fun _ => hz⟩, fun e => absurd e (by decide)⟩
      · exact ⟨fun e => absurd rfl e, fun _ => q0 J (fun hh => hz ((hh k d hd).2 c1)) (m_gp_trans gI gJ)⟩
    · refine r_isAddRight (by omega) (m_L_pd hL gI) (m_me_pd hM gI) (m_tr_pd hT gI) li hd c1 (fun z J hz gJ => ?_)
      intro _
      rcases hz with ⟨rfl, hz⟩ | ⟨rfl, hz⟩
      · exact ⟨fun _ => next gJ ⟨fun _ => hz, fun c => absurd c1 c⟩, fun e => absurd e (by decide)⟩
      · exact ⟨fun e => absurd rfl e, fun _ => q0 J (fun hh => hz ((hh k d hd).1 c1)) (m_gp_trans gI gJ)⟩
theorem r_dn_37 (hno : ∀ (k : Nat) (c : w_Ch), L[k]? = some c → c.1.1 = 2 → h_go c ≠ (o : Int)) (hg : ∀ (k : Nat) (c : w_Ch), L[k]? = some c → c.1.1 ≠ 1 → 0 ≤ h_go c ∧ (h_go c).toNat < 2 ^ t_dp T) : ∀ (n k : Nat) {I : sr_V}, m_li I mk K L → m_tr I mk 48 (h_fd h_u1 T L k) → k ≤ L.length → L.length - k < n → (∀ J, m_tr J mk 48 (h_fd h_u1 T L L.length) → m_hr o I 48 (h_fd h_u1 T L k) J 48 (h_fd h_u1 T L L.length) → m_gp m_pdl I J → ∃ n69, rl_96_69 Q n69 0 J) → rl_96_37 Q n k I
  | 0, _, _, _, _, _, h, _ => by omega
  | n + 1, k, I, li, hT, hk, hn, q => by
    have b1 := li.2.1
    unfold rl_96_37
    intro v ev _
    rw [li.1] at ev
    subst ev
    refine ⟨fun c => ?_, fun c => ⟨by omega, by omega, ?_⟩⟩
    · have e : k = L.length := by omega
      rw [e] at hT q
      exact q I hT m_hr_refl (m_gp_refl _ _)
    · obtain ⟨d, hd⟩ := h_get (L := L) (k := k) (by omega)
      obtain ⟨_, _, e79, e80, dok, _⟩ := li.2.2.2 k d hd
      have ed : t_dp (h_fd h_u1 T L k) = t_dp T := h_fu_dp
      have d4 := hT.1.1
      have d16 := t_d_16 d4
      rw [ed] at d16
      have es : h_fd h_u1 T L (k + 1) = h_u1 (h_fd h_u1 T L k) d := h_fd_s hd
      have step : ∀ {J : sr_V}, m_tr J mk 48 (h_u1 (h_fd h_u1 T L k) d) → m_hr o I 48 (h_fd h_u1 T L k) J 48 (h_u1 (h_fd h_u1 T L k) d) → m_gp m_pdl I J → rb_96_65 Q (rl_96_37 Q n) k J := fun {J} tJ hJ gJ => by
        unfold rb_96_65
        intro y ey
        rw [sw_s1 (by omega)] at ey
        subst ey
        exact r_dn_37 hno hg n (k + 1) (m_li_pdl li gJ) (by rw [es]; exact tJ) (by omega) (by omega) (fun X tX hX gX => q X tX (m_hr_trans hJ (by rw [es] at hX; exact hX)) (m_gp_trans gJ gX))
      intro v ev _
      rw [Int.toNat_natCast, e79] at ev
      subst ev
      refine ⟨fun c2 => ?_, fun c2 => step (by unfold h_u1; rw [if_neg c2]; exact hT) (by unfold h_u1; rw [if_neg c2]; exact m_hr_refl) (m_gp_refl _ _)⟩
      obtain ⟨g0, g1⟩ := hg k d hd (by omega)
      obtain ⟨gn, eg⟩ : ∃ gn : Nat, h_go d = gn := ⟨(h_go d).toNat, by omega⟩
      have eu : h_u1 (h_fd h_u1 T L k) d = t_bw (t_put (h_fd h_u1 T L k) gn (h_lf d)) gn := by
        unfold h_u1; rw [if_pos c2, eg, Int.toNat_natCast]
      rw [eg, Int.toNat_natCast] at g1
      rw [eu] at step
      refine r_readL li hd (fun J fr l i e s2 _ _ _ hco _ _ fJ => ?_)
      have gJ := m_pd_F fJ
      have lJ := m_li_pd li gJ
      refine ⟨by omega, by omega, ?_⟩
      intro v ev _
      rw [Int.toNat_natCast, (lJ.2.2.2 k d hd).2.2.2.1, eg] at ev
      subst ev
      have tJ := m_tr_pd hT gJ
      refine r_putLeaf (s := 48) (by decide) (by omega) ?_
      have tP := m_tr_put (k := gn) tJ (m_co_lr hco (Or.inr c2)) (dok.2.1 (by omega))
      refine ⟨by omega, by omega, ?_⟩
      intro v ev _
      have e80' : m_plf J (31 * 48 + 2 * gn) 80 k = (gn : Int) := by rw [m_plf_ne (by omega), (lJ.2.2.2 k d hd).2.2.2.1, eg]
      rw [Int.toNat_natCast, e80'] at ev
      subst ev
      refine r_blankWay (o := o) (s := 48) (k := gn) (by decide) (by show gn < 2 ^ t_dp (h_fd h_u1 T L k); rw [ed]; exact g1) tP (fun X tX hX gX => ?_)
      exact step tX (m_hr_trans (m_hr_trans (m_hr_pd gJ) (m_hr_put (fun c => hno k d hd c2 (by rw [eg, c])))) hX) (m_gp_trans (m_gp_trans (m_pdl_d gJ) (m_gp_sub m_plf_g2 (fun f j p => Or.inr (Or.inr ⟨p.1.1, p.1.2, by omega, by omega⟩)))) (m_pdl_l gX))
theorem r_dn_69 (hg : ∀ (k : Nat) (c : w_Ch), L[k]? = some c → c.1.1 ≠ 1 → 0 ≤ h_go c ∧ (h_go c).toNat < 2 ^ t_dp T) : ∀ (n k : Nat) {I : sr_V}, m_li I mk K L → m_tr I mk 48 (h_fd h_r1 T L k) → k ≤ L.length → L.length - k < n → (∀ J, m_tr J mk 48 (h_fd h_r1 T L L.length) → m_hr o I 48 (h_fd h_r1 T L k) J 48 (h_fd h_r1 T L L.length) → m_gp m_pdl I J → ∃ n98, rl_96_98 Q n98 J) → rl_96_69 Q n k I
  | 0, _, _, _, _, _, h, _ => by omega
  | n + 1, k, I, li, hT, hk, hn, q => by
    have b1 := li.2.1
    unfold rl_96_69
    intro v ev _
    rw [li.1] at ev
    subst ev
    refine ⟨fun c => ?_, fun c => ⟨by omega, by omega, ?_⟩⟩
    · have e : k = L.length := by omega
      rw [e] at hT q
      exact q I hT m_hr_refl (m_gp_refl _ _)
    · obtain ⟨d, hd⟩ := h_get (L := L) (k := k) (by omega)
      obtain ⟨_, _, e79, e80, dok, _⟩ := li.2.2.2 k d hd
      have ed : t_dp (h_fd h_r1 T L k) = t_dp T := h_fr_dp
      have d4 := hT.1.1
      have d16 := t_d_16 d4
      rw [ed] at d16
      have es : h_fd h_r1 T L (k + 1) = h_r1 (h_fd h_r1 T L k) d := h_fd_s hd
      have step : ∀ {J : sr_V}, m_tr J mk 48 (h_r1 (h_fd h_r1 T L k) d) → m_hr o I 48 (h_fd h_r1 T L k) J 48 (h_r1 (h_fd h_r1 T L k) d) → m_gp m_pdl I J → rb_96_96 Q (rl_96_69 Q n) k J := fun {J} tJ hJ gJ => by
        unfold rb_96_96
        intro y ey
        rw [sw_s1 (by omega)] at ey
        subst ey
        exact r_dn_69 hg n (k + 1) (m_li_pdl li gJ) (by rw [es]; exact tJ) (by omega) (by omega) (fun X tX hX gX => q X tX (m_hr_trans hJ (by rw [es] at hX; exact hX)) (m_gp_trans gJ gX))
      intro v ev _
      rw [Int.toNat_natCast, e79] at ev
      subst ev
      refine ⟨fun c2 => ⟨by omega, by omega, ?_⟩, fun c2 => step (by unfold h_r1; rw [if_neg c2]; exact hT) (by unfold h_r1; rw [if_neg c2]; exact m_hr_refl) (m_gp_refl _ _)⟩
      obtain ⟨g0, g1⟩ := hg k d hd (by omega)
      obtain ⟨gn, eg⟩ : ∃ gn : Nat, h_go d = gn := ⟨(h_go d).toNat, by omega⟩
      have eu : h_r1 (h_fd h_r1 T L k) d = t_bw (t_bl (h_fd h_r1 T L k) (2 * gn)) gn := by
        unfold h_r1; rw [if_pos c2, eg, Int.toNat_natCast]
      rw [eg, Int.toNat_natCast] at g1
      rw [eu] at step
      intro v ev _
      rw [Int.toNat_natCast, e80, eg] at ev
      subst ev
      rw [sw_2k (by omega)]
      refine r_blank (s := 48) (x := 2 * gn) (by decide) (by omega) ?_
      have tP := m_tr_bl (x := 2 * gn) hT
      refine ⟨by omega, by omega, ?_⟩
      intro v ev _
      have e80' : m_bl I (31 * 48 + 2 * gn) 80 k = (gn : Int) := by rw [m_bl_ne (by omega), e80, eg]
      rw [Int.toNat_natCast, e80'] at ev
      subst ev
      refine r_blankWay (o := o) (s := 48) (k := gn) (by decide) (by show gn < 2 ^ t_dp (h_fd h_r1 T L k); rw [ed]; exact g1) tP (fun X tX hX gX => ?_)
      exact step tX (m_hr_trans m_hr_bl hX) (m_gp_trans (m_gp_sub m_bl_gp (fun f j p => Or.inr (Or.inr ⟨p.1.1, p.1.2, by omega, by omega⟩))) (m_pdl_l gX))
end
