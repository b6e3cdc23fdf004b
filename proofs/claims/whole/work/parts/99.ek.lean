/-! ===== the reference: isDone, to its end ===== -/
noncomputable section
variable {o : Nat} {I I0 J X : sr_V} {nn fr mi s u k h : Nat} {K K' : Wt → Prop} {tl mk mm l : List Wt} {a b c y n S src m so com : Int} {Q : Int → sr_V → Prop} {R : sr_V → Prop} {x i e : Nat} {T T0 T' T'' : w_T} {f : p_L} {L : List w_Ch} {d : w_Ch} {P : Nat → Nat → Prop}
theorem m_ad_pdl (h : m_ad I T L k) (g : m_gp m_pdl I J) : m_ad J T L k := by
  have e : ∀ f j, (f = 85 ∨ f = 86 ∨ (f = 1000 ∧ (j = 83 ∨ j = 84))) → J f j = I f j := fun f j hf => g f j (by unfold m_pdl m_pd m_pl; omega)
  obtain ⟨h1, h2, h3⟩ := h
  exact ⟨by rw [e _ _ (by omega)]; exact h1, by rw [e _ _ (by omega)]; exact h2, fun i p j hij => by rw [e _ _ (by omega), e _ _ (by omega)]; exact h3 i p j hij⟩
theorem h_msk_1 (e : h_kn L k = 1) : h_msk T L (k + 1) = sw_or (h_msk T L k) ((2 ^ t_fl (h_fd h_a1 T L k) : Nat) : Int) := by
  show (if h_kn L k = 1 then _ else _) = _
  rw [if_pos e]
theorem h_msk_n (e : h_kn L k ≠ 1) : h_msk T L (k + 1) = h_msk T L k := by
  show (if h_kn L k = 1 then _ else _) = _
  rw [if_neg e]
theorem h_ads_1 (e : h_kn L k = 1) : h_ads T L (k + 1) = h_ads T L k ++ [(t_fl (h_fd h_a1 T L k), k)] := by
  show (if h_kn L k = 1 then _ else _) = _
  rw [if_pos e]
theorem h_ads_n (e : h_kn L k ≠ 1) : h_ads T L (k + 1) = h_ads T L k := by
  show (if h_kn L k = 1 then _ else _) = _
  rw [if_neg e]
/-- one more is added -/
def m_ax (I : sr_V) (A : Int) (n : Nat) (fl k : Int) : sr_V := su (su (su (su I 1000 83 A) 85 n fl) 86 n k) 1000 84 ((n + 1 : Nat) : Int)
def m_pa4 (f k : Nat) : Prop := (f = 1000 ∧ (k = 83 ∨ k = 84)) ∨ f = 85 ∨ f = 86
theorem m_ax_gp {A B C : Int} {n : Nat} : m_gp m_pa4 I (m_ax I A n B C) := fun f j hn => by
  unfold m_pa4 at hn
  unfold m_ax
  rw [su_at, if_neg (by omega), su_at, if_neg (by omega), su_at, if_neg (by omega), su_at, if_neg (by omega)]
theorem m_pdn_4 (g : m_gp m_pa4 I J) : m_gp m_pdn I J := m_gp_sub g (fun _ _ p => Or.inr p)
theorem m_ad_ax (h : m_ad I T L k) (hd : L[k]? = some d) (h1 : d.1.1 = 1) : m_ad (m_ax I (sw_or (h_msk T L k) ((2 ^ t_fl (h_fd h_a1 T L k) : Nat) : Int)) (h_ads T L k).length ((t_fl (h_fd h_a1 T L k) : Nat) : Int) (k : Int)) T L (k + 1) := by
  obtain ⟨g1, g2, g3⟩ := h
  have ek := h_kn_e hd
  rw [h1] at ek
  unfold m_ad
  rw [h_msk_1 ek, h_ads_1 ek]
  unfold m_ax
  refine ⟨?_, ?_, fun i p j hij => ?_⟩
  · rw [su_k (by decide), su_f (by decide), su_f (by decide), su_eq]
  · rw [su_eq, List.length_append, List.length_singleton]
  · rw [List.getElem?_append] at hij
    by_cases c : i < (h_ads T L k).length
    · rw [if_pos c] at hij
      rw [su_f (by decide), su_f (by decide), su_k (by omega), su_f (by decide), su_f (by decide), su_k (by omega), su_f (by decide), su_f (by decide)]
      exact g3 i p j hij
    · rw [if_neg c] at hij
      have hi : i = (h_ads T L k).length := by
        rcases Nat.eq_or_lt_of_le (Nat.le_of_not_lt c) with e | e
        · exact e.symm
        · rw [List.getElem?_eq_none (by simp; omega)] at hij; cases hij
      subst hi
      rw [Nat.sub_self] at hij
      cases hij
      rw [su_f (by decide), su_f (by decide), su_eq, su_f (by decide), su_eq]
      exact ⟨rfl, rfl⟩
theorem r_dn_124 (hno : 16 ≤ o ∨ t_is T0 o) (nd : mk.Nodup) (h0 : t_dp T0 ≤ 4) : ∀ (n k : Nat) {I : sr_V}, m_li I mk K L → m_tr I mk 48 (h_fd h_a1 T0 L k) → m_ad I T0 L k → (∀ j c, j < k → L[j]? = some c → c.1.1 = 1 → t_fl (h_fd h_a1 T0 L j) < 16) → k ≤ L.length → L.length - k < n → (∀ J, ¬ h_room T0 L → m_gp m_pdn I J → Q 0 J) → (∀ z J, h_room T0 L → ((z = 1 ∧ t_one (h_fd h_a1 T0 L L.length)) ∨ (z = 0 ∧ ¬ t_one (h_fd h_a1 T0 L L.length))) → m_tr J mk 48 (h_fd h_a1 T0 L L.length) → m_hr o I 48 (h_fd h_a1 T0 L k) J 48 (h_fd h_a1 T0 L L.length) → m_ad J T0 L L.length → m_gp m_pdn I J → Q z J) → rl_96_124 Q n k I
  | 0, _, _, _, _, _, _, _, h, _, _ => by omega
  | n + 1, k, I, li, hT, ad, hr, hk, hn, q0, q => by
    have b1 := li.2.1
    unfold rl_96_124
    intro v ev _
    rw [li.1] at ev
    subst ev
    refine ⟨fun c => ?_, fun c => ⟨by omega, by omega, ?_⟩⟩
    · have e : k = L.length := by omega
      subst e
      have room : h_room T0 L := fun j c hj => hr j c (h_lt hj) hj
      refine r_isOneKey (s := 48) (by decide) nd hT (fun g => ?_) (fun g => ?_)
      · intro _
        exact ⟨Or.inr rfl, q 1 I room (Or.inl ⟨rfl, g⟩) hT m_hr_refl ad (m_gp_refl _ _)⟩
      · intro _
        exact ⟨Or.inl rfl, q 0 I room (Or.inr ⟨rfl, g⟩) hT m_hr_refl ad (m_gp_refl _ _)⟩
    · obtain ⟨d, hd⟩ := h_get (L := L) (k := k) (by omega)
      obtain ⟨_, _, e79, e80, dok, _⟩ := li.2.2.2 k d hd
      obtain ⟨_, hcnt⟩ := h_fa_dp h0 (fun k c hc => (li.2.2.2 k c hc).2.2.2.2.1) k (by omega) hr
      have hnl := t_nl_le (T := h_fd h_a1 T0 L k)
      have es : h_fd h_a1 T0 L (k + 1) = h_a1 (h_fd h_a1 T0 L k) d := h_fd_s hd
      have step : ∀ {J : sr_V}, m_tr J mk 48 (h_a1 (h_fd h_a1 T0 L k) d) → m_hr o I 48 (h_fd h_a1 T0 L k) J 48 (h_a1 (h_fd h_a1 T0 L k) d) → m_ad J T0 L (k + 1) → (d.1.1 = 1 → t_fl (h_fd h_a1 T0 L k) < 16) → m_gp m_pdn I J → rb_96_173 Q (rl_96_124 Q n) k J := fun {J} tJ hJ aJ rJ gJ => by
        unfold rb_96_173
        intro y ey
        rw [sw_s1 (by omega)] at ey
        subst ey
        exact r_dn_124 hno nd h0 n (k + 1) (m_li_pdn li gJ) (by rw [es]; exact tJ) aJ (fun j c hj hc => by
          rcases Nat.lt_or_ge j k with g | g
          · exact hr j c g hc
          · have ej : j = k := by omega
            subst ej
            rw [hd] at hc
            cases hc
            exact rJ) (by omega) (by omega) (fun X hX gX => q0 X hX (m_gp_trans gJ gX)) (fun z X hR hz tX hX aX gX => q z X hR hz tX (m_hr_trans hJ (by rw [es] at hX; exact hX)) aX (m_gp_trans gJ gX))
      intro v ev _
      rw [Int.toNat_natCast, e79] at ev
      subst ev
      refine ⟨fun c1 => ?_, fun c1 => step (by unfold h_a1; rw [if_neg c1]; exact hT) (by unfold h_a1; rw [if_neg c1]; exact m_hr_refl) ?_ (fun c => absurd c c1) (m_gp_refl _ _)⟩
      · have ea : h_a1 (h_fd h_a1 T0 L k) d = t_add (h_fd h_a1 T0 L k) (h_lf d) := by unfold h_a1; rw [if_pos c1]
        rw [ea] at step
        refine r_readL li hd (fun J fr l i e s2 _ _ _ hco _ _ fJ => ?_)
        have gJ := m_pd_F fJ
        have tJ := m_tr_pd hT gJ
        refine r_addLeaf (o := o) ?_ (s := 48) (by decide) tJ (m_co_lr hco (Or.inl c1)) (dok.2.1 (by omega)) (fun g => ?_) (fun X hlt tX hX gX => ?_)
        · intro hlt ef
          rcases hno with h16 | his
          · omega
          · have := h_fa_is h0 (fun k c hc => (li.2.2.2 k c hc).2.2.2.2.1) his k (by omega) hr
            rw [← ef] at this
            exact t_fl_sp.2.2 hlt this
        · intro _
          refine ⟨fun e => absurd rfl e, fun _ => q0 J (fun hh => ?_) (m_pdn_l (m_pdl_d gJ))⟩
          have := hh k d hd c1
          omega
        · have gX2 : m_gp m_pdl I X := m_gp_trans (m_pdl_d gJ) (m_pdl_l gX)
          have aX := m_ad_pdl ad gX2
          intro _
          refine ⟨fun _ => ?_, fun e => by omega⟩
          intro v35 e35 _ I39 e39 v43 e43 _
          rw [aX.1] at e35
          rw [e35, sw_shl_h hlt] at e39
          have e43' : v43 = ((h_ads T0 L k).length : Nat) := by rw [e43, e39, su_k (by decide)]; exact aX.2.1
          refine ⟨by omega, by omega, ?_⟩
          intro I47 e47 v51 e51 _
          have e51' : v51 = ((h_ads T0 L k).length : Nat) := by rw [e51, e47, su_f (by decide), ← e43]; exact e43'
          refine ⟨by omega, by omega, ?_⟩
          intro I55 e55 v59 e59 _ I63 e63
          have e59' : v59 = ((h_ads T0 L k).length : Nat) := by rw [e59, e55, su_f (by decide), ← e51]; exact e51'
          rw [e59', sw_s1 (by omega)] at e63
          rw [e51', Int.toNat_natCast] at e55
          rw [e43', Int.toNat_natCast] at e47
          have e63' : I63 = m_ax X (sw_or (h_msk T0 L k) ((2 ^ t_fl (h_fd h_a1 T0 L k) : Nat) : Int)) (h_ads T0 L k).length ((t_fl (h_fd h_a1 T0 L k) : Nat) : Int) (k : Int) := by
            rw [e63, e55, e47, e39]; rfl
          clear e63 e59 e55 e51 e47 e43 e39 e35
          subst e63'
          refine step (m_tr_gp tX m_ax_gp (fun f k p q => by unfold m_pl at p; unfold m_pa4 at q; omega)) ?_ (m_ad_ax aX hd c1) (fun _ => hlt) (m_gp_trans (m_pdn_l gX2) (m_pdn_4 m_ax_gp))
          exact m_hr_trans (m_hr_trans (m_hr_pd gJ) hX) (m_hr_eq (fun x _ => m_ax_gp 44 _ (by unfold m_pa4; omega)))
      · have ek := h_kn_e hd
        have en : h_kn L k ≠ 1 := by rw [ek]; exact c1
        unfold m_ad
        rw [h_msk_n en, h_ads_n en]
        exact ad
theorem m_tr_cp (h : m_tr I mk s T) (e1 : J 31 u = I 31 s) (e2 : ∀ f x, 36 ≤ f → f ≤ 44 → x < 31 → J f (31 * u + x) = I f (31 * s + x)) : m_tr J mk u T := by
  have w31 := t_w_4 h.1.1
  obtain ⟨h1, h2, h3, h4⟩ := h
  refine ⟨h1, e1.trans h2, fun x hx => ?_, fun k hk hne => ?_⟩
  · rw [e2 36 x (by omega) (by omega) (by omega), e2 37 x (by omega) (by omega) (by omega), e2 38 x (by omega) (by omega) (by omega), e2 39 x (by omega) (by omega) (by omega)]
    exact h3 x hx
  · rw [e2 40 _ (by omega) (by omega) (by omega), e2 43 _ (by omega) (by omega) (by omega), e2 41 _ (by omega) (by omega) (by omega), e2 42 _ (by omega) (by omega) (by omega)]
    exact h4 k hk hne
theorem r_isDone (hno : 16 ≤ o ∨ (h_all T L com → t_is (h_0 T L) o)) (hnu : h_all T L com → ∀ (k : Nat) (c : w_Ch), L[k]? = some c → c.1.1 = 2 → h_go c ≠ (o : Int)) (hs : s < 24) (hL : m_L I mk nn K' tl) (hM : m_me I mk) (hT : m_tr I mk s T) (hli : m_li I mk K L) (q : ∀ z J, ((z = 1 ∧ h_done T L com) ∨ (z = 0 ∧ ¬ h_done T L com)) → (h_all T L com → h_room (h_0 T L) L → m_tr J mk 48 (h_ap T L) ∧ m_hr o I s T J 48 (h_ap T L) ∧ m_ad J (h_0 T L) L L.length) → m_gp m_pdn I J → Q z J) : rm_96 s com I Q := by
  have nd := m_L_nd hL
  unfold rm_96
  refine ⟨L.length + 1, r_dn_2 hs hL hM hT hli (fun J hn gJ => q 0 J (Or.inr ⟨rfl, fun c => hn c.1⟩) (fun c => absurd c hn) (m_pdn_l (m_pdl_d gJ))) (fun J hall gJ => ?_) _ 0 (m_gp_refl _ _) (by omega) (by omega) (fun j c hj => by omega)⟩
  have hg : ∀ (k : Nat) (c : w_Ch), L[k]? = some c → c.1.1 ≠ 1 → 0 ≤ h_go c ∧ (h_go c).toNat < 2 ^ t_dp T := fun k c hc h1 => by
    obtain ⟨g0, g1, _⟩ := ((hall k c hc).2 h1).2.1
    exact ⟨g0, by omega⟩
  refine r_copyState (s := s) (u := 48) (by omega) (by decide) (by omega) (fun X c1 c2 gX => ?_)
  have tJ := m_tr_pd hT gJ
  have tX : m_tr X mk 48 T := m_tr_cp tJ (c1 31 (by decide) (by decide)) c2
  have lX : m_li X mk K L := m_li_pdl (m_li_pd hli gJ) (m_pdl_l gX)
  have w31 := t_w_4 hT.1.1
  have hX : m_hr o I s T X 48 T := fun x hx => Or.inr ⟨hx, by rw [c2 44 x (by decide) (by decide) (by omega)]; exact gJ 44 _ (by unfold m_pd; omega), rfl⟩
  unfold rb_96_35
  refine ⟨L.length + 1, r_dn_37 (hnu hall) hg _ 0 lX tX (by omega) (by omega) (fun A tA hA gA => ?_)⟩
  refine ⟨L.length + 1, r_dn_69 (o := o) (T := h_fd h_u1 T L L.length) (fun k c hc h1 => by rw [h_fu_dp]; exact hg k c hc h1) _ 0 (m_li_pdl lX gA) tA (by omega) (by omega) (fun B tB hB gB => ?_)⟩
  refine ⟨t_dp (h_fd h_r1 (h_fd h_u1 T L L.length) L L.length) + 1, r_shrink _ _ tB rfl (by omega) (fun C tC gC => ?_)⟩
  have hC : m_hr o B 48 (h_fd h_r1 (h_fd h_u1 T L L.length) L L.length) C 48 (h_0 T L) := m_hr_sh (fun x => gC 44 _ (by omega))
  have tC : m_tr C mk 48 (h_0 T L) := tC
  have gC2 : m_gp m_pdl B C := m_gp_sub gC (fun f k p => Or.inr (Or.inl (by omega)))
  unfold rb_96_116
  intro I71 e71 I76 e76
  have g76 : m_gp m_pa4 C I76 := by
    rw [e76, e71]
    exact m_gp_trans (m_gp_sub (m_gp_su _ _ _ _) (fun f k p => Or.inl (by omega))) (m_gp_sub (m_gp_su _ _ _ _) (fun f k p => Or.inl (by omega)))
  have ad : m_ad I76 (h_0 T L) L 0 := by
    refine ⟨?_, ?_, fun i p j hij => ?_⟩
    · rw [e76, su_k (by decide), e71, su_eq]; rfl
    · rw [e76, su_eq]; rfl
    · have : (h_ads (h_0 T L) L 0)[i]? = none := rfl
      rw [this] at hij; cases hij
  have gAll : m_gp m_pdn I I76 := m_gp_trans (m_pdn_l (m_gp_trans (m_gp_trans (m_gp_trans (m_gp_trans (m_pdl_d gJ) (m_pdl_l gX)) gA) gB) gC2)) (m_pdn_4 g76)
  have hAll : m_hr o I s T I76 48 (h_0 T L) := m_hr_trans (m_hr_trans (m_hr_trans (m_hr_trans hX hA) hB) hC) (m_hr_eq (fun x _ => g76 44 _ (by unfold m_pa4; omega)))
  refine ⟨L.length + 1, r_dn_124 (hno.elim Or.inl (fun h => Or.inr (h hall))) nd tC.1.1 _ 0 (m_li_pdn hli gAll) (m_tr_gp tC g76 (fun f k p q => by unfold m_pl at p; unfold m_pa4 at q; omega)) ad (fun j c hj => by omega) (by omega) (by omega) (fun Z hZ gZ => ?_) (fun z Z hR hz tZ hZ aZ gZ => ?_)⟩
  · exact q 0 Z (Or.inr ⟨rfl, fun c => hZ c.2.1⟩) (fun _ c => absurd c hZ) (m_gp_trans gAll gZ)
  · refine q z Z ?_ (fun _ _ => ⟨tZ, m_hr_trans hAll hZ, aZ⟩) (m_gp_trans gAll gZ)
    rcases hz with ⟨z1, z2⟩ | ⟨z1, z2⟩
    · exact Or.inl ⟨z1, hall, hR, z2⟩
    · exact Or.inr ⟨z1, fun c => z2 c.2.2⟩
end
