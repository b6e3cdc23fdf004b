/-! ===== the reference: putPath, to its end; holdPath ===== -/
noncomputable section
variable {I I0 J X : sr_V} {nn s u k h : Nat} {K K' : Wt → Prop} {tl mk mm : List Wt} {a b c y n m : Int} {Q : Int → sr_V → Prop} {R : sr_V → Prop} {x i e l : Nat} {T T0 T1 T' T'' : w_T} {P : Nat → Nat → Prop} {S : Wt → Prop} {w ls n0 : Wt} {kf : Nat → Wt} {C : Nat → Int}
/-- the tree where height k is looked at, from the top -/
def t_pa (C : Nat → Int) (T : w_T) (l m : Nat) : w_T := t_sp (t_pp C T l m).1 (t_ab l (t_dp T - 1 - m + 1)) (t_pp C T l m).2
/-- what putPath makes -/
def t_mw (C : Nat → Int) (T : w_T) (l : Nat) (w : Wt) : Prop := ∃ m, m < t_dp T ∧ C (t_dp T - 1 - m) ≠ 0 ∧ (w = w_wt (t_pa C T l m) (t_ab l (t_dp T - 1 - m + 1)) (t_si l (t_dp T - 1 - m)) ∨ ∃ y ∈ w_ordk (t_dp T - 1 - m) (t_si l (t_dp T - 1 - m)) (t_dp T - 1 - m + 1) 0, w = w_th (t_pa C T l m) 0 y)
theorem r_pp_55 (hs : s < 49) (hl : l < 2 ^ t_dp T) (h4 : t_dp T ≤ 4) (hk1 : ∀ j, j < t_dp T → C j ≠ 0 → t_ky T (t_ab l (j + 1)) ≠ [] ∧ t_um T (t_ab l (j + 1)) = 0) (hS : ∀ v, t_mw C T l v → S v) : ∀ (n m : Nat) {I : sr_V} {mz : List Wt} {x2 x3 : Int}, m_bS S mz → m_L I mz nn K tl → m_tr I mz s (t_pp C T l m).1 → I 1000 93 = (t_dp T : Nat) → (∀ j, j < t_dp T → I 90 j = ((t_ab l (j + 1) : Nat) : Int) ∧ I 91 j = ((t_si l j : Nat) : Int) ∧ I 94 j = C j) → w_az mz x3 (t_pp C T l m).2 → (x2 = -1 ∧ (t_pp C T l m).2 = [] ∨ 0 ≤ x2) → m ≤ t_dp T → t_dp T - m < n → (∀ z J mm, w_mo S mz mm → m_bS S mm → m_L J mm nn K tl → m_tr J mm s (t_pp C T l (t_dp T)).1 → w_az mm z (t_pp C T l (t_dp T)).2 → m_gp (fun f k => m_p2 f k ∨ (f = 38 ∧ ∃ j, j < 4 ∧ k = 31 * s + t_ab l (j + 1))) I J → Q z J) → rl_101_55 Q n s x2 x3 ((t_dp T : Int) - 1 - m) I
  | 0, _, _, _, _, _, _, _, _, _, _, _, _, _, h, _ => by omega
  | n + 1, m, I, mz, x2, x3, hb, hL, hT, h93, hw, h3, h2, hm, hn, q => by
    have d16 := t_d_16 h4
    have w31 := t_w_4 h4
    unfold rl_101_55
    refine ⟨fun c => ?_, fun c => ?_⟩
    · have e : m = t_dp T := by omega
      subst e
      refine ⟨fun c2 => q x3 I mz w_mo_refl hb hL hT h3 (m_gp_refl _ _), fun c2 => ?_⟩
      rcases h2 with ⟨_, h2⟩ | h2
      · exact q 0 I mz w_mo_refl hb hL hT (Or.inl ⟨rfl, h2⟩) (m_gp_refl _ _)
      · omega
    · obtain ⟨k, ek⟩ : ∃ k : Nat, k = t_dp T - 1 - m := ⟨_, rfl⟩
      have ex : (t_dp T : Int) - 1 - m = (k : Int) := by omega
      rw [ex]
      obtain ⟨w1, w2, w3⟩ := hw k (by omega)
      have aw := t_ab_w h4 hl (h := k + 1) (by omega)
      have ao := t_ab_o (k := l) (h := k + 1) (by omega) (by omega) (by omega)
      obtain ⟨a1, a2, a3, a4, _, _⟩ := t_si_ok h4 hl (k := k) (by omega)
      have eN : sw_w ((k : Int) + (-1)) = (t_dp T : Int) - 1 - ((m + 1 : Nat) : Int) := by rw [sw_w_s (by omega) (by omega)]; omega
      refine ⟨by omega, by omega, ?_⟩
      intro v6 e6 _
      rw [Int.toNat_natCast, w3] at e6
      subst e6
      refine ⟨fun c1 => ?_, fun c1 => ?_⟩
      · obtain ⟨k1, k2⟩ := hk1 k (by omega) c1
        have c1' : C (t_dp T - 1 - m) ≠ 0 := by rw [← ek]; exact c1
        have epp := t_pp_1 (T := T) (l := l) c1'
        have epa : t_pa C T l m = t_sp (t_pp C T l m).1 (t_ab l (k + 1)) (t_pp C T l m).2 := by unfold t_pa; rw [← ek]
        have kA : t_ky (t_pa C T l m) (t_ab l (k + 1)) ≠ [] := by
          rw [epa]; show t_ky (t_pp C T l m).1 (t_ab l (k + 1)) ≠ []; rw [t_pp_ky]; exact k1
        have uA : t_um (t_pa C T l m) (t_ab l (k + 1)) = 0 := by
          rw [epa]; show t_um (t_pp C T l m).1 (t_ab l (k + 1)) = 0; rw [t_pp_um]; exact k2
        have dA : t_dp (t_pa C T l m) = t_dp T := by rw [epa]; exact t_pp_dp m
        refine ⟨by omega, by omega, ?_⟩
        intro v9 e9 _
        rw [Int.toNat_natCast, w1] at e9
        subst e9
        refine r_spot hs (by omega) ?_
        intro _
        refine ⟨by omega, by omega, ?_⟩
        intro I20 e20
        rw [Int.toNat_natCast] at e20
        have t20 : m_tr I20 mz s (t_pa C T l m) := by
          rw [e20, epa]
          exact m_tr_sp hT ao (by rw [t_pp_ky]; exact k1) h3
        have g20 : m_gp (fun f j => f = 38 ∧ j = 31 * s + t_ab l (k + 1)) I I20 := by rw [e20]; exact m_gp_su _ _ _ _
        refine ⟨by omega, by omega, ?_⟩
        intro v24 e24 _
        rw [Int.toNat_natCast, g20 90 k (by omega), w1] at e24
        subst e24
        refine ⟨by omega, by omega, ?_⟩
        intro v27 e27 _
        rw [Int.toNat_natCast, g20 91 k (by omega), w2] at e27
        subst e27
        have L20 : m_L I20 mz nn K tl := m_L_gp hL g20 (fun f j p => by omega)
        have hy : ∀ y ∈ w_ordk (w_h (t_si l k)) (t_si l k) (w_h (t_si l k) + 1) 0, S (w_th (t_pa C T l m) 0 y) := fun y hy => hS _ ⟨m, by omega, c1', Or.inr ⟨y, by rw [← ek]; rw [a1] at hy; exact hy, rfl⟩⟩
        have hwt : S (w_wt (t_pa C T l m) (t_ab l (k + 1)) (t_si l k)) := hS _ ⟨m, by omega, c1', Or.inl (by rw [← ek])⟩
        have mo : w_mo S mz (w_tl (w_mkh (t_pa C T l m) (t_um (t_pa C T l m) (t_ab l (k + 1))) (t_si l k) mz) (w_wt (t_pa C T l m) (t_ab l (k + 1)) (t_si l k))) := by
          rw [uA]
          refine w_mo_trans (w_mo_tls _ (fun v hv => ?_)) (w_mo_tl hwt)
          obtain ⟨y, hy1, rfl⟩ := List.mem_map.mp hv
          exact hy y hy1
        have nd : (w_tl (w_mkh (t_pa C T l m) (t_um (t_pa C T l m) (t_ab l (k + 1))) (t_si l k) mz) (w_wt (t_pa C T l m) (t_ab l (k + 1)) (t_si l k))).Nodup := w_tl_nd (w_tls_nd _ (m_L_nd hL))
        refine r_wanted hs (T := t_pa C T l m) (by rw [t_dp_w dA]; exact aw) kA (by rw [a1, t_dp_w dA]; exact a3) (by rw [a1]; exact a4) L20 t20 (hb _ mo nd) (fun t J LJ wt fJ => ?_)
        intro _
        have gJ := m_f2_gp fJ
        have g2 : m_gp (fun f k => m_p2 f k ∨ (f = 38 ∧ ∃ j, j < 4 ∧ k = 31 * s + t_ab l (j + 1))) I J := m_gp_trans (m_gp_sub g20 (fun f j p => Or.inr ⟨p.1, k, by omega, p.2⟩)) (m_gp_sub gJ (fun f j p => Or.inl p))
        have tJ : m_tr J (w_tl (w_mkh (t_pa C T l m) (t_um (t_pa C T l m) (t_ab l (k + 1))) (t_si l k) mz) (w_wt (t_pa C T l m) (t_ab l (k + 1)) (t_si l k))) s (t_pp C T l (m + 1)).1 := by
          rw [epp]
          exact m_tr_le (m_f2_tr t20 fJ) mo.1
        unfold rb_101_88
        intro y1 ey1
        rw [eN] at ey1
        subst ey1
        refine r_pp_55 hs hl h4 hk1 hS n (m + 1) (m_bS_mo hb mo) LJ tJ (by rw [g2 1000 93 (by unfold m_p2; omega)]; exact h93) (fun j hj => by rw [g2 90 j (by unfold m_p2; omega), g2 91 j (by unfold m_p2; omega), g2 94 j (by unfold m_p2; omega)]; exact hw j hj) ?_ (Or.inr (by omega)) (by omega) (by omega) (fun z Z ml m1 m2 LZ tZ wz gz => q z Z ml (w_mo_trans mo m1) m2 LZ tZ wz (m_gp_trans g2 gz))
        rw [epp, ← ek]
        have epa2 : t_sp (t_pp C T l m).1 (t_ab l (k + 1)) (t_pp C T l m).2 = t_pa C T l m := epa.symm
        show w_az _ t (w_wt (t_sp (t_pp C T l m).1 (t_ab l (k + 1)) (t_pp C T l m).2) (t_ab l (k + 1)) (t_si l k))
        rw [epa2]
        exact Or.inr wt
      · have c1' : C (t_dp T - 1 - m) = 0 := by rw [← ek]; exact c1
        have epp := t_pp_0 (T := T) (l := l) c1'
        unfold rb_101_88
        intro y1 ey1
        rw [eN] at ey1
        subst ey1
        exact r_pp_55 hs hl h4 hk1 hS n (m + 1) hb hL (by rw [epp]; exact hT) h93 hw (by rw [epp]; exact h3) (by rw [epp]; exact h2) (by omega) (by omega) q
/-- the tree with the path, and the parent hash that is due in the LEAF -/
def t_pth (C : Nat → Int) (T : w_T) (l : Nat) (kf : Nat → Wt) : w_T × Wt := t_pp C (t_kpn C T l kf (t_dp T)) l (t_dp T)
theorem r_putPath (hs : s < 49) (hl : l < 2 ^ t_dp T) (hT : m_tr I mk s T) (hd : t_dp T0 = t_dp T) (hw : m_wy I T0 l) (hf : m_kf I mk (t_cb T0 l) kf (t_dp T)) (hb : m_bS S mk) (hL : m_L I mk nn K tl) (hS : ∀ v, t_mw (t_cb T0 l) (t_kpn (t_cb T0 l) T l kf (t_dp T)) l v → S v) (q : ∀ z J mm, w_mo S mk mm → m_bS S mm → m_L J mm nn K tl → m_tr J mm s (t_pth (t_cb T0 l) T l kf).1 → w_az mm z (t_pth (t_cb T0 l) T l kf).2 → (∀ j, j < t_dp T → J 44 (31 * s + t_ab l (j + 1)) = 0) → m_gp (m_ppp s l) I J → Q z J) : rm_101 s I Q := by
  have h4 := hT.1.1
  have d16 := t_d_16 h4
  unfold rm_101
  refine ⟨t_dp T + 1, r_pp_2 hs hl h4 _ 0 hT hd hw hf (fun j hj => by omega) (by omega) (by omega) (fun J tJ zJ gJ => ?_)⟩
  have ed := t_kpn_dp (C := t_cb T0 l) (T := T) (l := l) (kf := kf) (t_dp T)
  have wJ := m_wy_ppp hw (m_pp0_p gJ)
  have fJ := m_kf_ppp hf (m_pp0_p gJ)
  have ks := t_kpn_ky (C := t_cb T0 l) (T := T) (l := l) (kf := kf) (by omega) h4 (t_dp T) (Nat.le_refl _)
  refine ⟨t_dp T + 1, ?_⟩
  have := r_pp_55 (T := t_kpn (t_cb T0 l) T l kf (t_dp T)) (C := t_cb T0 l) (l := l) (Q := Q) (I := J) (mz := mk) (x2 := -1) (x3 := 0) (nn := nn) (K := K) (tl := tl) hs (by rw [ed]; exact hl) (by rw [ed]; exact h4) (fun j hj hc => ?_) hS (t_dp T + 1) 0 hb (m_L_gp hL gJ (fun f j p => by unfold m_pp0 at p; omega)) tJ (by rw [ed, wJ.1, hd]) (fun j hj => ?_) (Or.inl ⟨rfl, rfl⟩) (Or.inl ⟨rfl, rfl⟩) (by omega) (by rw [ed]; omega) (fun z Z mm m1 m2 LZ tZ wz gz => ?_)
  · rw [ed] at this
    have e0 : (t_dp T : Int) - 1 - ((0 : Nat) : Int) = (t_dp T : Int) - 1 := by omega
    rw [e0] at this
    exact this
  · rw [ed] at hj
    obtain ⟨k1, k2⟩ := ks j hj
    rw [if_neg hc] at k1
    exact ⟨by rw [k1]; exact (fJ j hj hc).2, k2⟩
  · rw [ed, ← hd] at hj
    exact wJ.2 j hj
  · rw [ed] at tZ wz
    exact q z Z mm m1 m2 LZ tZ wz (fun j hj => by rw [gz 44 _ (by unfold m_p2; omega)]; exact zJ j hj) (m_gp_trans (m_pp0_p gJ) (m_gp_sub gz (fun f k p => p.elim Or.inl (fun p => Or.inr ⟨by omega, by omega, p.2⟩))))
/-- secrets of the path are held -/
theorem r_hp_2 (hs : s < 49) (hl : l < 2 ^ t_dp T) (h4 : t_dp T ≤ 4) (hS : ∀ j, j < t_dp T → t_cb T l j ≠ 0 → S (w_dr (t_ls T l n0 (j + 1)) 5)) : ∀ (n k : Nat) {I : sr_V} {mz : List Wt}, m_bS S mz → m_L I mz nn K tl → m_wy I T l → m_pth I mz T l n0 (t_dp T) → (∀ j, j < k → t_cb T l j ≠ 0 → w_at mz (I 44 (31 * s + t_ab l (j + 1))) (w_dr (t_ls T l n0 (j + 1)) 5)) → k ≤ t_dp T → t_dp T - k < n → (∀ J mm, w_mo S mz mm → m_bS S mm → m_L J mm nn K tl → (∀ j, j < t_dp T → t_cb T l j ≠ 0 → w_at mm (J 44 (31 * s + t_ab l (j + 1))) (w_dr (t_ls T l n0 (j + 1)) 5)) → m_gp (fun f k => m_p2 f k ∨ (f = 44 ∧ ∃ j, j < t_dp T ∧ t_cb T l j ≠ 0 ∧ k = 31 * s + t_ab l (j + 1))) I J → R J) → rl_103_2 R n s k I
  | 0, _, _, _, _, _, _, _, _, _, h, _ => by omega
  | n + 1, k, I, mz, hb, hL, hw, hp, hh, hk, hn, q => by
    have d16 := t_d_16 h4
    have w31 := t_w_4 h4
    unfold rl_103_2
    intro v5 e5 _
    rw [hw.1] at e5
    subst e5
    refine ⟨fun c => ?_, fun c => ?_⟩
    · have e : k = t_dp T := by omega
      subst e
      exact q I mz w_mo_refl hb hL hh (m_gp_refl _ _)
    · obtain ⟨w1, w2, w3⟩ := hw.2 k (by omega)
      have aw := t_ab_w h4 hl (h := k + 1) (by omega)
      refine ⟨by omega, by omega, ?_⟩
      intro v8 e8 _
      rw [Int.toNat_natCast, w3] at e8
      subst e8
      refine ⟨fun c1 => ?_, fun c1 => ?_⟩
      · unfold rb_103_28
        intro y1 e1
        rw [sw_s1 (by omega)] at e1
        subst e1
        exact r_hp_2 hs hl h4 hS n (k + 1) hb hL hw hp (fun j hj hc => hh j (by
          rcases Nat.lt_or_ge j k with g | g
          · exact g
          · have : j = k := by omega
            subst this; exact absurd c1 hc) hc) (by omega) (by omega) q
      · refine ⟨by omega, by omega, ?_⟩
        intro v11 e11 _
        rw [Int.toNat_natCast, w1] at e11
        subst e11
        refine r_spot hs (by omega) ?_
        intro _
        refine ⟨by omega, by omega, ?_⟩
        intro v21 e21 _
        rw [Int.toNat_natCast] at e21
        have p1 := (hp k (by omega) c1).1
        rw [← e21] at p1
        refine r_derS (j := 5) hb hL p1 rfl (by decide) (hS k (by omega) c1) (fun t J mm m1 m2 LJ wt fJ => ?_)
        intro _
        refine ⟨by omega, by omega, ?_⟩
        intro I32 e32
        rw [Int.toNat_natCast] at e32
        have gJ := m_f1_gp fJ
        have g32 : m_gp (fun f j => f = 44 ∧ j = 31 * s + t_ab l (k + 1)) J I32 := by rw [e32]; exact m_gp_su _ _ _ _
        have gA : m_gp (fun f j => m_p2 f j ∨ (f = 44 ∧ j = 31 * s + t_ab l (k + 1))) I I32 := m_gp_trans (m_gp_sub gJ (fun f j p => Or.inl p)) (m_gp_sub g32 (fun f j p => Or.inr p))
        unfold rb_103_28
        intro y1 e1
        rw [sw_s1 (by omega)] at e1
        subst e1
        refine r_hp_2 hs hl h4 hS n (k + 1) m2 (m_L_gp LJ g32 (fun f j p => by omega)) ⟨by rw [gA 1000 93 (by unfold m_p2; omega)]; exact hw.1, fun j hj => by rw [gA 90 j (by unfold m_p2; omega), gA 91 j (by unfold m_p2; omega), gA 94 j (by unfold m_p2; omega)]; exact hw.2 j hj⟩ (m_pth_gp (m_pth_le hp m1.1) gA (fun f j p => by unfold m_p2 at p; omega)) (fun j hj hc => ?_) (by omega) (by omega) (fun Z ml a1 a2 LZ hz gz => q Z ml (w_mo_trans m1 a1) a2 LZ hz (m_gp_trans (m_gp_sub gA (fun f j p => p.elim Or.inl (fun p => Or.inr ⟨p.1, k, by omega, c1, p.2⟩))) gz))
        rcases Nat.lt_or_ge j k with g | g
        · have ne : t_ab l (j + 1) ≠ t_ab l (k + 1) := fun h => by have := t_ab_inj (l := l) (by omega) (by omega) (by omega) h; omega
          rw [gA 44 _ (by unfold m_p2; omega)]
          exact w_le_at m1.1 (hh j g hc)
        · have ej : j = k := by omega
          subst ej
          rw [e32, su_eq]
          exact wt
theorem r_holdPath (hs : s < 49) (hl : l < 2 ^ t_dp T) (h4 : t_dp T ≤ 4) (hS : ∀ j, j < t_dp T → t_cb T l j ≠ 0 → S (w_dr (t_ls T l n0 (j + 1)) 5)) (hb : m_bS S mk) (hL : m_L I mk nn K tl) (hw : m_wy I T l) (hp : m_pth I mk T l n0 (t_dp T)) (q : ∀ J mm, w_mo S mk mm → m_bS S mm → m_L J mm nn K tl → (∀ j, j < t_dp T → t_cb T l j ≠ 0 → w_at mm (J 44 (31 * s + t_ab l (j + 1))) (w_dr (t_ls T l n0 (j + 1)) 5)) → m_gp (fun f k => m_p2 f k ∨ (f = 44 ∧ ∃ j, j < t_dp T ∧ t_cb T l j ≠ 0 ∧ k = 31 * s + t_ab l (j + 1))) I J → R J) : rm_103 s I R := by
  unfold rm_103
  exact ⟨t_dp T + 1, r_hp_2 hs hl h4 hS _ 0 hb hL hw hp (fun j hj => by omega) (by omega) (by omega) q⟩
end
