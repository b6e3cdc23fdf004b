/-! ===== the class: climb ===== -/
noncomputable section
variable {H H0 Z X : sw_H} {nn g lf sd h0 : Nat} {K S : Wt → Prop} {tl mk m0 mm : List Wt} {cn cs N U M x2 : Int} {P : Int → sw_H → Prop} {T : w_T} {p : Wt}
theorem c_cb_39 (lmm : c_lm cn cs N U M) (hpl : c_pl g) (hW0 : c_W H0 m0 nn K tl cn cs) (hTa : c_Ta H0) (hgs : c_gs H0 g) (ht : c_tr H0 m0 (g + 1) T) (hpk : t_pk T) (i3 : sw_iv H0 g 3 = (lf : Nat)) (hl : lf < 2 ^ t_dp T) (hh1 : 1 ≤ h0) (hk0 : t_ky T (t_ab lf h0) ≠ []) (hS : ∀ v, e_clS T lf p h0 v → S v) (q0 : ∀ X mm, e_cok T lf p h0 → w_mo S m0 mm → c_bS S mm tl N U M → c_W X mm nn K tl cn cs → (∀ j, h0 ≤ j → j ≤ t_dp T → t_ky T (t_ab lf j) ≠ [] → w_at mm (sw_iv X (g + 22) (t_ab lf j)) (w_dr (e_ls T lf p h0 j) 5)) → (∀ x, (∀ j, h0 ≤ j → j ≤ t_dp T → t_ky T (t_ab lf j) ≠ [] → x ≠ t_ab lf j) → sw_iv X (g + 22) x = sw_iv H0 (g + 22) x) → c_ch [g + 22] H0 X → P 0 X) (q11 : ∀ X mm, ¬ e_cok T lf p h0 → w_mo S m0 mm → c_bS S mm tl N U M → c_W X mm nn K tl cn cs → c_ch [g + 22] H0 X → P 11 X) : ∀ (n j : Nat) {H : sw_H} {mq : List Wt} {x5 : Int}, w_mo S m0 mq → c_bS S mq tl N U M → c_W H mq nn K tl cn cs → c_ch [g + 22] H0 H → w_at mq x5 (e_ls T lf p h0 j) → h0 ≤ j → j ≤ t_dp T + 1 → t_dp T + 1 - j < n → (∀ i, h0 ≤ i → i < j → t_ky T (t_ab lf i) ≠ [] → w_p5 (w_dr (e_ls T lf p h0 i) 5) = t_ky T (t_ab lf i) ∧ w_at mq (sw_iv H (g + 22) (t_ab lf i)) (w_dr (e_ls T lf p h0 i) 5)) → (∀ x, (∀ i, h0 ≤ i → i < j → t_ky T (t_ab lf i) ≠ [] → x ≠ t_ab lf i) → sw_iv H (g + 22) x = sw_iv H0 (g + 22) x) → wl_372_39 P n 94 g (g + 1) x5 j H
  | 0, _, _, _, _, _, _, _, _, _, _, _, h, _, _ => by omega
  | n + 1, j, H, mq, x5, mo, hb, hW, cH, hx5, hj, hjd, hn, inv, oth => by
    obtain ⟨p1, p2⟩ := c_pl_b hpl
    have fl0 := hW0.1.2.2.2.1
    have ad0 := hW0.1.2.2.2.2
    have h4 := ht.2.1.1
    have d16 := t_d_16 h4
    have w31 := t_w_4 h4
    have tH := c_tr_ch ht fl0 ad0 cH (fun a ha => by simp at ha; omega) mo.1
    have gsH := c_gs_ch hgs fl0 ad0 cH (fun a ha hn => by simp at ha; omega) (fun cc => by simp at cc)
    have vg := c_fx_iv fl0 ad0 cH (q := g) (by unfold c_fix; omega) (by simp)
    have v94 := c_fx_iv fl0 ad0 cH (q := 94) (by unfold c_fix; omega) (by simp <;> omega)
    obtain ⟨t94, r0, r1, r2, r3, r4, _⟩ := id hTa
    obtain ⟨_, _, _, rv1, rv2, rv3, rv4, ty3, ty4, ln4, rvk⟩ := tH.1
    unfold wl_372_39
    intro v5 e5 _
    rw [tH.2.2.1] at e5
    refine ⟨fun c => q0 H mq ⟨hk0, fun i i1 i2 i3 => (inv i i1 (by omega) i3).1⟩ mo hb hW (fun i i1 i2 i3 => (inv i i1 (by omega) i3).2) (fun x hx => oth x (fun i i1 i2 i3 => hx i i1 (by omega) i3)) cH, fun c => ?_⟩
    have jd : j ≤ t_dp T := by omega
    have jw := t_ab_w (T := T) (k := lf) (h := j) h4 hl jd
    intro v8 e8 _
    rw [vg.1 3, i3] at e8
    rw [e8]
    refine c_aboveT (by omega) (by omega) ?_
    intro _ _
    rw [rv1]
    refine ⟨(ty3 1 (by decide) (by decide)).1, ?_⟩
    intro q19 e19
    rw [e19]
    refine ⟨by omega, by rw [(ty3 1 (by decide) (by decide)).2]; omega, ?_⟩
    intro v22 e22 _
    rw [Int.toNat_natCast] at e22
    have ka := c_key_0 hW.1.1 tH jw
    rw [← e22] at ka
    have bh : ∀ {J : sw_H} {mj : List Wt} {y5 : Int}, w_mo S m0 mj → c_bS S mj tl N U M → c_W J mj nn K tl cn cs → c_ch [g + 22] H0 J → w_at mj y5 (e_ls T lf p h0 (j + 1)) → (∀ i, h0 ≤ i → i < j + 1 → t_ky T (t_ab lf i) ≠ [] → w_p5 (w_dr (e_ls T lf p h0 i) 5) = t_ky T (t_ab lf i) ∧ w_at mj (sw_iv J (g + 22) (t_ab lf i)) (w_dr (e_ls T lf p h0 i) 5)) → (∀ x, (∀ i, h0 ≤ i → i < j + 1 → t_ky T (t_ab lf i) ≠ [] → x ≠ t_ab lf i) → sw_iv J (g + 22) x = sw_iv H0 (g + 22) x) → wb_372_82 P (wl_372_39 P n) 94 g (g + 1) y5 j J := fun {J mj y5} a1 a2 a3 a4 a5 a6 a7 => by
      unfold wb_372_82
      intro y ey
      rw [sw_s1 (by omega)] at ey
      rw [ey]
      exact c_cb_39 lmm hpl hW0 hTa hgs ht hpk i3 hl hh1 hk0 hS q0 q11 n (j + 1) a1 a2 a3 a4 a5 (by omega) (by omega) (by omega) a6 a7
    refine ⟨fun c1 => ?_, fun c1 => ?_⟩
    · have g0 := ka.mp c1
      refine bh mo hb hW cH (by rw [e_ls_0 g0]; exact hx5) (fun i i1 i2 i3 => inv i i1 ?_ i3) (fun x hx => oth x (fun i i1 i2 i3 => hx i i1 (by omega) i3))
      rcases Nat.lt_or_ge i j with g2 | g2
      · exact g2
      · exfalso
        rw [show i = j by omega] at i3
        exact i3 g0
    have gk : t_ky T (t_ab lf j) ≠ [] := fun e => c1 (ka.mpr e)
    rw [gsH.2.2.2.2.1]
    refine ⟨gsH.2.2.2.2.2.1, ?_⟩
    intro q25 e25
    rw [v94.2 1, r1]
    refine ⟨hW.2.1.1, ?_⟩
    intro q28 e28
    rw [e25, e28]
    refine c_derS (S := S) (j := 5) rfl (by decide) lmm hb hW hx5 (hS _ ⟨j, hj, jd, gk, Or.inl rfl⟩) (fun B1 z34 mb b1 b2 WB aB cB => ?_)
    intro _ _
    have fl := hW.1.2.2.2.1
    have ad := hW.1.2.2.2.2
    have gsB := c_gs_ch gsH fl ad cB (by simp) (by simp)
    have tB := c_tr_ch tH fl ad cB (by simp) b1.1
    refine ⟨by omega, by rw [gsB.2.2.2.2.2.2.1]; omega, ?_⟩
    intro C1 eC
    rw [Int.toNat_natCast] at eC
    have fC : c_fr [g + 22] B1 C1 := by rw [eC]; exact c_fr_si _ _ _ _
    have vC : ∀ x, sw_iv C1 (g + 22) x = if x = t_ab lf j then z34 else sw_iv B1 (g + 22) x := fun x => by
      rw [eC]
      by_cases c2 : x = t_ab lf j
      · rw [if_pos c2, c2, c_si_eq]
      · rw [if_neg c2, c_si_f c2]
    clear eC
    have fxC : ∀ a ∈ [g + 22], c_fix a ∧ (15 < a ∨ a = 2) := fun a ha => by simp at ha; unfold c_fix; omega
    have WC := c_W_fr WB fC fxC
    have cC := c_V_ch WB.1 fC (fun a ha => (fxC a ha).1)
    have tC := c_tr_fr WB.1 tB fC (fun a ha => ⟨(fxC a ha).1, by simp at ha; omega⟩)
    have gsC := c_gs_fr gsB fC
    have cHC : c_ch [g + 22] H0 C1 := c_ch_t cH (c_ch_t (c_ch_sub cB (by simp)) cC)
    have v94C := c_fx_iv fl0 ad0 cHC (q := 94) (by unfold c_fix; omega) (by simp <;> omega)
    have iB : ∀ x, sw_iv B1 (g + 22) x = sw_iv H (g + 22) x := fun x => (c_fx_iv fl ad cB (q := g + 22) (by unfold c_fix; omega) (by simp)).1 x
    rw [v94C.2 0, r0]
    refine ⟨(c_V_sh WC.1).1.1, ?_⟩
    intro q39 e39
    rw [tC.1.2.2.2.1]
    refine ⟨(tC.1.2.2.2.2.2.2.2.1 1 (by decide) (by decide)).1, ?_⟩
    intro q42 e42
    rw [e42]
    refine ⟨by omega, by rw [(tC.1.2.2.2.2.2.2.2.1 1 (by decide) (by decide)).2]; omega, ?_⟩
    intro v45 e45 _
    rw [Int.toNat_natCast] at e45
    have w45 := w_az_ne (tC.2.2.2.1 _ jw).1 gk
    rw [← e45] at w45
    obtain ⟨a, ea⟩ : ∃ a, t_ky T (t_ab lf j) = w_t 5 a [] [] [] := (hpk _ jw).resolve_left gk
    have w45' := w45
    rw [ea] at w45'
    have pa := (c_parts WC.1.1 w45' (by decide)).1
    obtain ⟨le1, le2⟩ := w_at_le w45
    have ev : ((v45.toNat : Nat) : Int) = v45 := by omega
    rw [e39, ← ev]
    refine c_firstOf (c_V_sh WC.1) (by rw [WC.1.1.2.1]; omega) (fun _ _ => ?_)
    rw [gsC.2.2.2.2.1]
    refine ⟨gsC.2.2.2.2.2.1, ?_⟩
    intro q53 e53
    rw [e53]
    refine ⟨by omega, by rw [gsC.2.2.2.2.2.2.1]; omega, ?_⟩
    intro v56 e56 _
    rw [Int.toNat_natCast, vC, if_pos rfl] at e56
    have iff := c_az_iff WC.1.1 pa (Or.inr aB)
    rw [← e56] at iff
    have eqv : a = w_dr (e_ls T lf p h0 j) 5 ↔ w_p5 (w_dr (e_ls T lf p h0 j) 5) = t_ky T (t_ab lf j) := ⟨fun e => by rw [ea, ← e]; rfl, fun e => by
      rw [ea] at e
      exact (w_p5_inj (a := w_dr (e_ls T lf p h0 j) 5) (b := a) e).symm⟩
    have moB := w_mo_trans mo b1
    refine ⟨fun c3 => ?_, fun c3 => q11 C1 mb (fun h => c3 (iff.mpr (eqv.mpr (h.2 j hj jd gk)))) moB b2 WC cHC⟩
    rw [v94C.2 1, r1]
    refine ⟨WC.2.1.1, ?_⟩
    intro q59 e59
    rw [e59]
    refine c_derS (S := S) (j := 4) rfl (by decide) lmm b2 WC (w_le_at b1.1 hx5) (hS _ ⟨j, hj, jd, gk, Or.inr (Or.inr rfl)⟩) (fun D1 z65 md d1 d2 WD aD cD => ?_)
    intro _ _
    have iD : ∀ x, sw_iv D1 (g + 22) x = sw_iv C1 (g + 22) x := fun x => (c_fx_iv WC.1.2.2.2.1 WC.1.2.2.2.2 cD (q := g + 22) (by unfold c_fix; omega) (by simp)).1 x
    refine bh (w_mo_trans moB d1) d2 WD (c_ch_t cHC (c_ch_sub cD (by simp))) (by rw [e_ls_1 hj gk]; exact aD) (fun i i1 i2 i3 => ?_) (fun x hx => ?_)
    · by_cases e : i = j
      · subst e
        refine ⟨eqv.mp (iff.mp c3), ?_⟩
        rw [iD, vC, if_pos rfl]
        exact w_le_at d1.1 aB
      · obtain ⟨y1, y2⟩ := inv i i1 (by omega) i3
        have ne : t_ab lf i ≠ t_ab lf j := fun c => e (t_ab_inj (l := lf) (by omega) (by omega) (by omega) c)
        refine ⟨y1, ?_⟩
        rw [iD, vC, if_neg ne, iB]
        exact w_le_at d1.1 (w_le_at b1.1 y2)
    · rw [iD, vC, if_neg (hx j hj (by omega) gk), iB]
      exact oth x (fun i i1 i2 i3 => hx i i1 (by omega) i3)
theorem c_cb_5 (lmm : c_lm cn cs N U M) (hpl : c_pl g) (hW : c_W H mk nn K tl cn cs) (hTa : c_Ta H) (h18 : sw_ty H 18 = 72) (h7 : sw_iv H 18 7 = (sd : Nat)) (hgs : c_gs H g) (ht : c_tr H mk (g + 1) T) (hpk : t_pk T) (i3 : sw_iv H g 3 = (lf : Nat)) (hl : lf < 2 ^ t_dp T) (hsd : sd < 2 ^ t_dp T) (hb : c_bS S mk tl N U M) (hx2 : w_at mk x2 p) (hS : ∀ v, e_clS T lf p (e_h T lf sd) v → S v) (q0 : ∀ X mm, e_cl T lf sd p → w_mo S mk mm → c_bS S mm tl N U M → c_W X mm nn K tl cn cs → (∀ j, e_h T lf sd ≤ j → j ≤ t_dp T → t_ky T (t_ab lf j) ≠ [] → w_at mm (sw_iv X (g + 22) (t_ab lf j)) (w_dr (e_ls T lf p (e_h T lf sd) j) 5)) → (∀ x, (∀ j, e_h T lf sd ≤ j → j ≤ t_dp T → t_ky T (t_ab lf j) ≠ [] → x ≠ t_ab lf j) → sw_iv X (g + 22) x = sw_iv H (g + 22) x) → c_ch [g + 22] H X → P 0 X) (q11 : ∀ X mm, ¬ e_cl T lf sd p → w_mo S mk mm → c_bS S mm tl N U M → c_W X mm nn K tl cn cs → c_ch [g + 22] H X → P 11 X) : ∀ (n j : Nat), 1 ≤ j → j ≤ t_dp T + 1 → t_dp T + 1 - j < n → (∀ i, 1 ≤ i → i < j → t_ab lf i ≠ t_ab sd i) → wl_372_5 P n 94 g x2 (g + 1) j H
  | 0, _, _, _, h, _ => by omega
  | n + 1, j, h1, h2, hn, inv => by
    have h4 := ht.2.1.1
    have d16 := t_d_16 h4
    have w31 := t_w_4 h4
    obtain ⟨t94, r0, r1, r2, r3, r4, _⟩ := id hTa
    have no : t_dp T < j → P 11 H := fun c => q11 H mk (fun h => ?_) w_mo_refl hb hW (c_ch_refl _ _)
    rotate_left
    · have d1 := h.1
      have tt := t_ab_tt ⟨t_dp T, by omega⟩ ⟨lf, by omega⟩ ⟨sd, by omega⟩ hl hsd
      have tt : t_ab lf (t_dp T) = t_ab sd (t_dp T) := tt
      exact inv (t_dp T) d1 c tt
    unfold wl_372_5
    intro v98 e98 _
    rw [ht.2.2.1] at e98
    refine ⟨fun c => ?_, fun c => ?_⟩
    · unfold wb_372_21
      intro v73 e73 _
      rw [ht.2.2.1] at e73
      exact ⟨fun _ => no (by omega), fun c2 => by omega⟩
    have jd : j ≤ t_dp T := by omega
    have jw := t_ab_w (T := T) (k := lf) (h := j) h4 hl jd
    intro v101 e101 _
    rw [i3] at e101
    rw [e101]
    refine c_aboveT (by omega) (by omega) ?_
    intro _ _
    rw [r2]
    refine ⟨h18, ?_⟩
    intro q109 e109 v112 e112 _
    rw [e109, h7] at e112
    rw [e112]
    refine c_aboveT (by omega) (by omega) ?_
    intro _ _
    refine ⟨fun c1 => ?_, fun c1 => ?_⟩
    rotate_left
    · intro y120 e120
      rw [sw_s1 (by omega)] at e120
      rw [e120]
      refine c_cb_5 lmm hpl hW hTa h18 h7 hgs ht hpk i3 hl hsd hb hx2 hS q0 q11 n (j + 1) (by omega) (by omega) (by omega) (fun i i1 i2 => ?_)
      by_cases e : i = j
      · rw [e]; exact fun c2 => c1 (by rw [c2])
      · exact inv i i1 (by omega)
    have g1 : t_ab lf j = t_ab sd j := by omega
    have eh : e_h T lf sd = j := e_mt_at (t_dp T) 1 h1 (by omega) g1 inv
    unfold wb_372_21
    intro v73 e73 _
    rw [ht.2.2.1] at e73
    refine ⟨fun c2 => by omega, fun _ => ?_⟩
    rw [ht.1.2.2.2.1]
    refine ⟨(ht.1.2.2.2.2.2.2.2.1 1 (by decide) (by decide)).1, ?_⟩
    intro q76 e76 v79 e79 _
    rw [i3] at e79
    rw [e79]
    refine c_aboveT (by omega) (by omega) ?_
    intro _ _
    rw [e76]
    refine ⟨by omega, by rw [(ht.1.2.2.2.2.2.2.2.1 1 (by decide) (by decide)).2]; omega, ?_⟩
    intro v87 e87 _
    rw [Int.toNat_natCast] at e87
    have ka := c_key_0 hW.1.1 ht jw
    rw [← e87] at ka
    refine ⟨fun c3 => ?_, fun c3 => q11 H mk (fun h => ?_) w_mo_refl hb hW (c_ch_refl _ _)⟩
    rotate_left
    · have := h.2.1
      rw [eh] at this
      exact this (ka.mp c3)
    rw [eh] at hS q0
    refine ⟨t_dp T + 2, c_cb_39 (S := S) (h0 := j) lmm hpl hW hTa hgs ht hpk i3 hl h1 (fun e => c3 (ka.mpr e)) hS (fun X mm a1 => q0 X mm ⟨by omega, by rw [eh]; exact a1⟩) (fun X mm a1 => q11 X mm (fun h => a1 (by have := h.2; rw [eh] at this; exact this))) _ j w_mo_refl hb hW (c_ch_refl _ _) (by rw [e_ls_lo (Nat.le_refl _)]; exact hx2) (Nat.le_refl _) (by omega) (by omega) (fun i i1 i2 => by omega) (fun x _ => rfl)⟩
theorem c_climb (lmm : c_lm cn cs N U M) (hpl : c_pl g) (hW : c_W H mk nn K tl cn cs) (hTa : c_Ta H) (h18 : sw_ty H 18 = 72) (h7 : sw_iv H 18 7 = (sd : Nat)) (hgs : c_gs H g) (ht : c_tr H mk (g + 1) T) (hpk : t_pk T) (i3 : sw_iv H g 3 = (lf : Nat)) (hl : lf < 2 ^ t_dp T) (hsd : sd < 2 ^ t_dp T) (hb : c_bS S mk tl N U M) (hx2 : w_at mk x2 p) (hS : ∀ v, e_clS T lf p (e_h T lf sd) v → S v) (q0 : ∀ X mm, e_cl T lf sd p → w_mo S mk mm → c_bS S mm tl N U M → c_W X mm nn K tl cn cs → (∀ j, e_h T lf sd ≤ j → j ≤ t_dp T → t_ky T (t_ab lf j) ≠ [] → w_at mm (sw_iv X (g + 22) (t_ab lf j)) (w_dr (e_ls T lf p (e_h T lf sd) j) 5)) → (∀ x, (∀ j, e_h T lf sd ≤ j → j ≤ t_dp T → t_ky T (t_ab lf j) ≠ [] → x ≠ t_ab lf j) → sw_iv X (g + 22) x = sw_iv H (g + 22) x) → c_ch [g + 22] H X → P 0 X) (q11 : ∀ X mm, ¬ e_cl T lf sd p → w_mo S mk mm → c_bS S mm tl N U M → c_W X mm nn K tl cn cs → c_ch [g + 22] H X → P 11 X) : wm_372 94 g x2 H P := by
  unfold wm_372
  rw [hgs.2.2.2.1]
  refine ⟨ht.1.2.2.1, ?_⟩
  intro q126 e126
  rw [e126]
  exact ⟨t_dp T + 2, c_cb_5 lmm hpl hW hTa h18 h7 hgs ht hpk i3 hl hsd hb hx2 hS q0 q11 _ 1 (Nat.le_refl _) (by omega) (by omega) (fun i i1 i2 => by omega)⟩
end
