/-! ===== the class: openPath's way up ===== -/
noncomputable section
/-- what the way up reads -/
def c_ob (H : sw_H) (mk : List Wt) (nn : Nat) (K : Wt → Prop) (tl : List Wt) (cn cs : Int) (g : Nat) (T : w_T) (msk : Int) (l : Nat) (kf : Nat → Wt) : Prop := c_W H mk nn K tl cn cs ∧ c_Ta H ∧ c_Pa H ∧ c_pk2 H T msk l (t_wl T l (t_dp T)) ∧ c_gs H g ∧ ∀ i k : Nat, (t_wl T l (t_dp T))[i]? = some k → w_at mk (sw_iv H 88 i) (kf k)
variable {H H0 Z X : sw_H} {nn g l k k0 st i j : Nat} {K S : Wt → Prop} {tl mk m0 mm : List Wt} {cn cs msk N U M : Int} {P : Int → sw_H → Prop} {T : w_T} {p : Wt} {kf : Nat → Wt} {A : List Nat}
theorem c_ob_ch (hg93 : 93 < g) (h : c_ob H mk nn K tl cn cs g T msk l kf) (hW : c_W Z mm nn K tl cn cs) (c : c_ch A H Z) (hl : w_le mk mm) (hA : ∀ a ∈ A, a = 90) : c_ob Z mm nn K tl cn cs g T msk l kf := by
  obtain ⟨h1, h2, h3, h4, h5, h6⟩ := h
  have fl := h1.1.2.2.2.1
  have ad := h1.1.2.2.2.2
  refine ⟨hW, c_Ta_ch h2 fl ad c (fun ha => by have := hA _ ha; omega), c_Pa_ch h3 fl ad c (fun ha => by have := hA _ ha; omega), c_pk2_ch h4 fl ad c (fun a ha => by have := hA a ha; omega), c_gs_ch h5 fl ad c (fun a ha _ => by have := hA a ha; omega) (fun ha => by have := hA _ ha; omega), fun i k hi => ?_⟩
  rw [(c_fx_iv fl ad c (q := 88) (by unfold c_fix; omega) (fun ha => by have := hA _ ha; omega)).1 i]
  exact w_le_at hl (h6 i k hi)
theorem t_wl_mo {d : Nat} (hi : (t_wl T l d)[i]? = some k) (hj : (t_wl T l d)[j]? = some k0) (hij : i ≤ j) : k ≤ k0 := by
  obtain ⟨a1, a2, a3, a4⟩ := t_wl_at hi
  obtain ⟨b1, b2, b3, b4⟩ := t_wl_at hj
  rcases Nat.lt_or_ge k0 k with c | c
  · exfalso
    obtain ⟨e, he⟩ := t_wl_pre (T := T) (l := l) (n := k0 + 1) (m := k) (by omega)
    have il : i < (t_wl T l d).length := (List.getElem?_eq_some_iff.mp hi).1
    have jl : j < (t_wl T l d).length := (List.getElem?_eq_some_iff.mp hj).1
    have l1 : (t_wl T l (k0 + 1)).length = j + 1 := by rw [b4, List.length_take]; omega
    have l2 : (t_wl T l k).length = i := by rw [a3, List.length_take]; omega
    rw [he, List.length_append] at l2
    omega
  · exact c
theorem d_cok_of {d : Nat} (hd : d = t_dp T) (hst : (t_wl T l d)[st]? = some k0) (h : ∀ j k : Nat, st ≤ j → (t_wl T l d)[j]? = some k → w_p5 (w_dr (d_ls T l p k0 k) 5) = kf k) : d_cok T l p k0 kf := fun j h1 h2 h3 => by
  subst hd
  refine h _ j ?_ (t_wl_in h3 h2)
  obtain ⟨a1, a2, a3, a4⟩ := t_wl_at hst
  obtain ⟨e, he⟩ := t_wl_pre (T := T) (l := l) (n := k0) (m := j) h1
  have sl : st < (t_wl T l (t_dp T)).length := (List.getElem?_eq_some_iff.mp hst).1
  have l1 : (t_wl T l k0).length = st := by rw [a3, List.length_take]; omega
  rw [he, List.length_append]
  omega
theorem c_op_43 (lm : c_lm cn cs N U M) (hg93 : 93 < g) (hpl : c_pl g) (h4 : t_dp T ≤ 4) (hl : l < 2 ^ t_dp T) (h5 : ∀ k, w_i5 (kf k)) (hst : (t_wl T l (t_dp T))[st]? = some k0) (hS : ∀ v, d_clS T l p k0 v → S v) (fl0 : c_full H0) (ad0 : c_ads H0) (q0 : ∀ X mm, d_cok T l p k0 kf → w_mo S m0 mm → c_bS S mm tl N U M → c_W X mm nn K tl cn cs → w_at mm (sw_iv X 94 7) (d_ls T l p k0 (t_dp T)) → (∀ j k : Nat, st ≤ j → (t_wl T l (t_dp T))[j]? = some k → w_at mm (sw_iv X (g + 22) (t_ab l (k + 1))) (w_dr (d_ls T l p k0 k) 5)) → (∀ x : Nat, (∀ j k : Nat, st ≤ j → (t_wl T l (t_dp T))[j]? = some k → x ≠ t_ab l (k + 1)) → sw_iv X (g + 22) x = sw_iv H0 (g + 22) x) → (∀ f, sw_rv X 94 f = sw_rv H0 94 f) → c_ch [90, 94, g + 22] H0 X → P 0 X) (q11 : ∀ X mm, ¬ d_cok T l p k0 kf → w_mo S m0 mm → c_bS S mm tl N U M → c_W X mm nn K tl cn cs → (∀ f, sw_rv X 94 f = sw_rv H0 94 f) → c_ch [90, 94, g + 22] H0 X → P 11 X) : ∀ (n i : Nat) {H : sw_H} {mq : List Wt} {x5 : Int}, c_ob H mq nn K tl cn cs g T msk l kf → w_mo S m0 mq → c_bS S mq tl N U M → c_ch [90] H0 H → st ≤ i → i ≤ (t_wl T l (t_dp T)).length → (∀ k, (t_wl T l (t_dp T))[i]? = some k → w_at mq x5 (d_ls T l p k0 k)) → (i = (t_wl T l (t_dp T)).length → w_at mq x5 (d_ls T l p k0 (t_dp T))) → (∀ j k : Nat, st ≤ j → j < i → (t_wl T l (t_dp T))[j]? = some k → w_p5 (w_dr (d_ls T l p k0 k) 5) = kf k ∧ w_at mq (sw_iv H 90 j) (w_dr (d_ls T l p k0 k) 5)) → (t_wl T l (t_dp T)).length - i < n → wl_307_43 P n 94 g st x5 i H
  | 0, _, _, _, _, _, _, _, _, _, _, _, _, _, h => by omega
  | n + 1, i, H, mq, x5, hB, mo, hb, cH, hsi, hil, hx, hxe, hd, hn => by
    obtain ⟨hW, hTa, hPa, hk, gs, hky⟩ := id hB
    obtain ⟨t94, r0, r1, r2, r3, r4, _⟩ := id hTa
    have fl := hW.1.2.2.2.1
    have ad := hW.1.2.2.2.2
    have len4 := t_wl_len (T := T) (l := l) (t_dp T)
    have d16 := t_d_16 h4
    have plb := c_pl_b hpl
    have g22 : c_fix (g + 22) := by have := gs.2.1; unfold c_fix; omega
    have ch3 : c_ch [90, 94, g + 22] H0 H := c_ch_sub cH (by simp)
    have i22 : ∀ x, sw_iv H (g + 22) x = sw_iv H0 (g + 22) x := fun x => (c_fx_iv fl0 ad0 cH (q := g + 22) g22 (by simp; omega)).1 x
    unfold wl_307_43
    rw [r4]
    refine ⟨hPa.1, ?_⟩
    intro q1 e1 v4 e4 _
    rw [e1, hk.1] at e4
    refine ⟨fun c => ?_, fun c => ⟨hPa.1, ?_⟩⟩
    · have ei : i = (t_wl T l (t_dp T)).length := by omega
      intro H7 e7
      have f7 : c_fr [94] H H7 := by rw [e7]; exact c_fr_si _ _ _ _
      have v7 : sw_iv H7 94 7 = x5 := by rw [e7, c_si_eq]
      clear e7
      have W7 := c_W_fr hW f7 (fun a ha => by simp at ha; unfold c_fix; omega)
      have c7 := c_V_ch hW.1 f7 (fun a ha => by simp at ha; unfold c_fix; omega)
      rw [f7.2.2.2.2.1, r4]
      refine ⟨by rw [f7.2.2.1]; exact hPa.1, ?_⟩
      intro q10 e10
      rw [e10]
      refine c_tellSecrets (c_Pa_fr hPa f7) (c_gs_fr gs f7) hg93 (c_pk2_fr hk f7 (fun a ha => by simp at ha; omega)) h4 hl (by omega) (fun X fX x1 x2 => ?_)
      intro _
      have WX := c_W_fr W7 fX (fun a ha => by simp at ha; rw [ha]; exact ⟨g22, by omega⟩)
      have cX := c_V_ch W7.1 fX (fun a ha => by simp at ha; rw [ha]; exact g22)
      refine q0 X mq (d_cok_of rfl hst (fun j k h1 h2 => (hd j k h1 (by have := (List.getElem?_eq_some_iff.mp h2).1; omega) h2).1)) mo hb WX ?_ (fun j k h1 h2 => ?_) (fun x h => ?_) (fun f => by rw [fX.2.2.2.2.1, f7.2.2.2.2.1]; exact (c_fx_iv fl0 ad0 cH (q := 94) (by unfold c_fix; omega) (by simp)).2 f) (c_ch_t ch3 (c_ch_t (c_ch_sub c7 (by simp)) (c_ch_sub cX (by simp))))
      · rw [fX.2.2.2.2.2 94 (by simp; omega), v7]
        exact hxe ei
      · rw [x1 j k h1 h2, f7.2.2.2.2.2 90 (by decide)]
        exact (hd j k h1 (by have := (List.getElem?_eq_some_iff.mp h2).1; omega) h2).2
      · rw [x2 x h, f7.2.2.2.2.2 (g + 22) (by simp; omega)]
        exact i22 x
    · have il : i < (t_wl T l (t_dp T)).length := by omega
      obtain ⟨k, hik⟩ : ∃ k, (t_wl T l (t_dp T))[i]? = some k := ⟨_, List.getElem?_eq_getElem il⟩
      obtain ⟨a1, a2, a3, a4⟩ := t_wl_at hik
      have k0k : k0 ≤ k := t_wl_mo hst hik hsi
      have hxk := hx k hik
      intro q18 e18
      rw [e18, (hPa.2.1 5 (by decide) (by decide)).1]
      refine ⟨(hPa.2.1 5 (by decide) (by decide)).2.1, ?_⟩
      intro q21 e21
      rw [r1]
      refine ⟨hW.2.1.1, ?_⟩
      intro q24 e24
      rw [e24]
      refine c_derS (j := 5) rfl (by decide) lm hb hW hxk (hS _ ⟨k, k0k, a1, a2, Or.inl rfl⟩) (fun B1 z30 mb b1 b2 WB aB cB => ?_)
      intro _ _
      have BB := c_ob_ch hg93 hB WB cB b1.1 (by simp)
      rw [e21]
      refine ⟨by omega, by rw [(BB.2.2.1.2.1 5 (by decide) (by decide)).2.2]; omega, ?_⟩
      intro C1 eC
      rw [Int.toNat_natCast] at eC
      have fC : c_fr [90] B1 C1 := by rw [eC]; exact c_fr_si _ _ _ _
      have vC : ∀ j, sw_iv C1 90 j = if j = i then z30 else sw_iv B1 90 j := fun j => by
        rw [eC]
        by_cases c2 : j = i
        · rw [if_pos c2, c2, c_si_eq]
        · rw [if_neg c2, c_si_f c2]
      clear eC
      have WC := c_W_fr WB fC (fun a ha => by simp at ha; unfold c_fix; omega)
      have cC := c_V_ch WB.1 fC (fun a ha => by simp at ha; unfold c_fix; omega)
      have BC := c_ob_ch hg93 BB WC cC (w_le_refl _) (by simp)
      have c0C : c_ch [90] H0 C1 := c_ch_t cH (c_ch_t (c_ch_sub cB (by simp)) cC)
      have i90 : ∀ j, sw_iv B1 90 j = sw_iv H 90 j := fun j => (c_fx_iv fl ad cB (q := 90) (by unfold c_fix; omega) (by simp)).1 j
      rw [BC.2.1.2.1]
      refine ⟨(c_V_sh WC.1).1.1, ?_⟩
      intro q35 e35
      rw [BC.2.1.2.2.2.2.2.1]
      refine ⟨BC.2.2.1.1, ?_⟩
      intro q38 e38
      rw [e38, (BC.2.2.1.2.1 3 (by decide) (by decide)).1]
      refine ⟨(BC.2.2.1.2.1 3 (by decide) (by decide)).2.1, ?_⟩
      intro q41 e41
      rw [e41]
      refine ⟨by omega, by rw [(BC.2.2.1.2.1 3 (by decide) (by decide)).2.2]; omega, ?_⟩
      intro v44 e44 _
      rw [Int.toNat_natCast] at e44
      have w44 := BC.2.2.2.2.2 i k hik
      rw [← e44] at w44
      obtain ⟨a, ea⟩ := h5 k
      have w44' := w44
      rw [ea] at w44'
      have pa := (c_parts WC.1.1 w44' (by decide)).1
      obtain ⟨le1, le2⟩ := w_at_le w44
      have ev : ((v44.toNat : Nat) : Int) = v44 := by omega
      rw [e35, ← ev]
      refine c_firstOf (c_V_sh WC.1) (by rw [WC.1.1.2.1]; omega) (fun _ _ => ?_)
      rw [BC.2.1.2.2.2.2.2.1]
      refine ⟨BC.2.2.1.1, ?_⟩
      intro q52 e52
      rw [e52, (BC.2.2.1.2.1 5 (by decide) (by decide)).1]
      refine ⟨(BC.2.2.1.2.1 5 (by decide) (by decide)).2.1, ?_⟩
      intro q55 e55
      rw [e55]
      refine ⟨by omega, by rw [(BC.2.2.1.2.1 5 (by decide) (by decide)).2.2]; omega, ?_⟩
      intro v58 e58 _
      rw [Int.toNat_natCast, vC i, if_pos rfl] at e58
      have a58 : w_at mb v58 (w_dr (d_ls T l p k0 k) 5) := by rw [e58]; exact aB
      refine ⟨fun c1 => ?_, fun c1 => q11 C1 mb (fun hc => c1 ?_) (w_mo_trans mo b1) b2 WC ((c_fx_iv fl0 ad0 c0C (q := 94) (by unfold c_fix; omega) (by simp)).2) (c_ch_sub c0C (by simp))⟩
      rotate_left
      · have e := hc k k0k a1 a2
        rw [ea] at e
        have e : w_dr (d_ls T l p k0 k) 5 = a := w_p5_inj e
        rw [e] at a58
        rcases pa with ⟨_, g⟩ | g
        · exact absurd g (c_at_ne WC.1.1 a58)
        · exact w_at_inj (c_L_nd WC.1.1) g a58
      have eka : w_p5 (w_dr (d_ls T l p k0 k) 5) = kf k := by
        rw [c1] at pa
        rcases pa with ⟨g, _⟩ | g
        · have := (w_at_le a58).1
          omega
        · rw [ea, ← w_at_fun g a58]
          rfl
      rw [BC.2.1.2.2.1]
      refine ⟨WC.2.1.1, ?_⟩
      intro q61 e61
      rw [e61]
      refine c_derS (j := 4) rfl (by decide) lm b2 WC (w_le_at b1.1 hxk) (hS _ ⟨k, k0k, a1, a2, Or.inr (Or.inr rfl)⟩) (fun D1 z67 md d1 d2 WD aD cD => ?_)
      intro _ _
      have BD := c_ob_ch hg93 BC WD cD d1.1 (by simp)
      intro y72 e72
      rw [sw_s1 (by omega)] at e72
      rw [e72]
      have j90 : ∀ j, sw_iv D1 90 j = sw_iv C1 90 j := fun j => (c_fx_iv WC.1.2.2.2.1 WC.1.2.2.2.2 cD (q := 90) (by unfold c_fix; omega) (by simp)).1 j
      refine c_op_43 lm hg93 hpl h4 hl h5 hst hS fl0 ad0 q0 q11 n (i + 1) BD (w_mo_trans mo (w_mo_trans b1 d1)) d2 (c_ch_t c0C (c_ch_sub cD (by simp))) (by omega) (by omega) (fun k' hk' => ?_) (fun e => ?_) (fun j k' h1 h2 hk' => ?_) (by omega)
      · rw [d_ls_nx k0k hik hk']
        exact aD
      · rw [d_ls_la k0k hik e.symm]
        exact aD
      · rw [j90 j, vC j]
        by_cases cj : j = i
        · subst cj
          rw [hik] at hk'
          injection hk' with hk'
          rw [← hk', if_pos rfl]
          exact ⟨eka, w_le_at d1.1 aB⟩
        · rw [if_neg cj, i90 j]
          obtain ⟨y1, y2⟩ := hd j k' h1 (by omega) hk'
          exact ⟨y1, w_le_at (w_le_trans b1.1 d1.1) y2⟩
end
