/-! ===== the class: writePath, its end ===== -/
noncomputable section
variable {H G Z X Y : sw_H} {mk mm tl l0 l1 : List Wt} {nn nm r k o h l x y g n m : Nat} {K S : Wt → Prop} {cn cs msk N U M z : Int} {T T2 T0 : w_T} {Q : sw_H → Prop} {P : Int → sw_H → Prop} {A : List Nat} {hs : List Nat} {w n0 : Wt}
/-- what writePath changes -/
def c_Aw (g : Nat) : List Nat := [14, 15, 16, 1420, 1421, 1422] ++ (List.range 9).map (fun i => 85 + i) ++ c_rg (g + 1)
theorem c_Aw_m {a : Nat} : a ∈ c_Aw g ↔ a = 14 ∨ a = 15 ∨ a = 16 ∨ (1420 ≤ a ∧ a ≤ 1422) ∨ (85 ≤ a ∧ a ≤ 93) ∨ (g + 1 ≤ a ∧ a ≤ g + 21) := by
  unfold c_Aw
  rw [List.mem_append, List.mem_append, c_rg_m]
  have e : a ∈ (List.range 9).map (fun i => 85 + i) ↔ 85 ≤ a ∧ a ≤ 93 := by
    rw [List.mem_map]
    refine ⟨fun h => ?_, fun h => ⟨a - 85, by rw [List.mem_range]; omega, by omega⟩⟩
    obtain ⟨i, h1, h2⟩ := h
    rw [List.mem_range] at h1
    omega
  rw [e]
  simp
  omega
theorem c_Aw_of (h : c_ch A H G) (hA : ∀ a ∈ A, a = 14 ∨ a = 15 ∨ a = 16 ∨ (1420 ≤ a ∧ a ≤ 1422) ∨ (85 ≤ a ∧ a ≤ 93) ∨ (g + 1 ≤ a ∧ a ≤ g + 21)) : c_ch (c_Aw g) H G := c_ch_sub h (fun a ha => c_Aw_m.mpr (hA a ha))
/-- what stays while a path is written -/
def c_fz (H X : sw_H) (g m : Nat) : Prop := (∀ f, sw_rv X 2 f = sw_rv H 2 f) ∧ (∀ f, sw_rv X g f = sw_rv H g f) ∧ (∀ f, sw_iv X g f = sw_iv H g f) ∧ (∀ f, sw_iv X (120 + 54 * m) f = sw_iv H (120 + 54 * m) f) ∧ ∀ a, 1 ≤ a → a ≤ 1491 → sw_ty X a = sw_ty H a
theorem c_fz_Aw (hm : m < 24) (hpl : c_pl g) (W : c_W H mk nn K tl cn cs) (c : c_ch (c_Aw g) H X) : c_fz H X g m := by
  have fl := W.1.2.2.2.1
  have ad := W.1.2.2.2.2
  obtain ⟨b1, b2⟩ := c_pl_b hpl
  have b3 := c_pl_m hpl hm
  exact ⟨(c_fx_iv fl ad c (q := 2) (by unfold c_fix; omega) (fun cc => by rw [c_Aw_m] at cc; omega)).2, (c_fx_iv fl ad c (q := g) (by unfold c_fix; omega) (fun cc => by rw [c_Aw_m] at cc; omega)).2, (c_fx_iv fl ad c (q := g) (by unfold c_fix; omega) (fun cc => by rw [c_Aw_m] at cc; omega)).1, (c_fx_iv fl ad c (q := 120 + 54 * m) (by unfold c_fix; omega) (fun cc => by rw [c_Aw_m] at cc; omega)).1, fun a a1 a2 => (c.1.2 a (fl a a1 a2)).1⟩
theorem c_wp_x {x3 x4 : Int} (hm : m < 24) (lm : c_lm cn cs N U M) (hpl : c_pl g) (hb : c_bS S mk tl N U M) (hB : c_wb H mk nm K tl cn cs g T msk l l0) (hpw : c_pw H mk T l (w_nm (nn + 1)) (t_wl T l (t_dp T))) (hx3 : w_at mk x3 (w_nm nn)) (hx4 : t_wl T l (t_dp T) ≠ [] → w_at mk x4 (w_dr (t_ls T l (w_nm (nn + 1)) (t_dp T)) 4)) (hl : l < 2 ^ t_dp T) (hr5 : ∀ k, k < t_dp T → ∀ y ∈ w_rq T msk l k, y < t_w (w_pT2 T l m nn) ∧ (t_ky (w_pT2 T l m nn) y).head? = some 5) (hS : ∀ v, w_ptS T l m nn msk v → S v) (hlen : l0.length ≤ 580)
    (q : ∀ z J mm, w_mo S mk mm → c_bS S mm tl N U M → c_W J mm nm K tl cn cs → c_tr J mm (g + 1) (w_pT2 T l m nn) → w_at mm z (w_pcs T l nn) → c_rr J mm 1420 1421 (l0 ++ w_ptx T l m nn msk) → c_pk2 J T msk l (t_wl T l (t_dp T)) → c_pw J mm T l (w_nm (nn + 1)) (t_wl T l (t_dp T)) → c_Pa J → c_ch (c_Aw g) H J → (∀ f, sw_iv J 85 f = sw_iv H 85 f) → P z J) : c_wpx P 2 (120 + 54 * m) g x3 x4 H := by
  obtain ⟨O, W, MS, Pa, pk, tr, gs, g3, rr, ln, t48⟩ := hB
  obtain ⟨b1, b2⟩ := c_pl_b hpl
  have b3 := c_pl_m hpl hm
  obtain ⟨ms1, ms2, ms3, ms4, ms5⟩ := MS.2.2 m hm
  obtain ⟨o0, o1, o2, o3, o4, o5, o6, o7, o8, o9, o10, o11, o12, o13⟩ := id O
  have fl := W.1.2.2.2.1
  have ad := W.1.2.2.2.2
  have h4 := tr.2.1.1
  have d16 := t_d_16 h4
  have t11 : sw_ty H 11 = 32 := W.2.1.1
  have t85 : sw_ty H 85 = 64 := Pa.1
  have tg1 : sw_ty H (g + 1) = 104 := tr.1.2.2.1
  have rg0 : sw_rv H g 0 = g + 1 := gs.2.2.2.1
  have t1420 : sw_ty H 1420 = 80 := rr.1.choose_spec.1.1
  have fx1 : ∀ a ∈ [1422], c_fix a := fun a ha => by simp at ha; unfold c_fix; omega
  have fx2 : ∀ a ∈ [1422], c_fix a ∧ (15 < a ∨ a = 2) := fun a ha => by simp at ha; unfold c_fix; omega
  have aw1 : ∀ {X Y : sw_H}, c_ch [1422] X Y → c_ch (c_Aw g) X Y := fun {X Y} c => c_Aw_of c (fun a ha => by simp at ha; omega)
  unfold c_wpx
  rw [o12]
  refine ⟨t48, ?_⟩
  intro q7 e7 v10 e10 _
  rw [ms3] at e10
  subst e10
  intro A1 eA
  rw [e7] at eA
  have fA : c_fr [1422] H A1 := by rw [eA]; exact c_fr_si _ _ _ _
  have WA := c_W_fr W fA fx2
  rw [fA.2.2.2.2.1 2 12, o12]
  refine ⟨by rw [fA.2.2.1]; exact t48, ?_⟩
  intro q16 e16
  rw [fA.2.2.2.2.1 2 1, o2]
  refine ⟨by rw [fA.2.2.1]; exact t11, ?_⟩
  intro q19 e19
  rw [e19]
  refine c_pubS lm hb WA hx3 (hS _ (Or.inr (Or.inl rfl))) (fun B1 zk mb bm1 bm2 WB aB cB => ?_)
  intro _ _ C1 eC
  rw [e16] at eC
  have fC : c_fr [1422] B1 C1 := by rw [eC]; exact c_fr_si _ _ _ _
  have WC := c_W_fr WB fC fx2
  have cHC : c_ch (c_Aw g) H C1 := c_ch_t (aw1 (c_V_ch W.1 fA fx1)) (c_ch_t (c_Aw_of cB (by simp)) (aw1 (c_V_ch WB.1 fC fx1)))
  have zC := c_fz_Aw hm hpl W cHC
  rw [zC.1 12, o12]
  refine ⟨by rw [zC.2.2.2.2 1422 (by decide) (by decide)]; exact t48, ?_⟩
  intro q30 e30 v33 e33 _
  rw [zC.2.2.2.1 2] at e33
  subst e33
  intro D1 eD
  rw [e30] at eD
  have fD : c_fr [1422] C1 D1 := by rw [eD]; exact c_fr_si _ _ _ _
  rw [fD.2.2.2.2.1 2 12, zC.1 12, o12]
  refine ⟨by rw [fD.2.2.1, zC.2.2.2.2 1422 (by decide) (by decide)]; exact t48, ?_⟩
  intro q39 e39 E1 eE
  rw [e39] at eE
  have fE : c_fr [1422] D1 E1 := by rw [eE]; exact c_fr_si _ _ _ _
  have WE := c_W_fr (c_W_fr WC fD fx2) fE fx2
  have cHE : c_ch (c_Aw g) H E1 := c_ch_t cHC (c_ch_t (aw1 (c_V_ch WC.1 fD fx1)) (aw1 (c_V_ch (c_W_fr WC fD fx2).1 fE fx1)))
  have cHE1 : c_ch [1422] H E1 := c_ch_t (c_V_ch W.1 fA fx1) (c_ch_t (c_ch_sub cB (by simp)) (c_ch_t (c_V_ch WB.1 fC fx1) (c_ch_t (c_V_ch WC.1 fD fx1) (c_V_ch (c_W_fr WC fD fx2).1 fE fx1))))
  have zE := c_fz_Aw hm hpl W cHE
  have iB : ∀ f, sw_iv B1 1422 f = sw_iv A1 1422 f := (c_fx_iv WA.1.2.2.2.1 WA.1.2.2.2.2 cB (q := 1422) (by unfold c_fix; omega) (by simp)).1
  have E0 : sw_iv E1 1422 0 = (m : Int) := by rw [eE, c_si_f (by decide), eD, c_si_f (by decide), eC, c_si_f (by decide), iB, eA, c_si_eq]
  have E1' : sw_iv E1 1422 1 = zk := by rw [eE, c_si_f (by decide), eD, c_si_f (by decide), eC, c_si_eq]
  have E2 : sw_iv E1 1422 2 = sw_iv H (120 + 54 * m) 2 := by rw [eE, c_si_f (by decide), eD, c_si_eq]
  have E3 : sw_iv E1 1422 3 = 3 := by rw [eE, c_si_eq]
  clear eA eC eD eE
  rw [zE.1 12, o12]
  refine ⟨by rw [zE.2.2.2.2 1422 (by decide) (by decide)]; exact t48, ?_⟩
  intro q45 e45
  rw [zE.1 9, o9]
  refine ⟨by rw [zE.2.2.2.2 85 (by decide) (by decide)]; exact t85, ?_⟩
  intro q48 e48
  rw [zE.2.1 0, rg0]
  refine ⟨by rw [zE.2.2.2.2 (g + 1) (by omega) (by omega)]; exact tg1, ?_⟩
  intro q51 e51 v54 e54 _
  rw [zE.2.2.1 3, g3] at e54
  subst e54
  rw [zE.1 1, o2]
  refine ⟨by rw [zE.2.2.2.2 11 (by decide) (by decide)]; exact t11, ?_⟩
  intro q57 e57
  rw [e48, e51, e57]
  have noE : ∀ a ∈ [1422], a < g + 1 ∨ g + 1 + 20 < a := fun a ha => by simp at ha; omega
  have trE := c_tr_ch tr fl ad cHE1 noE bm1.1
  have PaE := c_Pa_ch Pa fl ad cHE1 (fun cc => by simp at cc)
  have pkE := c_pk2_ch pk fl ad cHE1 (fun a ha => by simp at ha; omega)
  have pwE := c_pw_ch hpw fl ad cHE1 (fun a ha => by simp at ha; omega) bm1.1
  have flE := WE.1.2.2.2.1
  have adE := WE.1.2.2.2.2
  refine c_putInto (kf := w_pkf T l nn) lm bm2 WE trE (by omega) PaE hl pkE (fun i k hk => ⟨(pwE i k hk).2.2, List.cons_ne_nil _ _⟩) (fun v hv => hS v (Or.inr (Or.inr (Or.inr (Or.inr (Or.inl hv)))))) (fun zp J mj j1 j2 WJ trJ apJ cJ => ?_)
  have trJ : c_tr J mj (g + 1) (w_pth T l nn).1 := trJ
  have apJ : w_az mj zp (w_pth T l nn).2 := apJ
  intro _ _ F1 eF
  rw [e45] at eF
  have fF : c_fr [1422] J F1 := by rw [eF]; exact c_fr_si _ _ _ _
  have WF := c_W_fr WJ fF fx2
  have awJ : c_ch (c_Aw g) E1 J := c_Aw_of cJ (fun a ha => by simp [c_rg_m] at ha; omega)
  have cHF : c_ch (c_Aw g) H F1 := c_ch_t cHE (c_ch_t awJ (aw1 (c_V_ch WJ.1 fF fx1)))
  have zF := c_fz_Aw hm hpl W cHF
  have iJ : ∀ f, sw_iv J 1422 f = sw_iv E1 1422 f := (c_fx_iv flE adE cJ (q := 1422) (by unfold c_fix; omega) (fun cc => by simp [c_rg_m] at cc; omega)).1
  have F4 : sw_iv F1 1422 4 = zp := by rw [eF, c_si_eq]
  have Fo : ∀ f, f ≠ 4 → sw_iv F1 1422 f = sw_iv E1 1422 f := fun f hf => by rw [eF, c_si_f hf, iJ]
  clear eF
  have leJ : w_le mk mj := w_le_trans bm1.1 j1.1
  rw [zF.1 1, o2]
  refine ⟨by rw [zF.2.2.2.2 11 (by decide) (by decide)]; exact t11, ?_⟩
  intro q68 e68
  rw [zF.1 12, o12]
  refine ⟨by rw [zF.2.2.2.2 1422 (by decide) (by decide)]; exact t48, ?_⟩
  intro q71 e71 v74 e74 _ v77 e77 _
  rw [zF.2.2.1 3, g3] at e74
  rw [zF.2.2.2.1 1] at e77
  subst e74 e77
  rw [e68, e71]
  have lfF : c_lf F1 mj 1422 (m : Int) (w_p5 (w_nm nn)) (w_pub m) 3 (w_pth T l nn).2 := ⟨by rw [Fo 0 (by decide)]; exact E0, by rw [Fo 1 (by decide), E1']; exact w_le_at j1.1 aB, by rw [Fo 2 (by decide), E2]; exact w_le_at leJ ms5, by rw [Fo 3 (by decide)]; exact E3, by rw [F4]; exact apJ, by decide, by decide⟩
  refine c_signLeaf lm WF (by decide) (by decide) hm lfF (w_le_at leJ ms4) (c_bS_0 j2 WJ.1.1) (fun X WX aX eX cX => ?_)
  have hS6 : S (w_lsg m (w_p5 (w_nm nn)) 3 (w_pth T l nn).2 l) := hS _ (Or.inr (Or.inr (Or.inr (Or.inr (Or.inr (Or.inl rfl))))))
  have x1 : w_mo S mj (w_tl mj (w_lsg m (w_p5 (w_nm nn)) 3 (w_pth T l nn).2 l)) := w_mo_tl hS6
  have x2 := c_bS_mo j2 x1
  obtain ⟨mx, emx⟩ : ∃ mx, mx = w_tl mj (w_lsg m (w_p5 (w_nm nn)) 3 (w_pth T l nn).2 l) := ⟨_, rfl⟩
  rw [← emx] at WX aX x1 x2
  intro _
  have flF := WF.1.2.2.2.1
  have adF := WF.1.2.2.2.2
  have cHX : c_ch (c_Aw g) H X := c_ch_t cHF (c_Aw_of cX (fun a ha => by simp at ha; omega))
  have zX := c_fz_Aw hm hpl W cHX
  have trX : c_tr X mx (g + 1) (w_pth T l nn).1 := c_tr_ch (c_tr_fr WJ.1 trJ fF (fun a ha => by simp at ha; unfold c_fix; omega)) flF adF cX (fun a ha => by simp at ha; omega) x1.1
  have lfX : c_lf X mx 1422 (m : Int) (w_p5 (w_nm nn)) (w_pub m) 3 (w_pth T l nn).2 := c_lf_iv lfF (fun f hf => eX f (by omega)) x1.1
  rw [zX.2.1 0, rg0]
  refine ⟨by rw [zX.2.2.2.2 (g + 1) (by omega) (by omega)]; exact tg1, ?_⟩
  intro q85 e85 v88 e88 _
  rw [zX.2.2.1 3, g3] at e88
  subst e88
  rw [zX.1 12, o12]
  refine ⟨by rw [zX.2.2.2.2 1422 (by decide) (by decide)]; exact t48, ?_⟩
  intro q91 e91
  rw [e85, e91]
  have lok : t_lfok (w_plf T l m nn) := ⟨(by omega : (0 : Int) ≤ (m : Int)), (by omega : (m : Int) < 65536), (by decide : (1 : Int) ≤ 3), (by decide : (3 : Int) ≤ 3), fun c => absurd rfl c, List.cons_ne_nil _ _⟩
  refine c_putLeafX (o := 1422) (f := w_plf T l m nn) trX (by show l < 2 ^ t_dp (t_pth (t_cb T l) T l (w_pkf T l nn)).1; rw [t_pth_dp]; exact hl) (Or.inr (by omega)) ⟨lfX, aX⟩ lok (fun Y trY fY => ?_)
  have trY : c_tr Y mx (g + 1) (w_pT2 T l m nn) := trY
  intro _
  have rgx : ∀ a ∈ c_rg (g + 1), c_fix a := fun a ha => by rw [c_rg_m] at ha; unfold c_fix; omega
  have WY := c_W_fr WX fY (fun a ha => ⟨rgx a ha, by rw [c_rg_m] at ha; omega⟩)
  have cXY := c_V_ch WX.1 fY rgx
  have cHY : c_ch (c_Aw g) H Y := c_ch_t cHX (c_Aw_of cXY (fun a ha => by rw [c_rg_m] at ha; omega))
  have zY := c_fz_Aw hm hpl W cHY
  have leX : w_le mk mx := w_le_trans leJ x1.1
  have i22 : sw_iv Y 1422 = sw_iv X 1422 := fY.2.2.2.2.2 1422 (by rw [c_rg_m]; omega)
  have no2 : ∀ {B : List Nat}, (∀ a ∈ B, a = 14 ∨ a = 15 ∨ a = 16 ∨ a = 1422 ∨ (g + 1 ≤ a ∧ a ≤ g + 21)) → 1420 ∉ B ∧ 1421 ∉ B := fun h => ⟨fun c => by have := h _ c; omega, fun c => by have := h _ c; omega⟩
  -- the finer list: what has changed up to here
  have cBl : c_ch ([1422, 14, 15, 16] ++ c_rg (g + 1)) H Y := c_ch_sub (c_ch_trans cHE1 (c_ch_trans cJ (c_ch_trans (c_V_ch WJ.1 fF fx1) (c_ch_trans cX cXY)))) (fun a ha => by simp [c_rg_m] at ha ⊢; omega)
  have nBl : ∀ a ∈ [1422, 14, 15, 16] ++ c_rg (g + 1), a = 14 ∨ a = 15 ∨ a = 16 ∨ a = 1422 ∨ (g + 1 ≤ a ∧ a ≤ g + 21) := fun a ha => by simp [c_rg_m] at ha; omega
  have rrY := c_rr_ch W.1 rr cBl WY.1 leX (no2 nBl).1 (no2 nBl).2
  have lnY : sw_ln Y 1421 = 1400 := by rw [(c_fx_ty fl cBl (q := 1421) (by unfold c_fix; omega)).2]; exact ln
  rw [zY.1 12, o12]
  refine ⟨by rw [zY.2.2.2.2 1422 (by decide) (by decide)]; exact t48, ?_⟩
  intro q99 e99
  rw [zY.1 11, o11]
  refine ⟨by rw [zY.2.2.2.2 1420 (by decide) (by decide)]; exact t1420, ?_⟩
  intro q102 e102
  rw [e99, e102]
  have mlx := c_W_len lm (c_bS_0 x2 WX.1.1)
  refine c_writeTo (p := 1422) (sg := w_lsg m (w_p5 (w_nm nn)) 3 (w_pth T l nn).2 l) WY.1.1 mlx rrY (by rw [lnY]; omega) (c_lf_iv lfX (fun f _ => by rw [i22]) (w_le_refl _)) (fun _ => by rw [i22]; exact aX) (by decide) (fun V rV fV => ?_)
  intro _
  have fxo : ∀ a ∈ [1420, 1421], c_fix a := fun a ha => by simp at ha; unfold c_fix; omega
  have fxo2 : ∀ a ∈ [1420, 1421], c_fix a ∧ (15 < a ∨ a = 2) := fun a ha => by simp at ha; unfold c_fix; omega
  have WV := c_W_fr WY fV fxo2
  have cYV := c_V_ch WY.1 fV fxo
  have cHV : c_ch (c_Aw g) H V := c_ch_t cHY (c_Aw_of cYV (fun a ha => by simp at ha; omega))
  have zV := c_fz_Aw hm hpl W cHV
  have cBV : c_ch ([1422, 14, 15, 16, 1420, 1421] ++ c_rg (g + 1)) H V := c_ch_sub (c_ch_trans cBl cYV) (fun a ha => by simp [c_rg_m] at ha ⊢; omega)
  have rV : c_rr V mx 1420 1421 (l0 ++ w_lfw (w_plf T l m nn)) := by
    have e : l0 ++ w_lh (m : Int) (w_p5 (w_nm nn)) (w_pub m) 3 (w_pth T l nn).2 ++ (if (1 : Int) ≠ 0 then [w_lsg m (w_p5 (w_nm nn)) 3 (w_pth T l nn).2 l] else []) = l0 ++ w_lfw (w_plf T l m nn) := by
      rw [if_pos (by decide), List.append_assoc]
      rfl
    rw [e] at rV
    exact rV
  rw [zV.2.1 0, rg0]
  refine ⟨by rw [zV.2.2.2.2 (g + 1) (by omega) (by omega)]; exact tg1, ?_⟩
  intro q110 e110
  rw [e110]
  have nV : ∀ a ∈ [1422, 14, 15, 16, 1420, 1421] ++ c_rg (g + 1), a ≠ 85 ∧ a ≠ 86 ∧ a ≠ 87 ∧ a ≠ 88 ∧ a ≠ 89 ∧ a ≠ 90 ∧ a ≠ 91 ∧ a ≠ 92 ∧ a ≠ 2 := fun a ha => by simp [c_rg_m] at ha; omega
  have hN : c_wn V mx nm K tl cn cs T msk l (w_nm (nn + 1)) (g + 1) (w_pT2 T l m nn) := ⟨c_O_ch O cBV ad fl (fun cc => by have := nV _ cc; omega), WV, c_Pa_ch Pa fl ad cBV (fun cc => by have := nV _ cc; omega), c_pk2_ch pk fl ad cBV (fun a ha => by have := nV a ha; omega), c_pw_ch hpw fl ad cBV (fun a ha => by have := nV a ha; omega) leX, c_tr_fr WY.1 trY fV (fun a ha => by simp at ha; unfold c_fix; omega), by rw [fV.2.2.2.1]; exact lnY, by rw [zV.2.2.2.2 1420 (by decide) (by decide)]; exact t1420⟩
  have e7 := w_lh_len (w_plf T l m nn).1 (w_plf T l m nn).2.1 (w_plf T l m nn).2.2.1 (w_plf T l m nn).2.2.2.1 (w_plf T l m nn).2.2.2.2.1
  have e7' : (w_lfw (w_plf T l m nn)).length ≤ 7 := by unfold w_lfw; rw [List.length_append, List.length_singleton]; omega
  refine c_writePathNodes lm x2 (by omega) (by omega) tr.2.1 hl (fun k hk => w_pT2_rq hl h4 hk) hr5 (fun k hk ck y hy => hS _ (Or.inr (Or.inr (Or.inr (Or.inr (Or.inr (Or.inr ⟨k, hk, ck, y, by rw [w_pT2_rq hl h4 hk]; exact hy, rfl⟩))))))) (by rw [List.length_append]; omega) (t_ok_pT2 (by omega) hm tr.2.1) t_pT2_dp hN rV (fun L1 ml lm1 lb NL rL cL => ?_)
  intro _
  have cHL : c_ch (c_Aw g) H L1 := c_ch_t cHV (c_Aw_of cL (fun a ha => by simp at ha; omega))
  have m2 : w_mo S mk ml := w_mo_trans bm1 (w_mo_trans j1 (w_mo_trans x1 lm1))
  have i85 : ∀ f, sw_iv L1 85 f = sw_iv H 85 f := fun f => by
    rw [(c_fx_iv WV.1.2.2.2.1 WV.1.2.2.2.2 cL (q := 85) (by unfold c_fix; omega) (by simp)).1 f]
    exact (c_fx_iv fl ad cBV (q := 85) (by unfold c_fix; omega) (fun cc => by have := nV _ cc; omega)).1 f
  have rF : c_rr L1 ml 1420 1421 (l0 ++ w_ptx T l m nn msk) := by
    have e : l0 ++ w_lfw (w_plf T l m nn) ++ w_b16 ((w_nk T (w_pT2 T l m nn) msk l (w_nm (nn + 1)) (t_dp T)).length : Nat) ++ w_nk T (w_pT2 T l m nn) msk l (w_nm (nn + 1)) (t_dp T) = l0 ++ w_ptx T l m nn msk := by
      unfold w_ptx
      simp only [List.append_assoc]
    rw [e] at rL
    exact rL
  obtain ⟨OL, WL, PaL, pkL, pwL, trL, lnL, tyL⟩ := NL
  rw [OL.2.2.2.2.2.2.2.2.2.1]
  refine ⟨PaL.1, ?_⟩
  intro q118 e118 v121 e121 _
  rw [e118, pkL.1] at e121
  subst e121
  have n0e : w_nm (nn + 1) ≠ [] := List.cons_ne_nil _ _
  refine ⟨fun c => ?_, fun c => ?_⟩
  · have e0 : t_wl T l (t_dp T) = [] := List.length_eq_zero_iff.mp (by omega)
    have ep : w_pcs T l nn = w_dr (w_nm nn) 4 := by unfold w_pcs; rw [if_pos ((t_ls_wl n0e _).mpr e0)]
    rw [OL.2.2.1]
    refine ⟨WL.2.1.1, ?_⟩
    intro q124 e124
    rw [e124]
    refine c_derS (j := 4) rfl (by decide) lm lb WL (w_le_at (w_le_trans leX lm1.1) hx3) (by rw [← ep]; exact hS _ (Or.inr (Or.inr (Or.inr (Or.inl rfl))))) (fun D2 zd md d1 d2 WD aD cD => ?_)
    intro _ _
    have flL := WL.1.2.2.2.1
    have adL := WL.1.2.2.2.2
    refine q zd D2 md (w_mo_trans m2 d1) d2 WD (c_tr_ch trL flL adL cD (by simp) d1.1) (by rw [ep]; exact aD) (c_rr_ch WL.1 rF cD WD.1 d1.1 (by simp) (by simp)) (c_pk2_ch pkL flL adL cD (by simp)) (c_pw_ch pwL flL adL cD (by simp) d1.1) (c_Pa_ch PaL flL adL cD (by simp)) (c_ch_t cHL (c_Aw_of cD (by simp))) (fun f => ?_)
    rw [(c_fx_iv flL adL cD (q := 85) (by unfold c_fix; omega) (by simp)).1 f]
    exact i85 f
  · have hne : t_wl T l (t_dp T) ≠ [] := fun cc => by rw [cc] at c; exact absurd c (by decide)
    have ep : w_pcs T l nn = w_dr (t_ls T l (w_nm (nn + 1)) (t_dp T)) 4 := by unfold w_pcs; rw [if_neg (fun cc => hne ((t_ls_wl n0e _).mp cc))]
    exact q x4 L1 ml m2 lb WL trL (by rw [ep]; exact w_le_at (w_le_trans leX lm1.1) (hx4 hne)) rF pkL pwL PaL cHL i85
end
