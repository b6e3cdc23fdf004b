/-! ===== the class: writePath ===== -/
noncomputable section
variable {H G Z X Y : sw_H} {mk mm tl l0 l1 : List Wt} {nn nm r k o h l x y g n m : Nat} {K S : Wt → Prop} {cn cs msk N U M z : Int} {T T2 T0 : w_T} {Q : sw_H → Prop} {P : Int → sw_H → Prop} {A : List Nat} {hs : List Nat} {w n0 : Wt}
theorem t_mp_0 (h0 : n0 ≠ []) (hne : t_wl T l (t_dp T) ≠ []) : t_mp T l n0 (t_dp T) n0 := by
  have hF : ∀ n, n < t_dp T → t_cb T l n = 0 → t_ls T l n0 (n + 1) = t_ls T l n0 n := fun n _ c => t_ls_0 c
  obtain ⟨k, hk⟩ : ∃ k, (t_wl T l (t_dp T))[0]? = some k := ⟨_, List.getElem?_eq_getElem (List.length_pos_iff.mpr hne)⟩
  obtain ⟨a1, a2, a3, a4⟩ := t_wl_at hk
  rw [List.take_zero] at a3
  refine ⟨k, a1, a2, Or.inl ?_⟩
  rw [t_ls_nx a2]
  unfold t_nx
  rw [if_pos ((t_ls_wl h0 k).mpr a3)]
theorem c_writePath (hm : m < 24) (lm : c_lm cn cs N U M) (hpl : c_pl g) (hb : c_bS S mk tl N U M) (hO : c_O H) (hW : c_W H mk nn K tl cn cs) (hMS : c_MS H mk) (t48 : sw_ty H 1422 = 48) (hPa : c_Pa H) (h91 : sw_iv H 91 0 = 0) (hg : c_gs H g) (ht : c_tr H mk (g + 1) T) (hlf : sw_iv H g 3 = (l : Nat)) (hl : l < 2 ^ t_dp T) (t44 : sw_ty H 44 = 24) (hadd : sw_iv H 44 10 = msk) (hmk : 0 ≤ msk ∧ msk < 65536) (hrr : c_rr H mk 1420 1421 l0) (hln : sw_ln H 1421 = 1400) (hlen : l0.length ≤ 580) (hr5 : ∀ k, k < t_dp T → ∀ y ∈ w_rq T msk l k, y < t_w (w_pT2 T l m nn) ∧ (t_ky (w_pT2 T l m nn) y).head? = some 5) (hS : ∀ v, w_ptS T l m nn msk v → S v)
    (q : ∀ z J mm, w_mo S mk mm → c_bS S mm tl N U M → c_W J mm (w_pnn T l nn) K tl cn cs → c_tr J mm (g + 1) (w_pT2 T l m nn) → w_at mm z (w_pcs T l nn) → c_rr J mm 1420 1421 (l0 ++ w_ptx T l m nn msk) → c_pk2 J T msk l (t_wl T l (t_dp T)) → c_pw J mm T l (w_nm (nn + 1)) (t_wl T l (t_dp T)) → c_Pa J → w_at mm (sw_iv J 85 6) (w_nm nn) → c_ch (c_Aw g) H J → P z J) : wm_183 2 (120 + 54 * m) g H P := by
  obtain ⟨b1, b2⟩ := c_pl_b hpl
  have b3 := c_pl_m hpl hm
  obtain ⟨o0, o1, o2, o3, o4, o5, o6, o7, o8, o9, o10, o11, o12, o13⟩ := id hO
  have fl := hW.1.2.2.2.1
  have ad := hW.1.2.2.2.2
  have h4 := ht.2.1.1
  have d16 := t_d_16 h4
  have n0e : w_nm (nn + 1) ≠ [] := List.cons_ne_nil _ _
  have rg0 : sw_rv H g 0 = g + 1 := hg.2.2.2.1
  have tg1 : sw_ty H (g + 1) = 104 := ht.1.2.2.1
  unfold wm_183
  rw [o1]
  refine ⟨(c_nothing hW).1, ?_⟩
  intro q207 e207
  rw [e207]
  refine c_nameS lm hb hW (hS _ (Or.inl rfl)) (fun A1 z1 ma a1 a2 WA aA cA => ?_)
  intro _ _
  have zA := c_fz_Aw hm hpl hW (c_Aw_of (g := g) cA (by simp))
  rw [zA.1 9, o9]
  refine ⟨by rw [zA.2.2.2.2 85 (by decide) (by decide)]; exact hPa.1, ?_⟩
  intro q218 e218 B1 eB
  rw [e218] at eB
  have fB : c_fr [85] A1 B1 := by rw [eB]; exact c_fr_si _ _ _ _
  have v6 : sw_iv B1 85 6 = z1 := by rw [eB, c_si_eq]
  clear eB
  have fx5 : ∀ a ∈ [85], c_fix a := fun a ha => by simp at ha; unfold c_fix; omega
  have WB := c_W_fr WA fB (fun a ha => by simp at ha; unfold c_fix; omega)
  have cAB := c_V_ch WA.1 fB fx5
  have cHB : c_ch [85] H B1 := c_ch_sub (c_ch_trans cA cAB) (by simp)
  have zB := c_fz_Aw hm hpl hW (c_Aw_of (g := g) cHB (fun a ha => by simp at ha; omega))
  have PaB := c_Pa_fr (c_Pa_ch hPa fl ad cA (by simp)) fB
  have trB := c_tr_ch ht fl ad cHB (fun a ha => by simp at ha; omega) a1.1
  have i44 : ∀ f, sw_iv B1 44 f = sw_iv H 44 f := (c_fx_iv fl ad cHB (q := 44) (by unfold c_fix; omega) (by simp)).1
  have i91 : ∀ f, sw_iv B1 91 f = sw_iv H 91 f := (c_fx_iv fl ad cHB (q := 91) (by unfold c_fix; omega) (by simp)).1
  rw [zB.1 9, o9]
  refine ⟨PaB.1, ?_⟩
  intro q224 e224
  rw [zB.2.1 0, rg0]
  refine ⟨trB.1.2.2.1, ?_⟩
  intro q227 e227 v230 e230 _
  rw [zB.2.2.1 3, hlf] at e230
  subst e230
  rw [zB.1 8, o8]
  refine ⟨by rw [zB.2.2.2.2 44 (by decide) (by decide)]; exact t44, ?_⟩
  intro q233 e233 v236 e236 _
  rw [e233, i44 10, hadd] at e236
  subst e236
  rw [e224, e227]
  refine c_plan WB.1 trB (by omega) PaB (by unfold sw_c; omega) hl (by rw [i91]; exact h91) (fun C1 pkC fC e6 => ?_)
  intro _
  have fxp : ∀ a ∈ [85, 86, 87, 91, 92, 93], c_fix a := fun a ha => by simp at ha; unfold c_fix; omega
  have WC := c_W_fr WB fC (fun a ha => ⟨fxp a ha, by simp at ha; omega⟩)
  have cBC := c_V_ch WB.1 fC fxp
  have cHC : c_ch [85, 86, 87, 91, 92, 93] H C1 := c_ch_sub (c_ch_trans cHB cBC) (by simp)
  have awC : c_ch (c_Aw g) H C1 := c_Aw_of cHC (fun a ha => by simp at ha; omega)
  have v6C : sw_iv C1 85 6 = z1 := by rw [e6 6 (by decide)]; exact v6
  have nC : ∀ a ∈ [85, 86, 87, 91, 92, 93], 85 ≤ a ∧ a ≤ 93 := fun a ha => by simp at ha; omega
  have hB : c_wb C1 ma (nn + 1) K tl cn cs g T v236 l l0 := ⟨c_O_ch hO cHC ad fl (by simp), WC, c_MS_ch hMS fl ad cHC (by simp) (fun j _ cc => by have := nC _ cc; omega) a1.1, c_Pa_fr PaB fC, pkC, c_tr_ch ht fl ad cHC (fun a ha => by have := nC a ha; omega) a1.1, c_gs_ch hg fl ad cHC (fun a ha _ => by have := nC a ha; omega) (fun cc => by have := nC _ cc; omega), by rw [(c_fx_iv fl ad cHC (q := g) (by unfold c_fix; omega) (fun cc => by have := nC _ cc; omega)).1]; exact hlf, c_rr_ch hW.1 hrr cHC WC.1 a1.1 (by simp) (by simp), by rw [(c_fx_ty fl cHC (q := 1421) (by unfold c_fix; omega)).2]; exact hln, by rw [(c_fx_ty fl cHC (q := 1422) (by unfold c_fix; omega)).1]; exact t48⟩
  have hSf : t_wl T l (t_dp T) ≠ [] → S (w_dr (t_ls T l (w_nm (nn + 1)) (t_dp T)) 4) := fun hne => by
    have ep : w_pcs T l nn = w_dr (t_ls T l (w_nm (nn + 1)) (t_dp T)) 4 := by unfold w_pcs; rw [if_neg (fun cc => hne ((t_ls_wl n0e _).mp cc))]
    rw [← ep]
    exact hS _ (Or.inr (Or.inr (Or.inr (Or.inl rfl))))
  have hSm : ∀ v, t_mp T l (w_nm (nn + 1)) (t_dp T) v → S v := fun v hv => hS v (Or.inr (Or.inr (Or.inl hv)))
  have zC := c_fz_Aw hm hpl hW awC
  -- the loop, from any heap behind the plan
  have go : ∀ {D : sw_H} {md : List Wt} {x4 : Int} {nm : Nat}, nm = w_pnn T l nn → w_mo S ma md → c_bS S md tl N U M → c_wb D md nm K tl cn cs g T v236 l l0 → (t_wl T l (t_dp T) ≠ [] → w_at md x4 (w_nm (nn + 1))) → c_ch [] C1 D → wb_183_27 P 2 (120 + 54 * m) g z1 x4 D := fun {D md x4 nm} enm d1 d2 BD hx cD => by
    subst enm
    unfold wb_183_27
    refine ⟨(t_wl T l (t_dp T)).length + 1, c_wp_30 (H := D) (mk := md) (n0 := w_nm (nn + 1)) lm hpl h4 n0e hSm hSf (fun x5 J mj j1 j2 BJ pwJ hx5 cJ => ?_) ((t_wl T l (t_dp T)).length + 1) 0 0 w_mo_refl d2 BD (fun j k hj _ => absurd hj (Nat.not_lt_zero _)) (fun hne => hx hne) (c_ch_refl _ _) (Nat.zero_le _) rfl (Nat.zero_le _) (by omega)⟩
    have leJ : w_le ma mj := w_le_trans d1.1 j1.1
    refine c_wp_x (nn := nn) hm lm hpl j2 BJ pwJ (w_le_at leJ aA) hx5 hl hr5 hS hlen (fun zf F mf f1 f2 WF trF aF rF pkF pwF PaF cF i85 => ?_)
    refine q zf F mf (w_mo_trans a1 (w_mo_trans d1 (w_mo_trans j1 f1))) f2 WF trF aF rF pkF pwF PaF ?_ (c_ch_t awC (c_ch_t (c_Aw_of cD (by simp)) (c_ch_t (c_Aw_of cJ (fun a ha => by simp at ha; omega)) cF)))
    have e85 : sw_iv F 85 6 = z1 := by
      rw [i85 6, (c_fx_iv BD.2.1.1.2.2.2.1 BD.2.1.1.2.2.2.2 cJ (q := 85) (by unfold c_fix; omega) (by simp)).1 6, (c_fx_iv WC.1.2.2.2.1 WC.1.2.2.2.2 cD (q := 85) (by unfold c_fix; omega) (by simp)).1 6]
      exact v6C
    rw [e85]
    exact w_le_at f1.1 (w_le_at leJ aA)
  rw [zC.1 9, o9]
  refine ⟨hB.2.2.2.1.1, ?_⟩
  intro q244 e244 v247 e247 _
  rw [e244, pkC.1] at e247
  subst e247
  refine ⟨fun c => ?_, fun c => ?_⟩
  · have e0 : t_wl T l (t_dp T) = [] := List.length_eq_zero_iff.mp (by omega)
    exact go (by unfold w_pnn; rw [if_pos ((t_ls_wl n0e _).mpr e0)]) w_mo_refl (c_bS_mo hb a1) hB (fun hne => absurd e0 hne) (c_ch_refl _ _)
  · have hne : t_wl T l (t_dp T) ≠ [] := fun cc => by rw [cc] at c; exact absurd c (by decide)
    rw [zC.1 0, o1]
    refine ⟨(c_nothing WC).1, ?_⟩
    intro q250 e250
    rw [e250]
    refine c_nameS lm (c_bS_mo hb a1) WC (hSm _ (t_mp_0 n0e hne)) (fun D z2 md d1 d2 WD aD cD => ?_)
    intro _ _
    exact go (by unfold w_pnn; rw [if_neg (fun cc => hne ((t_ls_wl n0e _).mp cc))]) d1 d2 (c_wb_ch hpl hB WD cD d1.1 (by simp)) (fun _ => aD) cD
end
