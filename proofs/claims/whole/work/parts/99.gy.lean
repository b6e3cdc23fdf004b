/-! ===== the class: writeInfo, indexAbove, writeWelcomeHead ===== -/
noncomputable section
section
variable {T T0 : w_T} {l p k m j n : Nat} {L : List w_Ch} {d : w_Ch} {wp : Int} {n0 jn : Wt} {l0 l1 : List Wt}
theorem w_sli_all : w_sli (l0 ++ l1) l0.length (l0 ++ l1).length = l1 := by
  unfold w_sli
  rw [List.drop_left, List.length_append, Nat.add_sub_cancel_left, List.take_length]
theorem t_mf_at : ∀ (m j : Nat), j ≤ k → k < j + m → t_cb T l k ≠ 0 ∧ t_ab p (k + 1) = t_ab l (k + 1) → (∀ i, j ≤ i → i < k → ¬ (t_cb T l i ≠ 0 ∧ t_ab p (i + 1) = t_ab l (i + 1))) → t_mf T l p j m = k
  | 0, j, h1, h2, _, _ => by omega
  | m + 1, j, h1, h2, hc, hn => by
    unfold t_mf
    by_cases e : j = k
    · rw [e, if_pos hc]
    · rw [if_neg (hn j (Nat.le_refl _) (by omega))]
      exact t_mf_at m (j + 1) (by omega) (by omega) hc (fun i hi hk => hn i (by omega) hk)
theorem h_ads_mem (hd : L[k]? = some d) (h1 : d.1.1 = 1) : ∀ n, k < n → (t_fl (h_fd h_a1 T0 L k), k) ∈ h_ads T0 L n
  | 0, h => absurd h (Nat.not_lt_zero _)
  | n + 1, h => by
    by_cases e : k = n
    · subst e
      rw [h_ads_1 (by rw [h_kn_e hd]; exact h1)]
      exact List.mem_append.mpr (Or.inr (List.mem_singleton.mpr rfl))
    · have ih := h_ads_mem hd h1 n (by omega)
      by_cases c : h_kn L n = 1
      · rw [h_ads_1 c]; exact List.mem_append.mpr (Or.inl ih)
      · rw [h_ads_n c]; exact ih
theorem w_wl_app {a b : List (Nat × Nat)} : w_wl T l n0 wp jn L (a ++ b) = w_wl T l n0 wp jn L a ++ w_wl T l n0 wp jn L b := List.flatMap_append
theorem w_wl_1 (hd : L[k]? = some d) : w_wl T l n0 wp jn L [(p, k)] = w_w1 T l n0 wp jn p d := by
  show ((L[k]?).map (w_w1 T l n0 wp jn p)).getD [] ++ [] = _
  rw [hd, List.append_nil]
  rfl
theorem w_wl_ads : ∀ n, n ≤ L.length → (w_wl T l n0 wp jn L (h_ads T0 L n)).length = 2 * (h_ads T0 L n).length
  | 0, _ => rfl
  | n + 1, h => by
    have hn : n ≤ L.length := by omega
    have ih := w_wl_ads n hn
    by_cases c : h_kn L n = 1
    · obtain ⟨d, hd⟩ := h_get (L := L) (k := n) (by omega)
      rw [h_ads_1 c, w_wl_app, w_wl_1 hd, List.length_append, List.length_append, ih, List.length_singleton]
      have : (w_w1 T l n0 wp jn (t_fl (h_fd h_a1 T0 L n)) d).length = 2 := rfl
      omega
    · rw [h_ads_n c]; exact ih
end
variable {H G Z X Y : sw_H} {mk mm tl tp l0 l1 : List Wt} {ms : List (List Wt)} {rd : Nat → Int} {nn nm r k o h l x y g g1 g2 n m p : Nat} {K K' S : Wt → Prop} {cn cs msk N U M z wp : Int} {T T2 T0 : w_T} {Q : sw_H → Prop} {P : Int → sw_H → Prop} {A : List Nat} {w s n0 cm jn : Wt} {G' : w_G} {L : List w_Ch} {f : p_L} {d : w_Ch} {hs : List Nat}
theorem c_writeInfo {x3 : Int} (hm : m < 24) (lm : c_lm cn cs N U M) (hb : c_bS S mk tl N U M) (hW : c_W H mk nn K tl cn cs) (hO : c_O H) (hMS : c_MS H mk) (hg : c_gp H mk g G') (hpl : c_pl g) (hz : w_at mk x3 cm) (hrr : c_rr H mk 1420 1421 l0) (ln : sw_ln H 1421 = 1400) (hl0 : l0.length ≤ 300) (hS : S (w_t 7 (w_nm m) [] [] (w_inf G' cm)))
    (q : ∀ J mm, w_mo S mk mm → c_bS S mm tl N U M → c_W J mm nn K tl cn cs → c_rr J mm 1420 1421 (w_weM m G' cm l0) → c_ch [14, 15, 1420, 1421] H J → Q J) : wm_189 2 (120 + 54 * m) g x3 H Q := by
  obtain ⟨b1, b2⟩ := c_pl_b hpl
  obtain ⟨o0, o1, o2, o3, o4, o5, o6, o7, o8, o9, o10, o11, o12, o13⟩ := hO
  obtain ⟨ms1, ms2, ms3, ms4, ms5⟩ := hMS.2.2 m hm
  obtain ⟨gs, gok, ge, gl, gtr, gth, gcf, gin, ges, ghd, ghz⟩ := id hg
  have t20 : sw_ty H 1420 = 80 := hrr.1.choose_spec.1.1
  have ml := c_W_len lm (c_bS_0 hb hW.1.1)
  have fxo : ∀ a ∈ [1420, 1421], c_fix a := fun a ha => by simp at ha; unfold c_fix; omega
  have fxo2 : ∀ a ∈ [1420, 1421], c_fix a ∧ (15 < a ∨ a = 2) := fun a ha => by simp at ha; unfold c_fix; omega
  have l4 : (w_b32 (gg_ep G')).length = 4 := rfl
  have l2 : (w_b16 (gg_lf G')).length = 2 := rfl
  have ng : g ∉ [1420, 1421] := by simp; omega
  have nm' : 120 + 54 * m ∉ [1420, 1421] := by simp; omega
  unfold wm_189
  rw [o11]
  refine ⟨t20, ?_⟩
  intro q1 e1 v4 e4 _
  rw [e1, (c_rr_len hrr).1] at e4
  refine ⟨t20, ?_⟩
  intro q10 e10 v13 e13 _
  rw [e10]
  rw [ge] at e13
  subst e13
  refine c_s_b32 hrr (by rw [ln]; omega) (fun A1 rA fA => ?_)
  intro _
  rw [fA.2.2.2.2.1 2 11, o11]
  refine ⟨by rw [fA.2.2.1]; exact t20, ?_⟩
  intro q21 e21 v24 e24 _
  rw [fA.2.2.2.2.2 g ng] at e24
  subst e24
  rw [e21]
  refine c_s_term rA (by rw [fA.2.2.2.1, ln, List.length_append, l4]; omega) (by omega) gth (fun B1 rB fB => ?_)
  intro _
  have fB := c_fr_t fA fB
  rw [fB.2.2.2.2.1 2 11, o11]
  refine ⟨by rw [fB.2.2.1]; exact t20, ?_⟩
  intro q32 e32 v35 e35 _
  rw [fB.2.2.2.2.2 g ng] at e35
  subst e35
  rw [e32]
  have VB := c_V_fr hW.1 fB fxo
  refine c_s_perhaps VB.1 rB (by rw [fB.2.2.2.1, ln, List.length_append, List.length_append, l4, List.length_singleton]; omega) ml gcf (fun C1 rC fC => ?_)
  intro _
  have fC := c_fr_t fB fC
  rw [fC.2.2.2.2.1 2 11, o11]
  refine ⟨by rw [fC.2.2.1]; exact t20, ?_⟩
  intro q43 e43 v46 e46 _
  rw [fC.2.2.2.2.2 g ng, gl] at e46
  subst e46
  rw [e43]
  refine c_s_b16 rC (by rw [fC.2.2.2.1, ln, List.length_append, List.length_append, List.length_append, l4, List.length_singleton, List.length_singleton]; omega) (fun D1 rD fD => ?_)
  intro _
  have fD := c_fr_t fC fD
  have VD := c_V_fr hW.1 fD fxo
  have trD := c_tr_fr hW.1 gtr fD (fun a ha => ⟨fxo a ha, by simp at ha; omega⟩)
  rw [fD.2.2.2.2.1 g 0, gs.2.2.2.1]
  refine ⟨trD.1.2.2.1, ?_⟩
  intro q54 e54
  rw [fD.2.2.2.2.1 2 11, o11]
  refine ⟨by rw [fD.2.2.1]; exact t20, ?_⟩
  intro q57 e57
  rw [e54, e57]
  have nwl := w_nws_len (T := gg_T G') (t_w (gg_T G'))
  have w31 := t_w_4 gtr.2.1.1
  have l2' : ∀ z : Int, (w_b16 z).length = 2 := fun _ => rfl
  refine c_treeWriteTo ml (by omega) (by omega) VD trD (by rw [fD.2.2.2.1]; exact ln) (by rw [List.length_append, List.length_append, List.length_append, List.length_append, l4, l2, List.length_singleton, List.length_singleton]; omega) rD (fun E1 rE fE => ?_)
  intro _
  have fE := c_fr_t fD fE
  rw [fE.2.2.2.2.1 2 11, o11]
  refine ⟨by rw [fE.2.2.1]; exact t20, ?_⟩
  intro q65 e65
  rw [e65]
  have hlE : (l0 ++ w_b32 (gg_ep G') ++ [w_th (gg_T G') 0 (t_top (gg_T G'))] ++ [w_pb (gg_cf G')] ++ w_b16 (gg_lf G') ++ w_b16 ((w_nws (gg_T G') (t_w (gg_T G'))).length : Nat) ++ w_nws (gg_T G') (t_w (gg_T G'))).length ≤ 1020 := by
    rw [List.length_append, List.length_append, List.length_append, List.length_append, List.length_append, List.length_append, l4, l2, l2', List.length_singleton, List.length_singleton]
    omega
  refine c_s_term rE (by rw [fE.2.2.2.1, ln]; omega) (by omega) hz (fun F1 rF fF => ?_)
  intro _
  have fF := c_fr_t fE fF
  have WF := c_W_fr hW fF fxo2
  have einf : l0 ++ w_b32 (gg_ep G') ++ [w_th (gg_T G') 0 (t_top (gg_T G'))] ++ [w_pb (gg_cf G')] ++ w_b16 (gg_lf G') ++ w_b16 ((w_nws (gg_T G') (t_w (gg_T G'))).length : Nat) ++ w_nws (gg_T G') (t_w (gg_T G')) ++ [cm] = l0 ++ w_inf G' cm := by
    unfold w_inf
    simp only [List.append_assoc, List.cons_append, List.nil_append]
  have hlF : (l0 ++ w_inf G' cm).length ≤ 1021 := by rw [← einf, List.length_append, List.length_singleton]; omega
  rw [einf] at rF
  rw [fF.2.2.2.2.1 2 11, o11]
  refine ⟨by rw [fF.2.2.1]; exact t20, ?_⟩
  intro q73 e73
  rw [fF.2.2.2.2.1 2 1, o2]
  refine ⟨WF.2.1.1, ?_⟩
  intro q76 e76 v79 e79 _
  rw [fF.2.2.2.2.2 _ nm'] at e79
  subst e79
  refine ⟨by rw [fF.2.2.1]; exact t20, ?_⟩
  intro q82 e82
  refine ⟨by rw [fF.2.2.1]; exact t20, ?_⟩
  intro q85 e85 v88 e88 _
  rw [e85, (c_rr_len rF).1] at e88
  rw [e73, e76, e82, e4, e88]
  refine c_signPart (i := l0.length) (e := (l0 ++ w_inf G' cm).length) lm hb WF rF.1 (by decide) (by rw [List.length_append]; omega) (Nat.le_refl _) (by omega) ms4 (by rw [w_sli_all]; exact hS) (fun t X mm m1 m2 WX aX cX => ?_)
  rw [w_sli_all] at aX
  intro _ _
  have rX := c_rr_ch WF.1 rF cX WX.1 m1.1 (by decide) (by decide)
  have lnX : sw_ln X 1421 = 1400 := by rw [(c_fx_ty WF.1.2.2.2.1 cX (q := 1421) (by unfold c_fix; omega)).2, fF.2.2.2.1]; exact ln
  refine c_s_term rX (by rw [lnX]; omega) (Nat.le_trans (c_W_len lm (c_bS_0 m2 WX.1.1)) (by decide)) aX (fun Y rY fY => ?_)
  intro _
  exact q Y mm m1 m2 (c_W_fr WX fY fxo2) rY (c_ch_sub (c_ch_trans (c_V_ch hW.1 fF fxo) (c_ch_trans cX (c_V_ch WX.1 fY fxo))) (by simp))
theorem c_ia_2 (hPa : c_Pa H) (hp : c_pk2 H T msk l (t_wl T l (t_dp T))) (h4 : t_dp T ≤ 4) (hl : l < 2 ^ t_dp T) (hp16 : p < 16) (q1 : ∀ (i k : Nat), (t_wl T l (t_dp T))[i]? = some k → t_ab p (k + 1) = t_ab l (k + 1) → (∀ (j k' : Nat), j < i → (t_wl T l (t_dp T))[j]? = some k' → t_ab p (k' + 1) ≠ t_ab l (k' + 1)) → P i H) (q0 : (∀ (i k : Nat), (t_wl T l (t_dp T))[i]? = some k → t_ab p (k + 1) ≠ t_ab l (k + 1)) → P (-1) H) : ∀ (n i : Nat), (∀ (j k' : Nat), j < i → (t_wl T l (t_dp T))[j]? = some k' → t_ab p (k' + 1) ≠ t_ab l (k' + 1)) → i ≤ (t_wl T l (t_dp T)).length → (t_wl T l (t_dp T)).length - i < n → wl_292_2 P n 85 p i H
  | 0, _, _, _, h => by omega
  | n + 1, i, inv, hi, hn => by
    have d16 := t_d_16 h4
    have wll := t_wl_len (T := T) (l := l) (t_dp T)
    have w31 := t_w_4 h4
    unfold wl_292_2
    intro v1 e1 _
    rw [hp.1] at e1
    subst e1
    refine ⟨fun c => q0 (fun j k hk => inv j k (by have := (List.getElem?_eq_some_iff.mp hk).1; omega) hk), fun c => ?_⟩
    obtain ⟨k, hk⟩ : ∃ k, (t_wl T l (t_dp T))[i]? = some k := ⟨_, List.getElem?_eq_getElem (by omega)⟩
    obtain ⟨a1, a2, a3, a4⟩ := t_wl_at hk
    have xw : t_ab l (k + 1) < t_w T := t_ab_w h4 hl (by omega)
    rw [(hPa.2.1 1 (by decide) (by decide)).1]
    refine ⟨(hPa.2.1 1 (by decide) (by decide)).2.1, ?_⟩
    intro q4 e4
    rw [e4]
    refine ⟨by omega, by rw [(hPa.2.1 1 (by decide) (by decide)).2.2]; omega, ?_⟩
    intro v7 e7 _
    rw [Int.toNat_natCast, (hp.2.1 i k hk).1] at e7
    subst e7
    refine c_height (x := t_ab l (k + 1)) (by omega) ?_
    have eh : w_h (t_ab l (k + 1)) = k + 1 := (w_h_ab ⟨l, by omega⟩ ⟨k + 1, by omega⟩).1
    rw [eh]
    intro _ _
    refine c_above (f := p) (k := k + 1) hp16 (by omega) ?_
    intro _ _
    rw [(hPa.2.1 1 (by decide) (by decide)).1]
    refine ⟨(hPa.2.1 1 (by decide) (by decide)).2.1, ?_⟩
    intro q20 e20
    rw [e20]
    refine ⟨by omega, by rw [(hPa.2.1 1 (by decide) (by decide)).2.2]; omega, ?_⟩
    intro v23 e23 _
    rw [Int.toNat_natCast, (hp.2.1 i k hk).1] at e23
    subst e23
    have ea : ((p / 2 ^ (k + 1) * 2 ^ (k + 1 + 1) + 2 ^ (k + 1) - 1 : Nat) : Int) = ((t_ab p (k + 1) : Nat) : Int) := rfl
    rw [ea]
    refine ⟨fun c2 => ?_, fun c2 => q1 i k hk (by omega) inv⟩
    intro y26 e26
    rw [sw_s1 (by omega)] at e26
    subst e26
    refine c_ia_2 hPa hp h4 hl hp16 q1 q0 n (i + 1) (fun j k' hj hk' => ?_) (by omega) (by omega)
    by_cases cj : j = i
    · rw [cj, hk] at hk'
      injection hk' with hk'
      rw [← hk']
      intro cc
      exact c2 (by rw [cc])
    · exact inv j k' (by omega) hk'
theorem c_indexAbove (hPa : c_Pa H) (hp : c_pk2 H T msk l (t_wl T l (t_dp T))) (h4 : t_dp T ≤ 4) (hl : l < 2 ^ t_dp T) (hp16 : p < 16) (q1 : ∀ (i k : Nat), (t_wl T l (t_dp T))[i]? = some k → t_ab p (k + 1) = t_ab l (k + 1) → t_mf T l p 0 (t_dp T) = k → P i H) (q0 : (∀ (i k : Nat), (t_wl T l (t_dp T))[i]? = some k → t_ab p (k + 1) ≠ t_ab l (k + 1)) → P (-1) H) : wm_292 85 p H P := by
  unfold wm_292
  refine ⟨(t_wl T l (t_dp T)).length + 1, c_ia_2 hPa hp h4 hl hp16 (fun i k hk e inv => q1 i k hk e ?_) q0 ((t_wl T l (t_dp T)).length + 1) 0 (fun j k' hj => absurd hj (Nat.not_lt_zero _)) (Nat.zero_le _) (by omega)⟩
  obtain ⟨a1, a2, a3, a4⟩ := t_wl_at hk
  refine t_mf_at (t_dp T) 0 (Nat.zero_le _) (by omega) ⟨a2, e⟩ (fun i' _ hi' cc => ?_)
  have mem : i' ∈ t_wl T l k := (t_wl_m k).mpr ⟨hi', cc.1⟩
  rw [a3] at mem
  obtain ⟨j, hj⟩ := List.getElem?_of_mem mem
  have jl := (List.getElem?_eq_some_iff.mp hj).1
  rw [List.length_take] at jl
  rw [List.getElem?_take_of_lt (by omega)] at hj
  exact inv j i' (by omega) hj cc.2
end
