/-! ===== the class: commit ===== -/
noncomputable section
variable {H G Z X Y : sw_H} {mk mm tl tp lt l0 l1 : List Wt} {ms : List (List Wt)} {rd : Nat → Int} {nn nm r k o h l y g g1 g2 n m p : Nat} {K K' K2 Kr S : Wt → Prop} {cn cs cn' cs' msk N U M z wp x2 x : Int} {T T1 T2 T0 : w_T} {Q : sw_H → Prop} {P : Int → sw_H → Prop} {E : Nat → sw_H → Prop} {A : List Nat} {w s n0 cm jn sc : Wt} {G' : w_G} {L : List w_Ch} {f : p_L} {d : w_Ch} {La : Nat → List (Wt × Nat)} {C : List w_Ch} {hd : Nat → Wt} {Ul : List (Wt × Wt)}
theorem c_V_rm (lm : c_lm cn cs N U M) (hV : c_V H mk nn K tl cn cs) (bd : c_bl mk tl N U M) : sw_n H < sxlim.1 ∧ sw_s H + 6 ≤ sxlim.2 := by
  have := c_A_sm lm hV.2.2.1 hV.1.1 (c_bd_le (c_bl_bd hV.1 bd) (by decide) (by decide) (by decide))
  omega
theorem c_cm_32 (hm : m < 24) (lm : c_lm (cn + 4) (cs + 2400) N U M) (p1 : c_pl g1) (p2 : c_pl g2) (hne : g1 ≠ g2) (hi : g_iv m G') (hdn : L = [] ∨ h_done (gg_T G') L (gg_lf G')) (hok : ∀ c ∈ L, p_cok c.1) (h5 : h_p5 L) (h300 : ms.length < 300) (h299 : k_ad G' L ≠ [] → ms.length < 299) (hB : c_BS H mk nn K tl cn cs tp rd ms La) (hci : c_ci H mk K ms L) (hadds : sw_iv H 44 2 = (h_nad L : Nat)) (gp1 : c_gp H mk g1 G') (gs2 : c_gs H g2) (r4 : sw_rv H (120 + 54 * m) 4 = g1) (r5 : sw_rv H (120 + 54 * m) 5 = g2) (hma : c_ma H m) (hPa : c_Pa H) (h91 : sw_iv H 91 0 = 0) (t48 : sw_ty H 1422 = 48) (t44 : sw_ty H 44 = 24) (hOut : c_Out H) (hup : c_up H mk m Ul) (hH : ∀ c ∈ L, c.2.2 ≠ [] ∧ c.2.2 ∈ mk) (hz : w_at mk 1 w_z) (hUn : ∀ u ∈ Ul, u.2 ≠ w_nm nn) (hb : c_bS (k_S G' m nn (k_wp x2 L) L) mk tl N U M)
    (q : ∀ J mm cn' cs', w_mo (k_S G' m nn (k_wp x2 L) L) mk mm → c_BS J mm (k_nn G' nn (k_wp x2 L) L) (k_K K G' m nn (k_wp x2 L) L) tl cn' cs' tp rd (ms ++ k_ms2 G' m nn (k_wp x2 L) L) La → c_gp J mm g2 (k_G G' m nn (k_wp x2 L) L) → (∀ f, sw_iv J (120 + 54 * m) f = if f = 6 then (ms.length : Int) else sw_iv H (120 + 54 * m) f) → (∀ f, sw_rv J (120 + 54 * m) f = sw_rv H (120 + 54 * m) f) → (cn' = cn + 2 * (k_ms2 G' m nn (k_wp x2 L) L).length ∧ cs' = cs + (((k_ms2 G' m nn (k_wp x2 L) L).map (fun l => 2 + l.length)).sum : Nat)) → c_Out J → c_Pa J → sw_iv J 91 0 = 0 → c_Ch J → c_ch (c_Acm m g2) H J → P ms.length J) : wb_93_32 P E 2 x2 (120 + 54 * m) H := by
  obtain ⟨b1, b2⟩ := c_pl_b p1
  obtain ⟨b3, b4⟩ := c_pl_b p2
  have b5 := c_pl_m p2 hm
  have b6 := c_pl_d p1 p2 hne
  have b7 := c_pl_m p1 hm
  have b8 := c_pl_a p2 hm (k := 49) (by decide) (by decide)
  have lm0 : c_lm cn cs N U M := c_lm_le lm (by omega) (by omega)
  have W := hB.1
  have fl := W.1.2.2.2.1
  have ad := W.1.2.2.2.2
  have bd := c_bS_0 hb W.1.1
  have O := hB.2.1.1
  obtain ⟨ha, hr⟩ := k_dn hdn
  have tr1 := gp1.2.2.2.2.1
  have h4 := tr1.2.1.1
  have d16 := t_d_16 h4
  unfold wb_93_32
  rw [r4]
  refine ⟨gp1.1.2.2.1, ?_⟩
  intro q166 e166
  rw [r5]
  refine ⟨gs2.2.2.1, ?_⟩
  intro q172 e172
  rw [e166, e172]
  refine c_follow gs2 gp1 (by omega) (fun A1 trA e2A e3A fA => ?_)
  intro _
  have fxA : ∀ a ∈ c_rgg g2, c_fix a := fun a ha => by rw [c_rgg_m] at ha; unfold c_fix; omega
  have WA := c_W_fr W fA (fun a ha => ⟨fxA a ha, by rw [c_rgg_m] at ha; omega⟩)
  have cA := c_V_ch W.1 fA fxA
  have BA := c_BS_cg p2 hB WA cA (w_le_refl _) (fun a ha => by rw [c_rgg_m] at ha; right; omega)
  have ciA := c_ci_fr hci fA (fun a ha => by rw [c_rgg_m] at ha; omega)
  have nA : ∀ a, a < g2 ∨ g2 + 21 < a → sw_iv A1 a = sw_iv H a := fun a ha => fA.2.2.2.2.2 a (fun cc => by rw [c_rgg_m] at cc; omega)
  rw [fA.2.2.2.2.1 2 8, O.2.2.2.2.2.2.2.2.1]
  refine ⟨by rw [fA.2.2.1]; exact t44, ?_⟩
  intro q183 e183
  rw [fA.2.2.2.2.1 g2 0, gs2.2.2.2.1]
  refine ⟨trA.1.2.2.1, ?_⟩
  intro q186 e186
  rw [e183, e186]
  refine c_applyTo (T := gg_T G') (by omega) WA.1 ciA trA (fun k c hc h1 => ?_) hr (fun B1 VB ciB trB adlB n44 fB => ?_)
  · obtain ⟨_, ⟨a2, a3, _⟩, _⟩ := (ha k c hc).2 h1
    exact ⟨a2, by omega⟩
  · have trB : c_tr B1 mk (g2 + 1) (k_T1 G' L) := trB
    intro _
    have fxB : ∀ a ∈ c_Ap (g2 + 1), c_fix a := fun a ha => by rw [c_Ap_m] at ha; unfold c_fix; omega
    have WB := c_W_fr WA fB (fun a ha => ⟨fxB a ha, by rw [c_Ap_m] at ha; omega⟩)
    have cB := c_V_ch WA.1 fB fxB
    have BB := c_BS_cg p2 BA WB cB (w_le_refl _) (fun a ha => by rw [c_Ap_m] at ha; unfold c_hl; omega)
    have nB : ∀ a, a ≠ 44 → a ≠ 50 → a < g2 + 1 ∨ g2 + 21 < a → sw_iv B1 a = sw_iv A1 a := fun a h1 h2 h3 => fB.2.2.2.2.2 a (fun cc => by rw [c_Ap_m] at cc; omega)
    have cHB := c_ch_trans cA cB
    have mAB : ∀ a ∈ c_rgg g2 ++ c_Ap (g2 + 1), a = 44 ∨ a = 50 ∨ (g2 ≤ a ∧ a ≤ g2 + 21) := fun a ha => by
      rw [List.mem_append, c_rgg_m, c_Ap_m] at ha; omega
    have gpB := c_gp_ch gp1 fl ad cHB (fun a ha => by have := mAB a ha; omega) (w_le_refl _)
    have outB := c_Out_ch hOut fl ad cHB (fun cc => by have := mAB _ cc; omega) (fun cc => by have := mAB _ cc; omega)
    have t44B : sw_ty B1 44 = 24 := by rw [fB.2.2.1, fA.2.2.1]; exact t44
    have t20B : sw_ty B1 1420 = 80 := outB.2.choose_spec.1
    have hqB : c_hq B1 mk nn K tl cn cs tp rd ms K L := ⟨WB, BB.2.1, ciB, t44B, outB.1, t20B⟩
    refine c_writeCommitHead (G' := G') lm0 bd ⟨by omega, by omega⟩ gpB.2.2.1 gpB.2.2.2.1 hH (c_X_vl W.1.1 hB.2.1) hqB outB (fun C1 hqC rC cC => ?_)
    intro _
    have WC := hqC.1
    have flB := WB.1.2.2.2.1
    have adB := WB.1.2.2.2.2
    have BC := c_BS_ch BB WC cC (w_le_refl _) (fun a ha => by simp at ha; unfold c_hl; omega)
    have cHC := c_ch_trans cHB cC
    have mC : ∀ a ∈ c_rgg g2 ++ c_Ap (g2 + 1) ++ [1420, 1421], a = 44 ∨ a = 50 ∨ (g2 ≤ a ∧ a ≤ g2 + 21) ∨ a = 1420 ∨ a = 1421 := fun a ha => by
      rw [List.mem_append] at ha
      rcases ha with ha | ha
      · have := mAB a ha; omega
      · simp at ha; omega
    have ivC : ∀ a, c_fix a → a ≠ 1420 → a ≠ 1421 → ∀ f, sw_iv C1 a f = sw_iv B1 a f := fun a hf h1 h2 => (c_fx_iv flB adB cC (q := a) hf (by simp; exact ⟨h1, h2⟩)).1
    have imC := c_fx_iv fl ad cHC (q := 120 + 54 * m) (by unfold c_fix; omega) (fun cc => by have := mC _ cc; omega)
    have i49C := c_fx_iv fl ad cHC (q := 120 + 54 * m + 49) (by unfold c_fix; omega) (fun cc => by have := mC _ cc; omega)
    have tyC : ∀ a, c_fix a → sw_ty C1 a = sw_ty H a ∧ sw_ln C1 a = sw_ln H a := fun a hf => c_fx_ty fl cHC hf
    have gsB : c_gs B1 g2 := c_gs_fr (c_gs_fr gs2 fA) fB
    have gsC : c_gs C1 g2 := c_gs_ch gsB flB adB cC (fun a ha _ => by simp at ha; omega) (fun cc => by simp at cc; omega)
    have gpC := c_gp_ch gpB flB adB cC (fun a ha => by simp at ha; omega) (w_le_refl _)
    have d5 : c_d5 C1 mk nn K tl cn cs tp rd ms La m g1 g2 G' L Ul := ⟨BC, hqC, ⟨by rw [ivC 44 (by unfold c_fix; omega) (by decide) (by decide)]; exact adlB.1, fun j c hj hc h1 => by rw [ivC 50 (by unfold c_fix; omega) (by decide) (by decide)]; exact adlB.2 j c hj hc h1⟩, gpC, ⟨gpC.1, gsC, by rw [imC.2]; exact r4, by omega, by rw [imC.2]; exact hma.1, by rw [(tyC _ (by unfold c_fix; omega)).1]; exact hma.2.2.2.2.2.1.1, by rw [(tyC _ (by unfold c_fix; omega)).2]; exact hma.2.2.2.2.2.1.2, by omega, by omega⟩, c_tr_ch trB flB adB cC (fun a ha => by simp at ha; omega) (w_le_refl _), ⟨by rw [ivC g2 (by unfold c_fix; omega) (by omega) (by omega), nB g2 (by omega) (by omega) (by omega)]; exact e2A, by rw [ivC g2 (by unfold c_fix; omega) (by omega) (by omega), nB g2 (by omega) (by omega) (by omega)]; exact e3A⟩, ⟨c_Pa_ch hPa fl ad cHC (fun cc => by have := mC _ cc; omega), by rw [(c_fx_iv fl ad cHC (q := 91) (by unfold c_fix; omega) (fun cc => by have := mC _ cc; omega)).1 0]; exact h91, by rw [(tyC 1422 (by unfold c_fix; omega)).1]; exact t48⟩, by rw [ivC 44 (by unfold c_fix; omega) (by decide) (by decide), n44 2 (by decide), nA 44 (by omega)]; exact hadds, ⟨by rw [imC.1]; exact hup.1, hup.2.1, fun i hh v hv => by rw [i49C.1]; exact hup.2.2 i hh v hv⟩⟩
    have go : ∀ wp, wp = k_wp x2 L → wb_93_58 P E 2 (120 + 54 * m) g1 g2 wp C1 := fun wp ew => by
      subst ew
      refine c_cm_58 hm lm p1 p2 hne hi hdn hok h5 k_wp_01 h300 h299 d5 rC hz hUn hb (fun J mm cn' cs' j1 BJ gJ iJ rJ ccs oJ PaJ n91 ChJ cJ => ?_) E
      refine q J mm cn' cs' j1 BJ gJ (fun f => by rw [iJ f, imC.1]) (fun f => by rw [rJ, imC.2]) ccs oJ PaJ n91 ChJ (c_ch_t (c_ch_sub cHC (fun a ha => ?_)) cJ)
      rw [c_Acm_m]
      have := mC a ha
      omega
    refine ⟨fun c => go 1 (k_wp_1 (Or.inl c)).symm, fun c => ?_⟩
    have OC := hqC.2.1.1
    have i44C := d5.2.2.2.2.2.2.2.2.1
    have i441 := hqC.2.2.1.2.1
    obtain ⟨nl1, nl2⟩ := h_nad_lt (L := L)
    rw [OC.2.2.2.2.2.2.2.2.1]
    refine ⟨hqC.2.2.2.1, ?_⟩
    intro q199 e199
    rw [e199]
    have yes : h_mp L → ∀ z205 : Int, z205 = 1 → sw_c z205 → sw_ext C1 C1 → (z205 = 0 → wb_93_58 P E 2 (120 + 54 * m) g1 g2 0 C1) ∧ (z205 ≠ 0 → wb_93_58 P E 2 (120 + 54 * m) g1 g2 1 C1) := fun hmp z205 e _ _ => ⟨fun cc => absurd cc (by omega), fun _ => go 1 (k_wp_1 (Or.inr hmp)).symm⟩
    unfold wm_182
    intro v1 e1 _
    rw [i441] at e1
    refine ⟨fun c0 => yes (Or.inl (List.length_eq_zero_iff.mp (by omega))) 1 rfl, fun c0 => ?_⟩
    intro v4 e4 _ v7 e7 _
    rw [i441] at e4
    rw [i44C] at e7
    refine ⟨fun c3 => ?_, fun c3 => yes (Or.inr (nl2.mp (by omega))) 1 rfl⟩
    intro _ _
    refine ⟨fun _ => go 0 (k_wp_0 (fun cc => ?_)).symm, fun cc => absurd rfl cc⟩
    rcases cc with cc | cc
    · exact cc c
    · rcases cc with cc | cc
      · rw [cc] at e1; exact c0 (by rw [e1]; rfl)
      · have := nl2.mpr cc; omega
/-- the class's members, with their groups -/
def c_mg (H : sw_H) (mk : List Wt) (Ga : Nat → w_G) (Ua : Nat → List (Wt × Wt)) (m : Nat) : Prop := (sw_iv H (120 + 54 * m) 3 = 0 ∨ (sw_iv H (120 + 54 * m) 3 = 1 ∧ c_gp H mk (sw_rv H (120 + 54 * m) 4) (Ga m))) ∧ c_pl (sw_rv H (120 + 54 * m) 4) ∧ c_pl (sw_rv H (120 + 54 * m) 5) ∧ sw_rv H (120 + 54 * m) 4 ≠ sw_rv H (120 + 54 * m) 5 ∧ c_gs H (sw_rv H (120 + 54 * m) 5) ∧ c_ma H m ∧ c_up H mk m (Ua m)
theorem c_commit {Ga : Nat → w_G} {Ua : Nat → List (Wt × Wt)} {Ca : Nat → List w_Ch} (lm : c_lm (cn + 4) (cs + 2400) N U M) (hB : c_BS H mk nn K tl cn cs tp rd ms La) (hmg : ∀ m, m < 24 → c_mg H mk Ga Ua m) (hCh : c_Ch H) (hPa : c_Pa H) (h91 : sw_iv H 91 0 = 0) (t48 : sw_ty H 1422 = 48) (t44 : sw_ty H 44 = 24) (hOut : c_Out H) (bm : c_bl mk tl N U M) (hx5 : w_x5 ms) (hz : w_at mk 1 w_z)
    (hab : ∀ m : Nat, m < 24 → sw_iv H (120 + 54 * m) 3 = 1 → g_iv m (Ga m) ∧ gg_lv (Ga m) ∧ w_kc K ms (La m) (Ca m) ∧ w_kh ms (La m) ∧ ∀ u ∈ Ua m, u.2 ≠ w_nm nn)
    (hb : ∀ m : Nat, x = m → m < 24 → sw_iv H (120 + 54 * m) 3 = 1 → ms.length < 300 → c_bS (k_S (Ga m) m nn (k_wp x2 (k_L (Ga m) (Ca m))) (k_L (Ga m) (Ca m))) mk tl N U M)
    (q1 : (x < 0 ∨ 24 ≤ x) → E (sw_n H + 2) (sw_nw H 112 0 6))
    (q2 : ∀ (m : Nat), x = m → m < 24 → (ms.length = 300 ∨ sw_iv H (120 + 54 * m) 3 = 0) → E (sw_n H + 2) (sw_nw H 120 0 6))
    (q3 : ∀ (m : Nat) X, x = m → m < 24 → sw_iv H (120 + 54 * m) 3 = 1 → ms.length = 299 → k_ad (Ga m) (k_L (Ga m) (Ca m)) ≠ [] → c_BS X mk nn K tl cn cs tp rd ms La → c_Ch X → c_ch c_Ag H X → E (sw_n X + 2) (sw_nw X 120 0 6))
    (q : ∀ (m : Nat) J mm cn' cs', x = m → m < 24 → sw_iv H (120 + 54 * m) 3 = 1 → ms.length < 300 → (k_ad (Ga m) (k_L (Ga m) (Ca m)) ≠ [] → ms.length < 299) → w_mo (k_S (Ga m) m nn (k_wp x2 (k_L (Ga m) (Ca m))) (k_L (Ga m) (Ca m))) mk mm → c_BS J mm (k_nn (Ga m) nn (k_wp x2 (k_L (Ga m) (Ca m))) (k_L (Ga m) (Ca m))) (k_K K (Ga m) m nn (k_wp x2 (k_L (Ga m) (Ca m))) (k_L (Ga m) (Ca m))) tl cn' cs' tp rd (ms ++ k_ms2 (Ga m) m nn (k_wp x2 (k_L (Ga m) (Ca m))) (k_L (Ga m) (Ca m))) La → c_gp J mm (sw_rv H (120 + 54 * m) 5) (k_G (Ga m) m nn (k_wp x2 (k_L (Ga m) (Ca m))) (k_L (Ga m) (Ca m))) → (∀ f, sw_iv J (120 + 54 * m) f = if f = 6 then (ms.length : Int) else sw_iv H (120 + 54 * m) f) → (∀ f, sw_rv J (120 + 54 * m) f = sw_rv H (120 + 54 * m) f) → (cn' = cn + 2 * (k_ms2 (Ga m) m nn (k_wp x2 (k_L (Ga m) (Ca m))) (k_L (Ga m) (Ca m))).length ∧ cs' = cs + (((k_ms2 (Ga m) m nn (k_wp x2 (k_L (Ga m) (Ca m))) (k_L (Ga m) (Ca m))).map (fun l => 2 + l.length)).sum : Nat)) → c_Out J → c_Pa J → sw_iv J 91 0 = 0 → c_Ch J → c_ch (c_Acm m (sw_rv H (120 + 54 * m) 5)) H J → P ms.length J) : wm_93 2 x x2 H P E := by
  have lm0 : c_lm cn cs N U M := c_lm_le lm (by omega) (by omega)
  have W := hB.1
  have fl := W.1.2.2.2.1
  have ad := W.1.2.2.2.2
  have rm := c_V_rm lm0 W.1 bm
  have hvl := c_X_vl W.1.1 hB.2.1
  have M4 : sw_iv H 2 4 = ms.length := hB.2.1.2.2.2.1
  have M300 := hB.2.1.2.2.2.2.1
  unfold wm_93
  refine c_memberAt hB.2.1.1 hB.2.2.1 rm (fun m em hm => ?_) (fun no => q1 (by omega))
  obtain ⟨mg1, mg2, mg3, mg4, mg5, mg6, mg7⟩ := hmg m hm
  refine ⟨(hB.2.2.1.2.2 m hm).2.1, fun _ _ => ?_⟩
  intro v219 e219 _
  rw [M4] at e219
  refine ⟨fun c => ?_, fun c => ?_⟩
  · unfold wb_93_11
    refine ⟨rm.1, rm.2, ?_⟩
    intro X eX
    rw [eX]
    exact q2 m em hm (Or.inl (by omega))
  · intro v222 e222 _
    refine ⟨fun c2 => ?_, fun c2 => ?_⟩
    · have in1 : sw_iv H (120 + 54 * m) 3 = 1 := by
        rcases mg1 with h | h
        · omega
        · exact h.1
      have gp : c_gp H mk (sw_rv H (120 + 54 * m) 4) (Ga m) := by
        rcases mg1 with h | h
        · omega
        · exact h.2
      obtain ⟨giv, glv, hkc, hkh, hUn⟩ := hab m hm in1
      have hbm := hb m em hm in1 (by omega)
      refine c_gatherChanges (C := Ca m) hm lm0 bm hkc hkh hvl glv mg2 hB gp rfl t44 hCh (fun J BJ ciJ adJ cJ => ?_)
      intro _
      have OJ := BJ.2.1.1
      have t44J : sw_ty J 44 = 24 := by rw [(c_fx_ty fl cJ (q := 44) (by unfold c_fix; omega)).1]; exact t44
      have nAg : ∀ a ∈ c_Ag, a = 14 ∨ a = 15 ∨ (44 ≤ a ∧ a ≤ 49) ∨ (53 ≤ a ∧ a ≤ 84) ∨ a = 52 := fun a ha => c_Ag_m.mp ha
      obtain ⟨b1, b2⟩ := c_pl_b mg2
      obtain ⟨b3, b4⟩ := c_pl_b mg3
      have imJ := c_fx_iv fl ad cJ (q := 120 + 54 * m) (by unfold c_fix; omega) (fun cc => by have := nAg _ cc; omega)
      have i49J := c_fx_iv fl ad cJ (q := 120 + 54 * m + 49) (by unfold c_fix; omega) (fun cc => by have := nAg _ cc; omega)
      have subL : ∀ c ∈ k_L (Ga m) (Ca m), c ∈ Ca m := fun c hc => by
        rcases h_ga_sub (Ca m) [] c hc with h | h
        · cases h
        · exact h
      have hdn : k_L (Ga m) (Ca m) = [] ∨ h_done (gg_T (Ga m)) (k_L (Ga m) (Ca m)) (gg_lf (Ga m)) := h_ga_ok (Ca m) [] (Or.inl rfl)
      have hokC := w_kc_ok hvl hkc
      have hok : ∀ c ∈ k_L (Ga m) (Ca m), p_cok c.1 := fun c hc => hokC c (subL c hc)
      have h5 : h_p5 (k_L (Ga m) (Ca m)) := fun c hc => w_kc_5 hx5 hkc c (subL c hc)
      have hH : ∀ c ∈ k_L (Ga m) (Ca m), c.2.2 ≠ [] ∧ c.2.2 ∈ mk := fun c hc => by
        obtain ⟨i, k, hh, p, ep, sg, tg, hl, _, hp, _, e⟩ := w_kc_get hkc (subL c hc)
        have wat := ((hB.2.2.2.1 m hm).2.2.2 i k hh hl).2
        rw [e]
        refine ⟨c_at_ne W.1.1 wat, ?_⟩
        exact List.mem_of_getElem? wat.2
      have go : (k_ad (Ga m) (k_L (Ga m) (Ca m)) ≠ [] → ms.length < 299) → wb_93_32 P E 2 x2 (120 + 54 * m) J := fun h9 => by
        refine c_cm_32 hm lm mg2 mg3 mg4 giv hdn hok h5 (by omega) h9 BJ ciJ adJ (c_gp_ch gp fl ad cJ (fun a ha => by have := nAg a ha; omega) (w_le_refl _)) (c_gs_ch mg5 fl ad cJ (fun a ha _ => by have := nAg a ha; omega) (fun cc => by have := nAg _ cc; omega)) (by rw [imJ.2]) (by rw [imJ.2]) (c_ma_ch mg6 hm fl ad cJ (fun cc => by have := nAg _ cc; omega)) (c_Pa_ch hPa fl ad cJ (fun cc => by have := nAg _ cc; omega)) (by rw [(c_fx_iv fl ad cJ (q := 91) (by unfold c_fix; omega) (fun cc => by have := nAg _ cc; omega)).1 0]; exact h91) (by rw [(c_fx_ty fl cJ (q := 1422) (by unfold c_fix; omega)).1]; exact t48) t44J (c_Out_ch hOut fl ad cJ (fun cc => by have := nAg _ cc; omega) (fun cc => by have := nAg _ cc; omega)) (Ul := Ua m) ⟨by rw [imJ.1]; exact mg7.1, mg7.2.1, fun i hh v hv => by rw [i49J.1]; exact mg7.2.2 i hh v hv⟩ hH hz hUn hbm (fun Y mm cn' cs' j1 BY gY iY rY ccs oY PaY n91 ChY cY => ?_)
        refine q m Y mm cn' cs' em hm in1 (by omega) h9 j1 BY gY (fun f => by rw [iY f, imJ.1]) (fun f => by rw [rY, imJ.2]) ccs oY PaY n91 ChY (c_ch_t (c_ch_sub cJ (fun a ha => ?_)) cY)
        rw [c_Acm_m]
        have := nAg a ha
        omega
      have a84 : sw_iv J 44 2 = ((k_ad (Ga m) (k_L (Ga m) (Ca m))).length : Nat) := by rw [k_ad_nad]; exact adJ
      have j4 : sw_iv J 2 4 = ms.length := BJ.2.1.2.2.2.1
      rw [OJ.2.2.2.2.2.2.2.2.1]
      refine ⟨t44J, ?_⟩
      intro q230 e230 v233 e233 _
      rw [e230, a84] at e233
      subst e233
      refine ⟨fun c3 => go (fun cc => absurd (List.length_eq_zero_iff.mp (by omega)) cc), fun c3 => ?_⟩
      intro v236 e236 _
      rw [j4] at e236
      refine ⟨fun c4 => go (fun _ => by omega), fun c4 => ?_⟩
      have rmJ := c_V_rm lm0 BJ.1.1 bm
      refine ⟨rmJ.1, rmJ.2, ?_⟩
      intro X eX
      rw [eX]
      exact q3 m J em hm in1 (by omega) (fun cc => by rw [cc] at c3; exact absurd c3 (by decide)) BJ ciJ.1 cJ
    · unfold wb_93_11
      refine ⟨rm.1, rm.2, ?_⟩
      intro X eX
      rw [eX]
      exact q2 m em hm (Or.inr (by omega))
end
