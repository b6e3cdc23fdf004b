/-! ===== the class: the end of a commit ===== -/
noncomputable section
variable {H G Z X Y : sw_H} {mk mm tl tp lt l0 l1 : List Wt} {ms : List (List Wt)} {rd : Nat → Int} {nn nm r k o h l x y g g1 g2 n m p : Nat} {K K' K2 Kr S : Wt → Prop} {cn cs cn' cs' msk N U M z wp : Int} {T T1 T2 T0 : w_T} {Q : sw_H → Prop} {P : Int → sw_H → Prop} {A : List Nat} {w s n0 cm jn sc : Wt} {G' : w_G} {L : List w_Ch} {f : p_L} {d : w_Ch} {La : Nat → List (Wt × Nat)} {C : List w_Ch} {hd : Nat → Wt}
theorem c_X_vl (hL : c_L H mk nn K tl) (hX : c_X H mk tp rd ms) : ∀ p ∈ ms, w_vl p := fun p hp => by
  obtain ⟨i, hi⟩ := List.getElem?_of_mem hp
  obtain ⟨_, _, _, ra, _, _, h6⟩ := hX.2.2.2.2.2 i p hi
  exact c_sg_vl hL h6
theorem c_wq_ch2 (h : c_wq H mk nn K tl cn cs tp rd ms K' L T0 T msk l n0 wp) (hW : c_W G mm nn K tl cn cs) (c : c_ch A H G) (hl : w_le mk mm) (hA : ∀ a ∈ A, (3 < a ∧ a < 44) ∨ (93 < a ∧ a < 1416) ∨ (1420 ≤ a ∧ a ≤ 1491)) : c_wq G mm nn K tl cn cs tp rd ms K' L T0 T msk l n0 wp := by
  obtain ⟨h1, h2, h3, h4⟩ := h
  have fl := h1.1.1.2.2.2.1
  have ad := h1.1.1.2.2.2.2
  refine ⟨c_hq_ch h1 hW c hl (fun a ha => by have := hA a ha; omega), fun j c' hj h1' => ?_, by rw [(c_fx_ty fl c (q := 85) (by unfold c_fix; omega)).1]; exact h3, fun hw => ?_⟩
  · rw [(c_fx_iv fl ad c (q := 50) (by unfold c_fix; omega) (fun cc => by have := hA _ cc; omega)).1 j]
    exact h2 j c' hj h1'
  · obtain ⟨p1, p2, p3⟩ := h4 hw
    exact ⟨c_Pa_ch p1 fl ad c (fun cc => by have := hA _ cc; omega), c_pk2_ch p2 fl ad c (fun a ha => by have := hA a ha; omega), c_pw_ch p3 fl ad c (fun a ha => by have := hA a ha; omega) hl⟩
theorem c_wq_send (h : c_wq H mk nn K tl cn cs tp rd ms K' L T0 T msk l n0 wp) (hB : c_BS G mk nn K2 tl cn' cs' tp rd (ms ++ [l0]) La) (c : c_ch [2, 1416] H G) (h16 : ∀ i, i ≠ ms.length → sw_rv G 1416 i = sw_rv H 1416 i) : c_wq G mk nn K2 tl cn' cs' tp rd (ms ++ [l0]) K' L T0 T msk l n0 wp := by
  obtain ⟨⟨W, Xx, ci, t44, ln, t20⟩, h2, h3, h4⟩ := h
  have fl := W.1.2.2.2.1
  have ad := W.1.2.2.2.2
  refine ⟨⟨hB.1, hB.2.1, c_ci_send ci fl ad c (fun a ha => by simp at ha; omega) (w_le_refl _) h16, by rw [(c_fx_ty fl c (q := 44) (by unfold c_fix; omega)).1]; exact t44, by rw [(c_fx_ty fl c (q := 1421) (by unfold c_fix; omega)).2]; exact ln, by rw [(c_fx_ty fl c (q := 1420) (by unfold c_fix; omega)).1]; exact t20⟩, fun j c' hj h1' => ?_, by rw [(c_fx_ty fl c (q := 85) (by unfold c_fix; omega)).1]; exact h3, fun hw => ?_⟩
  · rw [(c_fx_iv fl ad c (q := 50) (by unfold c_fix; omega) (by simp)).1 j]
    exact h2 j c' hj h1'
  · obtain ⟨p1, p2, p3⟩ := h4 hw
    exact ⟨c_Pa_ch p1 fl ad c (by simp), c_pk2_ch p2 fl ad c (fun a ha => by simp at ha; omega), c_pw_ch p3 fl ad c (fun a ha => by simp at ha; omega) (w_le_refl _)⟩
/-- what the end of a commit finds -/
def c_e7 (H : sw_H) (mk : List Wt) (nn : Nat) (K : Wt → Prop) (tl : List Wt) (cn cs : Int) (tp : List Wt) (rd : Nat → Int) (ms : List (List Wt)) (La : Nat → List (Wt × Nat)) (g1 g2 : Nat) (G' : w_G) (T2 : w_T) (hd : Nat → Wt) : Prop := c_BS H mk nn K tl cn cs tp rd ms La ∧ c_gp H mk g1 G' ∧ c_gs H g2 ∧ c_tr H mk (g2 + 1) T2 ∧ (∀ x, x < t_w T2 → w_az mk (sw_iv H (g2 + 22) x) (hd x)) ∧ (∀ x, t_w T2 ≤ x → x < 31 → sw_iv H (g2 + 22) x = 0) ∧ sw_iv H g2 2 = w_epn G' ∧ sw_iv H g2 3 = (gg_lf G' : Nat)
theorem c_e7_ch (p1 : c_pl g1) (p2 : c_pl g2) (h : c_e7 H mk nn K tl cn cs tp rd ms La g1 g2 G' T2 hd) (hW : c_W Z mm nn K tl cn cs) (c : c_ch A H Z) (hl : w_le mk mm) (hA : ∀ a ∈ A, a = 14 ∨ a = 15 ∨ a = 16 ∨ a = 1420 ∨ a = 1421) : c_e7 Z mm nn K tl cn cs tp rd ms La g1 g2 G' T2 hd := by
  obtain ⟨h1, h2, h3, h4, h5, h6, h7, h8⟩ := h
  obtain ⟨b1, b2⟩ := c_pl_b p1
  obtain ⟨b3, b4⟩ := c_pl_b p2
  have fl := h1.1.1.2.2.2.1
  have ad := h1.1.1.2.2.2.2
  have i22 := (c_fx_iv fl ad c (q := g2 + 22) (by unfold c_fix; omega) (fun cc => by have := hA _ cc; omega)).1
  have ig := (c_fx_iv fl ad c (q := g2) (by unfold c_fix; omega) (fun cc => by have := hA _ cc; omega)).1
  exact ⟨c_BS_ch h1 hW c hl (fun a ha => by have := hA a ha; unfold c_hl; omega), c_gp_ch h2 fl ad c (fun a ha => by have := hA a ha; omega) hl, c_gs_ch h3 fl ad c (fun a ha _ => by have := hA a ha; omega) (fun cc => by have := hA _ cc; omega), c_tr_ch h4 fl ad c (fun a ha => by have := hA a ha; omega) hl, fun x hx => by rw [i22]; exact w_le_az hl (h5 x hx), fun x hx hx2 => by rw [i22]; exact h6 x hx hx2, by rw [ig]; exact h7, by rw [ig]; exact h8⟩
/-- what it changes -/
def c_A87 (m g2 : Nat) : List Nat := [2, 1416, 14, 15, 16, 1420, 1421, 120 + 54 * m, g2]
theorem c_cm_87 {x7 : Int} (hm : m < 24) (lm : c_lm (cn + 4) (cs + 2400) N U M) (p1 : c_pl g1) (p2 : c_pl g2) (hne : g1 ≠ g2) (h7 : c_e7 H mk nn K tl cn cs tp rd ms La g1 g2 G' T2 hd) (hq : c_wq H mk nn K tl cn cs tp rd ms Kr L T0 T1 msk l n0 wp) (hrr : c_rr H mk 1420 1421 lt) (hlt : lt.length ≤ 1100) (hx : w_at mk x7 sc) (hok : gg_ok (w_Gn G' T2 m sc lt hd)) (hadds : sw_iv H 44 2 = ((h_ads T0 L L.length).length : Nat)) (hb : c_bS S mk tl N U M) (hS : ∀ v, w_cmS G' T2 m sc lt v → S v) (h300 : ms.length < 300) (h4 : t_dp T1 ≤ 4) (hl : l < 2 ^ t_dp T1) (hwp : wp = 0 ∨ wp = 1) (h16 : (h_ads T0 L L.length).length ≤ 16) (hadx : ∀ (p j : Nat), (p, j) ∈ h_ads T0 L L.length → p < 2 ^ t_dp T1 ∧ ∃ k, k < t_dp T1 ∧ t_cb T1 l k ≠ 0 ∧ t_ab p (k + 1) = t_ab l (k + 1)) (hSw : ∀ (p j : Nat) (c : w_Ch), (p, j) ∈ h_ads T0 L L.length → L[j]? = some c → ∀ v ∈ w_w1 T1 l n0 wp (w_jnr G' sc) p c, S v) (hSi : S (w_t 7 (w_nm m) [] [] (w_inf (w_Gn G' T2 m sc lt hd) (w_cm2 G' T2 m sc lt)))) (h299 : h_ads T0 L L.length ≠ [] → ms.length < 299)
    (q : ∀ J mm ms' Ke cn' cs', w_mo S mk mm → c_BS J mm nn Ke tl cn' cs' tp rd ms' La → c_gp J mm g2 (w_Gn G' T2 m sc lt hd) → (∀ f, sw_iv J (120 + 54 * m) f = if f = 6 then (ms.length : Int) else sw_iv H (120 + 54 * m) f) → (∀ f, sw_rv J (120 + 54 * m) f = sw_rv H (120 + 54 * m) f) → (h_ads T0 L L.length = [] → ms' = ms ++ [w_cM G' T2 m sc lt] ∧ Ke = w_lrs K (w_cM G' T2 m sc lt) ∧ cn' = cn + 2 ∧ cs' = cs + 2 + (w_cM G' T2 m sc lt).length) → (h_ads T0 L L.length ≠ [] → ms' = ms ++ [w_cM G' T2 m sc lt] ++ [w_weM m (w_Gn G' T2 m sc lt hd) (w_cm2 G' T2 m sc lt) (w_weH T1 l n0 wp (w_jnr G' sc) L (h_ads T0 L L.length))] ∧ Ke = w_lrs (w_lrs K (w_cM G' T2 m sc lt)) (w_weM m (w_Gn G' T2 m sc lt hd) (w_cm2 G' T2 m sc lt) (w_weH T1 l n0 wp (w_jnr G' sc) L (h_ads T0 L L.length))) ∧ cn' = cn + 2 + 2 ∧ cs' = cs + 2 + (w_cM G' T2 m sc lt).length + 2 + (w_weM m (w_Gn G' T2 m sc lt hd) (w_cm2 G' T2 m sc lt) (w_weH T1 l n0 wp (w_jnr G' sc) L (h_ads T0 L L.length))).length) → c_Out J → c_ch (c_A87 m g2) H J → P ms.length J) : ∀ E : Nat → sw_H → Prop, wb_93_87 P E 2 (120 + 54 * m) g1 g2 wp x7 H := by
  intro E
  obtain ⟨b1, b2⟩ := c_pl_b p1
  obtain ⟨b3, b4⟩ := c_pl_b p2
  have b5 := c_pl_m p2 hm
  have b6 := c_pl_d p1 p2 hne
  have lm0 : c_lm cn cs N U M := c_lm_le lm (by omega) (by omega)
  have clen : (w_cM G' T2 m sc lt).length = lt.length + 3 := by unfold w_cM; rw [List.length_append, List.length_append, List.length_append, List.length_singleton, List.length_singleton, List.length_singleton]
  have lm1 : c_lm (cn + 2) (cs + 2 + (w_cM G' T2 m sc lt).length) N U M := c_lm_le lm (by omega) (by rw [clen]; omega)
  obtain ⟨B0, gp0, gs0, tr0, sec0, sz0, e20, e30⟩ := id h7
  obtain ⟨W0, X0, MS0, KS0⟩ := id B0
  obtain ⟨o0, o1, o2, o3, o4, o5, o6, o7, o8, o9, o10, o11, o12, o13⟩ := id X0.1
  obtain ⟨ms1, ms2, ms3, ms4, ms5⟩ := MS0.2.2 m hm
  have t20 : sw_ty H 1420 = 80 := hq.1.2.2.2.2.2
  have ln : sw_ln H 1421 = 1400 := hq.1.2.2.2.2.1
  have fxo : ∀ a ∈ [1420, 1421], c_fix a := fun a ha => by simp at ha; unfold c_fix; omega
  have fxo2 : ∀ a ∈ [1420, 1421], c_fix a ∧ (15 < a ∨ a = 2) := fun a ha => by simp at ha; unfold c_fix; omega
  have oo : ∀ a ∈ [1420, 1421], a = 14 ∨ a = 15 ∨ a = 16 ∨ a = 1420 ∨ a = 1421 := fun a ha => by simp at ha; omega
  have ou : ∀ a ∈ [14, 15], a = 14 ∨ a = 15 ∨ a = 16 ∨ a = 1420 ∨ a = 1421 := fun a ha => by simp at ha; omega
  have up : ∀ {B : List Nat}, (∀ a ∈ B, a = 14 ∨ a = 15 ∨ a = 16 ∨ a = 1420 ∨ a = 1421) → ∀ a ∈ B, (3 < a ∧ a < 44) ∨ (93 < a ∧ a < 1416) ∨ (1420 ≤ a ∧ a ≤ 1491) := fun h a ha => by have := h a ha; omega
  unfold wb_93_87
  rw [o11]
  refine ⟨t20, ?_⟩
  intro q1 e1
  rw [o2]
  refine ⟨W0.2.1.1, ?_⟩
  intro q4 e4 v7 e7 _
  refine ⟨t20, ?_⟩
  intro q10 e10
  rw [e1, e4, e10, e7]
  -- the signature
  have hS1 := hS _ (Or.inl rfl)
  refine c_signWithContext lm0 (c_bS_0 hb W0.1.1) W0 hrr.1 (by decide) (by omega) gp0 ms4 (fun z1 A1 WA aA cA => ?_)
  have ma1 : w_mo S mk (w_tl mk (w_cS G' m lt)) := w_mo_tl hS1
  obtain ⟨ma, ema⟩ : ∃ ma, ma = w_tl mk (w_cS G' m lt) := ⟨_, rfl⟩
  have WA : c_W A1 ma nn K tl cn cs := by rw [ema]; exact WA
  have aA : w_at ma z1 (w_cS G' m lt) := by rw [ema]; exact aA
  rw [← ema] at ma1
  have ba := c_bS_mo hb ma1
  intro _ _
  have hA7 := c_e7_ch p1 p2 h7 WA cA ma1.1 ou
  have qA := c_wq_ch2 hq WA cA ma1.1 (up ou)
  have rA := c_rr_ch W0.1 hrr cA WA.1 ma1.1 (by decide) (by decide)
  have lnA : sw_ln A1 1421 = 1400 := qA.1.2.2.2.2.1
  refine c_s_term rA (by rw [lnA]; omega) (Nat.le_trans (c_W_len lm0 (c_bS_0 ba WA.1.1)) (by decide)) aA (fun B1 rB fB => ?_)
  intro _
  have WB := c_W_fr WA fB fxo2
  have cB := c_V_ch WA.1 fB fxo
  have hB7 := c_e7_ch p1 p2 hA7 WB cB (w_le_refl _) oo
  have qB := c_wq_ch2 qA WB cB (w_le_refl _) (up oo)
  have lnB : sw_ln B1 1421 = 1400 := qB.1.2.2.2.2.1
  have t20B : sw_ty B1 1420 = 80 := qB.1.2.2.2.2.2
  have OB := qB.1.2.1.1
  have lB : (lt ++ [w_cS G' m lt]).length = lt.length + 1 := by rw [List.length_append, List.length_singleton]
  rw [OB.2.2.1, OB.2.2.2.2.2.2.2.2.2.2.2.1]
  refine ⟨WB.2.1.1, ?_⟩
  intro q23 e23 v26 e26 _
  refine ⟨t20B, ?_⟩
  intro q29 e29
  refine ⟨t20B, ?_⟩
  intro q32 e32 v35 e35 _
  rw [e32, (c_rr_len rB).1] at e35
  rw [e23, e29, e35, e26]
  -- the confirmed hash
  have sl : w_sli (lt ++ [w_cS G' m lt]) 0 (lt ++ [w_cS G' m lt]).length = lt ++ [w_cS G' m lt] := by unfold w_sli; rw [List.drop_zero, Nat.sub_zero, List.take_length]
  refine c_confirmedHash (e := (lt ++ [w_cS G' m lt]).length) (w := gg_in G') lm0 ba WB rB.1 (by decide) (Nat.le_refl _) (by omega) hB7.2.1.2.2.2.2.2.2.2.1 (by rw [sl]; exact hS _ (Or.inr (Or.inr (Or.inr (Or.inl rfl))))) (fun z2 C1 mc c1 c2 WC aC cC => ?_)
  rw [sl] at aC
  have aC : w_at mc z2 (w_cf2 G' m lt) := aC
  intro _ _
  have hC7 := c_e7_ch p1 p2 hB7 WC cC c1.1 ou
  have qC := c_wq_ch2 qB WC cC c1.1 (up ou)
  have rC := c_rr_ch WB.1 rB cC WC.1 c1.1 (by decide) (by decide)
  have cHC : c_ch [14, 15, 1420, 1421] H C1 := c_ch_sub (c_ch_trans cA (c_ch_trans cB cC)) (by simp)
  intro D1 eD
  have fD : c_fr [g2] C1 D1 := by rw [eD]; exact c_fr_si _ _ _ _
  have fxg : ∀ a ∈ [g2], c_fix a := fun a ha => by simp at ha; unfold c_fix; omega
  have WD := c_W_fr WC fD (fun a ha => ⟨fxg a ha, by simp at ha; omega⟩)
  have cD := c_V_ch WC.1 fD fxg
  have BD := c_BS_cg p2 hC7.1 WD cD (w_le_refl _) (fun a ha => by simp at ha; right; omega)
  have qD := c_wq_ch2 qC WD cD (w_le_refl _) (fun a ha => by simp at ha; omega)
  have rD := c_rr_ch WC.1 rC cD WD.1 (w_le_refl _) (by simp; omega) (by simp; omega)
  have gpD := c_gp_fr WC.1 hC7.2.1 fD (fun a ha => ⟨fxg a ha, by simp at ha; omega⟩)
  have gsD := c_gs_fr hC7.2.2.1 fD
  have trD := c_tr_fr WC.1 hC7.2.2.2.1 fD (fun a ha => ⟨fxg a ha, by simp at ha; omega⟩)
  have d5 : sw_iv D1 g2 5 = z2 := by rw [eD, c_si_eq]
  have dn : ∀ f, f ≠ 5 → sw_iv D1 g2 f = sw_iv C1 g2 f := fun f hf => by rw [eD, c_si_f hf]
  have d22 : sw_iv D1 (g2 + 22) = sw_iv C1 (g2 + 22) := fD.2.2.2.2.2 _ (by simp)
  clear eD
  have OD := qD.1.2.1.1
  rw [OD.2.2.1]
  refine ⟨WD.2.1.1, ?_⟩
  intro q46 e46
  rw [e46]
  -- the joiner
  have lec : w_le mk mc := w_le_trans ma1.1 c1.1
  refine c_joinerOf lm0 c2 WD gpD (w_le_at lec hx) (hS _ (Or.inr (Or.inl rfl))) (hS _ (Or.inr (Or.inr (Or.inl rfl)))) (fun z3 E1 me x1 x2 WE aE cE => ?_)
  intro _ _
  have flD := WD.1.2.2.2.1
  have adD := WD.1.2.2.2.2
  have BE := c_BS_cg p2 BD WE cE x1.1 (by simp)
  have qE := c_wq_ch2 qD WE cE x1.1 (by simp)
  have rE := c_rr_ch WD.1 rD cE WE.1 x1.1 (by simp) (by simp)
  have gpE := c_gp_ch gpD flD adD cE (by simp) x1.1
  have gsE := c_gs_ch gsD flD adD cE (by simp) (by simp)
  have trE := c_tr_ch trD flD adD cE (by simp) x1.1
  have ivE := (c_fx_iv flD adD cE (q := g2) (by unfold c_fix; omega) (by simp)).1
  have iv22E := (c_fx_iv flD adD cE (q := g2 + 22) (by unfold c_fix; omega) (by simp)).1
  have OE := qE.1.2.1.1
  rw [OE.2.2.1]
  refine ⟨WE.2.1.1, ?_⟩
  intro q57 e57
  rw [e57]
  -- the epoch
  refine c_startEpochS (ep := w_epn G') (cf := w_cf2 G' m lt) (j := w_jnr G' sc) (es := w_es2 G' T2 m sc lt) rfl lm0 x2 WE gsE trE (by rw [ivE, dn 2 (by decide)]; exact hC7.2.2.2.2.2.2.1) (by rw [ivE, d5]; exact Or.inr (w_le_at x1.1 aC)) aE (fun y hy => hS _ (Or.inr (Or.inr (Or.inr (Or.inr (Or.inr (Or.inr (Or.inr (Or.inr (Or.inr (Or.inr ⟨y, hy, rfl⟩))))))))))) (hS _ (Or.inr (Or.inr (Or.inr (Or.inr (Or.inl rfl)))))) (hS _ (Or.inr (Or.inr (Or.inr (Or.inr (Or.inr (Or.inl rfl))))))) (hS _ (Or.inr (Or.inr (Or.inr (Or.inr (Or.inr (Or.inr (Or.inl rfl)))))))) (hS _ (Or.inr (Or.inr (Or.inr (Or.inr (Or.inr (Or.inr (Or.inr (Or.inr (Or.inr (Or.inl rfl))))))))))) (fun z4 F1 mf f1 f2 WF aF th es2 it fo fr cF => ?_)
  intro _ _
  have flE := WE.1.2.2.2.1
  have adE := WE.1.2.2.2.2
  have nF : ∀ a ∈ [14, 15, 16, g2], (3 < a ∧ a < 44) ∨ (93 < a ∧ a < 1416) ∨ (1420 ≤ a ∧ a ≤ 1491) := fun a ha => by simp at ha; omega
  have BF := c_BS_cg p2 BE WF cF f1.1 (fun a ha => by simp at ha; unfold c_hl; omega)
  have qF := c_wq_ch2 qE WF cF f1.1 nF
  have rF := c_rr_ch WE.1 rE cF WF.1 f1.1 (by simp; omega) (by simp; omega)
  have gpF := c_gp_ch gpE flE adE cF (fun a ha => by simp at ha; omega) f1.1
  have i22F := (c_fx_iv flE adE cF (q := g2 + 22) (by unfold c_fix; omega) (fun cc => by simp at cc)).1
  have leF : w_le mc mf := w_le_trans x1.1 f1.1
  -- the next group
  have gnF : c_gp F1 mf g2 (w_Gn G' T2 m sc lt hd) := by
    refine ⟨c_gs_ch gsE flE adE cF (fun a ha hn => by simp at ha; omega) (fun _ f => fr f), hok, ?_, ?_, c_tr_ch trE flE adE cF (fun a ha => by simp at ha; omega) f1.1, th, ?_, it, es2, fun x hx => ?_, fun x hx hx2 => ?_⟩
    · rw [fo 2 (by decide) (by decide) (by decide), ivE, dn 2 (by decide)]; exact hC7.2.2.2.2.2.2.1
    · rw [fo 3 (by decide) (by decide) (by decide), ivE, dn 3 (by decide)]; exact hC7.2.2.2.2.2.2.2
    · rw [fo 5 (by decide) (by decide) (by decide), ivE, d5]; exact Or.inr (w_le_at leF aC)
    · rw [i22F, iv22E, d22]; exact w_le_az leF (hC7.2.2.2.2.1 x hx)
    · rw [i22F, iv22E, d22]; exact hC7.2.2.2.2.2.1 x hx hx2
  have cHF : c_ch [14, 15, 16, 1420, 1421, g2] H F1 := c_ch_sub (c_ch_trans cHC (c_ch_trans cD (c_ch_trans cE cF))) (by simp)
  have OF := qF.1.2.1.1
  have lnF : sw_ln F1 1421 = 1400 := qF.1.2.2.2.2.1
  have t20F : sw_ty F1 1420 = 80 := qF.1.2.2.2.2.2
  rw [OF.2.2.2.2.2.2.2.2.2.2.2.1]
  refine ⟨t20F, ?_⟩
  intro q68 e68
  rw [e68]
  have mlF := Nat.le_trans (c_W_len lm0 (c_bS_0 f2 WF.1.1)) (by decide : 999999999 ≤ 1000000000)
  refine c_s_term rF (by rw [lnF, lB]; omega) mlF aF (fun G1 rG fG => ?_)
  intro _
  have WG := c_W_fr WF fG fxo2
  have cG := c_V_ch WF.1 fG fxo
  have BG := c_BS_ch BF WG cG (w_le_refl _) (fun a ha => by simp at ha; unfold c_hl; omega)
  have qG := c_wq_ch2 qF WG cG (w_le_refl _) (up oo)
  have gpG := c_gp_fr WF.1 gpF fG (fun a ha => ⟨fxo a ha, by simp at ha; omega⟩)
  have gnG := c_gp_fr WF.1 gnF fG (fun a ha => ⟨fxo a ha, by simp at ha; omega⟩)
  have OG := qG.1.2.1.1
  have lnG : sw_ln G1 1421 = 1400 := qG.1.2.2.2.2.1
  have t20G : sw_ty G1 1420 = 80 := qG.1.2.2.2.2.2
  have lG : (lt ++ [w_cS G' m lt] ++ [w_cm2 G' T2 m sc lt]).length = lt.length + 2 := by rw [List.length_append, List.length_append, List.length_singleton, List.length_singleton]
  rw [OG.2.2.2.2.2.2.2.2.2.2.2.1]
  refine ⟨t20G, ?_⟩
  intro q76 e76
  rw [OG.2.2.1]
  refine ⟨WG.2.1.1, ?_⟩
  intro q79 e79
  refine ⟨t20G, ?_⟩
  intro q82 e82
  rw [e76, e79, e82]
  -- the tag
  have hSm := hS _ (Or.inr (Or.inr (Or.inr (Or.inr (Or.inr (Or.inr (Or.inr (Or.inl rfl))))))))
  have hSt := hS _ (Or.inr (Or.inr (Or.inr (Or.inr (Or.inr (Or.inr (Or.inr (Or.inr (Or.inl rfl)))))))))
  refine c_tagOf lm0 WG rG (by rw [List.length_append, lB, List.length_singleton]; omega) gpG (c_bS_tl f2 WG.1.1 hSm) (fun z5 I1 WI aI cI => ?_)
  have h1m : w_mo S mf (w_tl (w_tl mf (w_mem G')) (w_cT G' T2 m sc lt)) := w_mo_trans (w_mo_tl hSm) (w_mo_tl hSt)
  obtain ⟨mi, emi⟩ : ∃ mi, mi = w_tl (w_tl mf (w_mem G')) (w_cT G' T2 m sc lt) := ⟨_, rfl⟩
  have WI : c_W I1 mi nn K tl cn cs := by rw [emi]; exact WI
  have aI : w_at mi z5 (w_cT G' T2 m sc lt) := by rw [emi]; exact aI
  rw [← emi] at h1m
  have bi := c_bS_mo f2 h1m
  intro _ _
  have flG := WG.1.2.2.2.1
  have adG := WG.1.2.2.2.2
  have BI := c_BS_ch BG WI cI h1m.1 (by simp)
  have qI := c_wq_ch2 qG WI cI h1m.1 (by simp)
  have rI := c_rr_ch WG.1 rG cI WI.1 h1m.1 (by simp) (by simp)
  have gnI := c_gp_ch gnG flG adG cI (by simp) h1m.1
  have lnI : sw_ln I1 1421 = 1400 := qI.1.2.2.2.2.1
  refine c_s_term rI (by rw [lnI, List.length_append, lB, List.length_singleton]; omega) (Nat.le_trans (c_W_len lm0 (c_bS_0 bi WI.1.1)) (by decide)) aI (fun J1 rJ fJ => ?_)
  have rJ : c_rr J1 mi 1420 1421 (w_cM G' T2 m sc lt) := rJ
  intro _
  have WJ := c_W_fr WI fJ fxo2
  have cJ := c_V_ch WI.1 fJ fxo
  have BJ := c_BS_ch BI WJ cJ (w_le_refl _) (fun a ha => by simp at ha; unfold c_hl; omega)
  have qJ := c_wq_ch2 qI WJ cJ (w_le_refl _) (up oo)
  have gnJ := c_gp_fr WI.1 gnI fJ (fun a ha => ⟨fxo a ha, by simp at ha; omega⟩)
  have cHJ : c_ch [14, 15, 16, 1420, 1421, g2] H J1 := c_ch_sub (c_ch_trans cHF (c_ch_trans cG (c_ch_trans cI cJ))) (by simp)
  have lei : w_le me mi := w_le_trans f1.1 h1m.1
  have mo1 : w_mo S mk mi := w_mo_trans ma1 (w_mo_trans c1 (w_mo_trans x1 (w_mo_trans f1 h1m)))
  -- the message is sent
  refine c_BS_send3 lm0 (c_bS_0 bi WJ.1.1) BJ rJ (by rw [clen]; omega) h300 (fun K1 BK rK cK n16 => ?_)
  intro _ _ M1 eM
  have flJ := WJ.1.2.2.2.1
  have adJ := WJ.1.2.2.2.2
  have WK := BK.1
  have flK := WK.1.2.2.2.1
  have adK := WK.1.2.2.2.2
  have qK := c_wq_send qJ BK cK n16
  have gnK := c_gp_ch gnJ flJ adJ cK (fun a ha => by simp at ha; omega) (w_le_refl _)
  have fM : c_fr [120 + 54 * m] K1 M1 := by rw [eM]; exact c_fr_si _ _ _ _
  have fxm : ∀ a ∈ [120 + 54 * m], c_fix a := fun a ha => by simp at ha; unfold c_fix; omega
  have WM := c_W_fr WK fM (fun a ha => ⟨fxm a ha, by simp at ha; omega⟩)
  have cM := c_V_ch WK.1 fM fxm
  have BM := c_BS_mem BK hm fM (fun a ha => by simp at ha; omega) (fun f hf => by rw [eM, c_si_f (by omega)])
  have qM := c_wq_ch2 qK WM cM (w_le_refl _) (fun a ha => by simp at ha; omega)
  have gnM := c_gp_fr WK.1 gnK fM (fun a ha => ⟨fxm a ha, by simp at ha; omega⟩)
  have cHK : c_ch [2, 1416, 14, 15, 16, 1420, 1421, g2] H K1 := c_ch_sub (c_ch_trans cHJ cK) (by simp)
  have cHM : c_ch (c_A87 m g2) H M1 := c_ch_sub (c_ch_trans cHK cM) (by unfold c_A87; simp)
  have ivK := (c_fx_iv W0.1.2.2.2.1 W0.1.2.2.2.2 cHK (q := 120 + 54 * m) (by unfold c_fix; omega) (by simp; omega))
  have ivM : ∀ f, sw_iv M1 (120 + 54 * m) f = if f = 6 then (ms.length : Int) else sw_iv H (120 + 54 * m) f := fun f => by
    rw [eM]
    by_cases c6 : f = 6
    · rw [if_pos c6, c6, c_si_eq]
    · rw [if_neg c6, c_si_f c6]; exact ivK.1 f
  have rvM : ∀ f, sw_rv M1 (120 + 54 * m) f = sw_rv H (120 + 54 * m) f := fun f => by rw [fM.2.2.2.2.1]; exact ivK.2 f
  clear eM
  have i44 : sw_iv M1 44 2 = ((h_ads T0 L L.length).length : Nat) := by
    rw [fM.2.2.2.2.2 44 (by simp; omega), (c_fx_iv W0.1.2.2.2.1 W0.1.2.2.2.2 cHK (q := 44) (by unfold c_fix; omega) (by simp; omega)).1 2]
    exact hadds
  have outM : c_Out M1 := ⟨by rw [fM.2.2.2.1, (c_fx_ty flJ cK (q := 1421) (by unfold c_fix; omega)).2]; exact qJ.1.2.2.2.2.1, (c_rr_row (c_rr_ch WK.1 rK cM WM.1 (w_le_refl _) (by simp; omega) (by simp; omega))).imp (fun s hs => hs.1)⟩
  have OM := qM.1.2.1.1
  rw [OM.2.2.2.2.2.2.2.2.1]
  refine ⟨qM.1.2.2.2.1, ?_⟩
  intro q106 e106 v109 e109 _
  rw [e106, i44] at e109
  subst e109
  refine ⟨fun c => ?_, fun c => ?_⟩
  · have ea : h_ads T0 L L.length = [] := List.length_eq_zero_iff.mp (by omega)
    exact q M1 mi _ _ _ _ mo1 BM gnM ivM rvM (fun _ => ⟨rfl, rfl, rfl, rfl⟩) (fun cc => absurd ea cc) outM cHM
  · have ea : h_ads T0 L L.length ≠ [] := fun cc => by rw [cc] at c; exact absurd c (by decide)
    have h9 := h299 ea
    -- the WELCOME
    refine c_writeWelcomeHead lm1 bi (c_X_vl WM.1.1 qM.1.2.1) h4 hl hwp h16 hadx hSw (w_le_at lei aE) qM outM (fun N1 mn n1 n2 qN rN cN => ?_)
    intro _
    have WN := qN.1.1
    have flM := WM.1.2.2.2.1
    have adM := WM.1.2.2.2.2
    have BN := c_BS_ch BM WN cN n1.1 (fun a ha => by simp at ha; unfold c_hl; omega)
    have gnN := c_gp_ch gnM flM adM cN (fun a ha => by simp at ha; omega) n1.1
    have wll := w_wl_len (T := T1) (l := l) (n0 := n0) (wp := wp) (jn := w_jnr G' sc) (L := L) (h_ads T0 L L.length)
    have hll : (w_weH T1 l n0 wp (w_jnr G' sc) L (h_ads T0 L L.length)).length ≤ 40 := by
      unfold w_weH
      have e2 : ∀ z : Int, (w_b16 z).length = 2 := fun _ => rfl
      rw [List.length_cons, List.length_append, e2]
      omega
    refine c_writeInfo (cm := w_cm2 G' T2 m sc lt) hm lm1 n2 WN qN.1.2.1.1 BN.2.2.1 gnN p2 (w_le_at (w_le_trans h1m.1 n1.1) aF) rN qN.1.2.2.2.2.1 (by omega) hSi (fun Q1 mq k1 k2 WQ rQ cQ => ?_)
    intro _
    have flN := WN.1.2.2.2.1
    have adN := WN.1.2.2.2.2
    have BQ := c_BS_ch BN WQ cQ k1.1 (fun a ha => by simp at ha; unfold c_hl; omega)
    have gnQ := c_gp_ch gnN flN adN cQ (fun a ha => by simp at ha; omega) k1.1
    have h4' : t_dp (gg_T (w_Gn G' T2 m sc lt hd)) ≤ 4 := tr0.2.1.1
    have il := w_inf_len (G := w_Gn G' T2 m sc lt hd) (cm := w_cm2 G' T2 m sc lt) h4'
    have wel : (w_weM m (w_Gn G' T2 m sc lt hd) (w_cm2 G' T2 m sc lt) (w_weH T1 l n0 wp (w_jnr G' sc) L (h_ads T0 L L.length))).length ≤ 800 := by
      unfold w_weM
      rw [List.length_append, List.length_append, List.length_singleton]
      omega
    refine c_BS_send3 lm1 (c_bS_0 k2 WQ.1.1) BQ rQ (by omega) (by rw [List.length_append, List.length_singleton]; omega) (fun R1 BR rR cR _ => ?_)
    intro _ _
    have WR := BR.1
    have flQ := WQ.1.2.2.2.1
    have adQ := WQ.1.2.2.2.2
    have gnR := c_gp_ch gnQ flQ adQ cR (fun a ha => by simp at ha; omega) (w_le_refl _)
    have cMR : c_ch [2, 1416, 14, 15, 1420, 1421] M1 R1 := c_ch_sub (c_ch_trans cN (c_ch_trans cQ cR)) (by simp)
    have ivR := c_fx_iv flM adM cMR (q := 120 + 54 * m) (by unfold c_fix; omega) (by simp; omega)
    refine q R1 mq _ _ _ _ (w_mo_trans mo1 (w_mo_trans n1 k1)) BR gnR (fun f => by rw [ivR.1]; exact ivM f) (fun f => by rw [ivR.2]; exact rvM f) (fun cc => absurd cc ea) (fun _ => ⟨rfl, rfl, rfl, rfl⟩) ⟨by rw [(c_fx_ty flQ cR (q := 1421) (by unfold c_fix; omega)).2, (c_fx_ty flN cQ (q := 1421) (by unfold c_fix; omega)).2]; exact qN.1.2.2.2.2.1, (c_rr_row rR).imp (fun s hs => hs.1)⟩ (c_ch_t cHM (c_ch_sub cMR (by unfold c_A87; simp)))
end
