/-! ===== the class: enterNext, takeOwnCommit ===== -/
noncomputable section
variable {H Z X : sw_H} {nn g gm r ra r2 a2 m mi pn : Nat} {K S : Wt → Prop} {tl mk mm lm lp : List Wt} {ms : List (List Wt)} {cn cs N U M : Int} {P : Int → sw_H → Prop} {T : w_T} {G : w_G} {sc cf : Wt} {hd : Nat → Wt} {A : List Nat} {tp : List Wt} {rd : Nat → Int}
theorem c_sg_far (hW : c_W H mk nn K tl cn cs) (hZ : c_W Z mm nn K tl cn cs) (h : c_sg H (w_d mk) r ra lm) (k : c_ch A H Z) (hl : w_le mk mm) (o : ¬ c_ow H r ∧ ¬ c_ow H ra) (hA : r ∉ A ∧ ra ∉ A) : c_sg Z (w_d mm) r ra lm ∧ ¬ c_ow Z r ∧ ¬ c_ow Z ra := by
  have l1 := w_le_len hl
  have n1 := hW.1.1.2.1
  have n3 := hZ.1.1.2.1
  exact ⟨c_sg_ch h k o.1 o.2 hA.1 hA.2 (by omega) (fun u hu => w_le_d hl (by omega)), c_ch_no k (by rw [h.choose_spec.1.1]; decide) o.1, c_ch_no k (by rw [h.choose_spec.1.2.2.1]; decide) o.2⟩
theorem c_enterNext (hm : m < 24) (lmm : c_lm cn cs N U M) (hb : c_bS S mk tl N U M) (hW : c_W H mk nn K tl cn cs) (hTa : c_Ta H) (h6 : sw_rv H 94 6 = g) (hpl : c_pl g) (hgs : c_gs H g) (htr : c_tr H mk (g + 1) T) (i2 : sw_iv H g 2 = w_epn G) (i3 : sw_iv H g 3 = gg_lf G) (hh : ∀ x, x < t_w T → w_az mk (sw_iv H (g + 22) x) (hd x)) (hz : ∀ x, t_w T ≤ x → x < 31 → sw_iv H (g + 22) x = 0) (h4 : sw_rv H (120 + 54 * m) 4 = gm) (hplm : c_pl gm) (hgm : c_gp H mk gm G) (hne : g ≠ gm) (hsg : c_sg H (w_d mk) r ra lm) (hr : 1491 < r ∧ 1491 < ra) (ho : ¬ c_ow H r ∧ ¬ c_ow H ra) (hl3 : 3 ≤ lm.length) (hlm : lm.length ≤ 1200) (hcf : lm[lm.length - 2]? = some cf) (hcf2 : cf.head? ≠ some 1000) (h7 : w_at mk (sw_iv H 94 7) sc) (hok : gg_ok (d_G G T sc lm hd)) (hS : ∀ v, d_eS G T sc lm v → S v)
    (q0 : ∀ X mm, d_cm G T sc lm = cf → w_mo S mk mm → c_bS S mm tl N U M → c_W X mm nn K tl cn cs → c_gp X mm g (d_G G T sc lm hd) → (∀ f, sw_iv X (120 + 54 * m) f = if f = 3 then 1 else if f = 6 then -1 else if f = 9 then 0 else if f = 11 then 0 else sw_iv H (120 + 54 * m) f) → (∀ f, sw_rv X (120 + 54 * m) f = if f = 4 then g else sw_rv H (120 + 54 * m) f) → (∀ f, sw_rv X 94 f = if f = 6 then gm else sw_rv H 94 f) → c_ch [14, 15, 16, g, 120 + 54 * m, 94] H X → P 0 X)
    (q12 : ∀ X mm, d_cm G T sc lm ≠ cf → w_mo S mk mm → c_bS S mm tl N U M → c_W X mm nn K tl cn cs → c_gs X g → c_ch [14, 15, 16, g] H X → P 12 X) : wm_308 94 (120 + 54 * m) r H P := by
  obtain ⟨t94, r0, r1, r2, r3, r4, _⟩ := id hTa
  obtain ⟨p1, p2⟩ := c_pl_b hpl
  obtain ⟨p3, p4⟩ := c_pl_b hplm
  have pd := c_pl_d hpl hplm hne
  have pm := c_pl_m hpl hm
  have pmm := c_pl_m hplm hm
  have fl := hW.1.2.2.2.1
  have ad := hW.1.2.2.2.2
  unfold wm_308
  rw [h6]
  refine ⟨hgs.2.2.1, ?_⟩
  intro q1 e1
  rw [r1]
  refine ⟨hW.2.1.1, ?_⟩
  intro q4 e4
  rw [h4]
  refine ⟨hgm.1.2.2.1, ?_⟩
  intro q7 e7 v10 e10 _ v13 e13 _
  rw [(c_sg_len hsg).1] at e13
  have i13 : sw_w (v13 - 2) = ((lm.length - 2 : Nat) : Int) := by rw [e13, sw_w_s (by omega) (by omega)]; omega
  rw [i13, e4, e1]
  clear i13
  rw [e7] at e10
  refine c_confirmedHash (e := lm.length - 2) (w := gg_in G) lmm hb hW hsg (by omega) (by omega) (by omega) (by rw [e10]; exact hgm.2.2.2.2.2.2.2.1) (hS _ (Or.inr (Or.inr (Or.inl rfl)))) (fun z1 B1 mb b1 b2 WB aB cB => ?_)
  intro _ _ D1 eD
  have aB : w_at mb z1 (d_cf G lm) := aB
  have gpB := c_gp_ch hgm fl ad cB (fun a ha => by simp at ha; omega) b1.1
  have gsB := c_gs_ch hgs fl ad cB (fun a ha hn => by simp at ha; omega) (fun c => by simp at c; omega)
  have trB := c_tr_ch htr fl ad cB (fun a ha => by simp at ha; omega) b1.1
  obtain ⟨sgB, oB⟩ := c_sg_far hW WB hsg cB b1.1 ho ⟨by simp <;> omega, by simp <;> omega⟩
  have fD : c_fr [g] B1 D1 := by rw [eD]; exact c_fr_si _ _ _ _
  have fxg : ∀ a ∈ [g], c_fix a := fun a ha => by simp at ha; unfold c_fix; omega
  have WD := c_W_fr WB fD (fun a ha => ⟨fxg a ha, by simp at ha; omega⟩)
  have cD := c_V_ch WB.1 fD fxg
  have gpD := c_gp_fr WB.1 gpB fD (fun a ha => ⟨fxg a ha, by simp at ha; omega⟩)
  have gsD := c_gs_fr gsB fD
  have trD := c_tr_fr WB.1 trB fD (fun a ha => ⟨fxg a ha, by simp at ha; omega⟩)
  obtain ⟨sgD, oD⟩ := c_sg_far WB WD sgB cD (w_le_refl _) oB ⟨by simp <;> omega, by simp <;> omega⟩
  have d5 : sw_iv D1 g 5 = z1 := by rw [eD, c_si_eq]
  have dn : ∀ f, f ≠ 5 → sw_iv D1 g f = sw_iv B1 g f := fun f hf => by rw [eD, c_si_f hf]
  have d22 : sw_iv D1 (g + 22) = sw_iv B1 (g + 22) := fD.2.2.2.2.2 _ (by simp)
  clear eD
  have cHD : c_ch [14, 15, g] H D1 := c_ch_sub (c_ch_trans cB cD) (by simp)
  have v94 := c_fx_iv fl ad cHD (q := 94) (by unfold c_fix; omega) (by simp <;> omega)
  have vm := c_fx_iv fl ad cHD (q := 120 + 54 * m) (by unfold c_fix; omega) (by simp <;> omega)
  rw [v94.2 1, r1]
  refine ⟨WD.2.1.1, ?_⟩
  intro q24 e24
  rw [vm.2 4, h4]
  refine ⟨gpD.1.2.2.1, ?_⟩
  intro q27 e27 v30 e30 _
  rw [v94.1 7] at e30
  rw [e24, e27, e30]
  refine c_joinerOf lmm b2 WD gpD (w_le_at b1.1 h7) (hS _ (Or.inl rfl)) (hS _ (Or.inr (Or.inl rfl))) (fun z3 E1 me x1 x2 WE aE cE => ?_)
  intro _ _
  have flD := WD.1.2.2.2.1
  have adD := WD.1.2.2.2.2
  have gpE := c_gp_ch gpD flD adD cE (by simp) x1.1
  have gsE := c_gs_ch gsD flD adD cE (by simp) (by simp)
  have trE := c_tr_ch trD flD adD cE (by simp) x1.1
  obtain ⟨sgE, oE⟩ := c_sg_far WD WE sgD cE x1.1 oD ⟨by simp, by simp⟩
  have ivE := (c_fx_iv flD adD cE (q := g) (by unfold c_fix; omega) (by simp)).1
  have iv22E := (c_fx_iv flD adD cE (q := g + 22) (by unfold c_fix; omega) (by simp)).1
  have v94E := c_fx_iv flD adD cE (q := 94) (by unfold c_fix; omega) (by simp)
  rw [v94E.2 1, v94.2 1, r1]
  refine ⟨WE.2.1.1, ?_⟩
  intro q41 e41
  rw [v94E.2 6, v94.2 6, h6]
  refine ⟨gsE.2.2.1, ?_⟩
  intro q44 e44
  rw [e41, e44]
  have iv22B := (c_fx_iv fl ad cB (q := g + 22) (by unfold c_fix; omega) (by simp <;> omega)).1
  have ivB := (c_fx_iv fl ad cB (q := g) (by unfold c_fix; omega) (by simp <;> omega)).1
  refine c_startEpochS (ep := w_epn G) (cf := d_cf G lm) (j := w_jnr G sc) (es := d_es G T sc lm) rfl lmm x2 WE gsE trE (by rw [ivE, dn 2 (by decide), ivB]; exact i2) (by rw [ivE, d5]; exact Or.inr (w_le_at x1.1 aB)) aE (fun y hy => hS _ (Or.inr (Or.inr (Or.inr (Or.inr (Or.inr (Or.inr (Or.inr ⟨y, hy, rfl⟩)))))))) (hS _ (Or.inr (Or.inr (Or.inr (Or.inl rfl))))) (hS _ (Or.inr (Or.inr (Or.inr (Or.inr (Or.inl rfl)))))) (hS _ (Or.inr (Or.inr (Or.inr (Or.inr (Or.inr (Or.inl rfl))))))) (hS _ (Or.inr (Or.inr (Or.inr (Or.inr (Or.inr (Or.inr (Or.inl rfl)))))))) (fun z4 F1 mf f1 f2 WF aF th es2 it fo fr cF => ?_)
  intro _ _
  have flE := WE.1.2.2.2.1
  have adE := WE.1.2.2.2.2
  have i22F := (c_fx_iv flE adE cF (q := g + 22) (by unfold c_fix; omega) (fun cc => by simp at cc)).1
  have leF : w_le mb mf := w_le_trans x1.1 f1.1
  obtain ⟨sgF, oF⟩ := c_sg_far WE WF sgE cF f1.1 oE ⟨by simp <;> omega, by simp <;> omega⟩
  have gnF : c_gp F1 mf g (d_G G T sc lm hd) := by
    refine ⟨c_gs_ch gsE flE adE cF (fun a ha hn => by simp at ha; omega) (fun _ f => fr f), hok, ?_, ?_, c_tr_ch trE flE adE cF (fun a ha => by simp at ha; omega) f1.1, th, ?_, it, es2, fun x hx => ?_, fun x hx hx2 => ?_⟩
    · rw [fo 2 (by decide) (by decide) (by decide), ivE, dn 2 (by decide), ivB]; exact i2
    · rw [fo 3 (by decide) (by decide) (by decide), ivE, dn 3 (by decide), ivB]; exact i3
    · rw [fo 5 (by decide) (by decide) (by decide), ivE, d5]; exact Or.inr (w_le_at leF aB)
    · rw [i22F, iv22E, d22, iv22B]; exact w_le_az (w_le_trans b1.1 leF) (hh x hx)
    · rw [i22F, iv22E, d22, iv22B]; exact hz x hx hx2
  have cHF : c_ch [14, 15, 16, g] H F1 := c_ch_sub (c_ch_trans cHD (c_ch_trans cE cF)) (by simp)
  have moF : w_mo S mk mf := w_mo_trans b1 (w_mo_trans x1 f1)
  intro v52 e52 _
  rw [(c_sg_len sgF).1] at e52
  have i52 : sw_w (v52 - 2) = ((lm.length - 2 : Nat) : Int) := by rw [e52, sw_w_s (by omega) (by omega)]; omega
  rw [i52]
  clear i52
  refine c_s_termAt WF.1.1.2.1 sgF hcf hcf2 (fun z5 a5 => ?_)
  intro _ _
  refine ⟨fun c => ?_, fun c => q12 F1 mf (fun e => c ?_) moF f2 WF gnF.1 cHF⟩
  rotate_left
  · refine w_at_inj (c_L_nd WF.1.1) aF ?_
    rw [← e] at a5
    exact a5
  have ecm : d_cm G T sc lm = cf := w_at_fun (by rw [← c]; exact aF) a5
  have v94F := c_fx_iv fl ad cHF (q := 94) (by unfold c_fix; omega) (by simp <;> omega)
  have vmF := c_fx_iv fl ad cHF (q := 120 + 54 * m) (by unfold c_fix; omega) (by simp <;> omega)
  rw [v94F.2 6, h6]
  refine ⟨gnF.1.2.2.1, ?_⟩
  intro q60 e60
  rw [e60]
  have t4F : sw_ty F1 (sw_rv F1 (120 + 54 * m) 4) = 40 := by rw [vmF.2 4, h4, (c_fx_ty fl cHF (q := gm) (by unfold c_fix; omega)).1]; exact hgm.1.2.2.1
  refine c_enter t4F (fun Y a1 n1 s1 ty1 iv1 rv1 => ?_)
  refine ⟨by rw [ty1]; exact t4F, ?_⟩
  intro _ _ V eV
  have fxm : ∀ a ∈ [120 + 54 * m], c_fix a ∧ (15 < a ∨ a = 2) := fun a ha => by simp at ha; unfold c_fix; omega
  have fx94 : ∀ a ∈ [94], c_fix a ∧ (15 < a ∨ a = 2) := fun a ha => by simp at ha; unfold c_fix; omega
  have WY := c_W_al WF a1 n1 s1 fxm ty1
  have cY := c_W_alch WF a1 (fun a ha => (fxm a ha).2)
  have aV : c_al [94] Y V := by rw [eV]; exact c_al_sr _ _ _ _
  have WV := c_W_al WY aV (by rw [eV]; rfl) (by rw [eV]; rfl) fx94 (fun c => by rw [eV]; rfl)
  have cV := c_W_alch WY aV (fun a ha => (fx94 a ha).2)
  have cFV : c_ch [120 + 54 * m, 94] F1 V := c_ch_sub (c_ch_trans cY cV) (by simp)
  have flF := WF.1.2.2.2.1
  have adF := WF.1.2.2.2.2
  refine q0 V mf ecm moF f2 WV (c_gp_ch gnF flF adF cFV (fun a ha => by simp at ha; omega) (w_le_refl _)) (fun f => ?_) (fun f => ?_) (fun f => ?_) (c_ch_sub (c_ch_trans cHF cFV) (by simp))
  · rw [eV]
    show sw_iv Y (120 + 54 * m) f = _
    rw [iv1 f, vmF.1 f]
  · rw [(aV.2 (120 + 54 * m) (WY.1.2.2.2.1 _ (by omega) (by omega)) (by simp <;> omega)).2 f, rv1 f, vmF.2 f]
  · rw [eV]
    have n94 := (a1.2 94 (flF 94 (by decide) (by decide)) (by simp <;> omega)).2 f
    by_cases c6 : f = 6
    · rw [c6, c_sr_eq, if_pos rfl, vmF.2 4, h4]
    · rw [c_sr_f c6, if_neg c6, n94, v94F.2 f]
theorem c_takeOwn (hm : m < 24) (hW : c_W H mk nn K tl cn cs) (hX : c_X H mk tp rd ms) (h4 : sw_rv H (120 + 54 * m) 4 = gm) (h5 : sw_rv H (120 + 54 * m) 5 = g) (t4 : sw_ty H gm = 40) (t5 : sw_ty H g = 40) (hmi : ms[mi]? = some lm) (hr : r = sw_rv H 1416 mi) (hp : sw_iv H (120 + 54 * m) 6 = -1 ∨ ∃ pn : Nat, sw_iv H (120 + 54 * m) 6 = pn ∧ ms[pn]? = some lp) (q1 : ∀ X, sw_iv H (120 + 54 * m) 6 ≠ -1 → lp = lm → c_W X mk nn K tl cn cs → (∀ f, sw_iv X (120 + 54 * m) f = if f = 3 then 1 else if f = 6 then -1 else if f = 9 then 0 else if f = 11 then 0 else sw_iv H (120 + 54 * m) f) → (∀ f, sw_rv X (120 + 54 * m) f = if f = 5 then gm else if f = 4 then g else sw_rv H (120 + 54 * m) f) → c_ch [120 + 54 * m] H X → P 0 X) (q0 : ¬ (sw_iv H (120 + 54 * m) 6 ≠ -1 ∧ lp = lm) → P 3 H) : wm_301 94 (120 + 54 * m) 1416 r H P := by
  unfold wm_301
  intro v1 e1 _
  refine ⟨fun c => q0 (fun h => h.1 (by omega)), fun c => ?_⟩
  obtain ⟨pn, pe, pm⟩ : ∃ pn : Nat, sw_iv H (120 + 54 * m) 6 = pn ∧ ms[pn]? = some lp := by
    rcases hp with h | h
    · omega
    · exact h
  have pl : pn < ms.length := (List.getElem?_eq_some_iff.mp pm).1
  have ml := hX.2.2.2.2.1
  obtain ⟨g1, g2, g3, a', g4, g5, hs1⟩ := hX.2.2.2.2.2 pn lp pm
  obtain ⟨k1, k2, k3, b', k4, k5, hs2⟩ := hX.2.2.2.2.2 mi lm hmi
  have l16 : sw_ln H 1416 = 300 := hX.1.2.2.2.2.2.2.2.2.2.2.2.2.2.2
  rw [e1, pe, l16]
  refine ⟨by omega, by omega, ?_⟩
  rw [Int.toNat_natCast]
  refine ⟨hs1.choose_spec.1.1, ?_⟩
  intro q7 e7
  rw [e7, hr]
  refine c_isSame hW.1.1 hs1 hs2 (by omega) (fun e => ?_) (fun e => ?_)
  · intro _ _
    refine ⟨fun _ => ?_, fun c => absurd c (by decide)⟩
    rw [h5]
    refine ⟨t5, ?_⟩
    intro q15 e15
    rw [e15]
    refine c_enter (by rw [h4]; exact t4) (fun Y a1 n1 s1 ty1 iv1 rv1 => ?_)
    rw [h4]
    refine ⟨by rw [ty1]; exact t4, ?_⟩
    intro _ _ V eV
    have fxm : ∀ a ∈ [120 + 54 * m], c_fix a ∧ (15 < a ∨ a = 2) := fun a ha => by simp at ha; unfold c_fix; omega
    have aV : c_al [120 + 54 * m] Y V := by rw [eV]; exact c_al_sr _ _ _ _
    have aHV := c_al_t a1 aV
    have WV := c_W_al hW aHV (by rw [eV]; exact n1) (by rw [eV]; exact s1) fxm (fun c => by rw [eV]; exact ty1 c)
    refine q1 V (by omega) e WV (fun f => ?_) (fun f => ?_) (c_W_alch hW aHV (fun a ha => (fxm a ha).2))
    · rw [eV]
      exact iv1 f
    · rw [eV]
      by_cases c5 : f = 5
      · rw [c5, c_sr_eq, if_pos rfl]
      · rw [c_sr_f c5, if_neg c5, rv1 f]
  · intro _ _
    exact ⟨fun c => absurd rfl c, fun _ => q0 (fun h => e h.2)⟩
end
