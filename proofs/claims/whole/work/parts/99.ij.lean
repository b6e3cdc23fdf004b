/-! ===== the class: takeCommit ===== -/
noncomputable section
/-- the own commit that waits -/
def c_pend (H : sw_H) (mk : List Wt) (m : Nat) (ms : List (List Wt)) (g5 : Nat) : Option (List Wt × w_G) → Prop
  | none => sw_iv H (120 + 54 * m) 6 = -1
  | some (lp, G') => (∃ pn : Nat, sw_iv H (120 + 54 * m) 6 = pn ∧ ms[pn]? = some lp) ∧ c_gp H mk g5 G'
/-- the own commit taken -/
def c_own (H : sw_H) (m g5 gm : Nat) (X : sw_H) (mm : List Wt) (G2 : w_G) : Prop := c_gp X mm g5 G2 ∧ (∀ f, sw_iv X (120 + 54 * m) f = if f = 3 then 1 else if f = 6 then -1 else if f = 9 then 0 else if f = 11 then 0 else sw_iv H (120 + 54 * m) f) ∧ (∀ f, sw_rv X (120 + 54 * m) f = if f = 5 then gm else if f = 4 then g5 else sw_rv H (120 + 54 * m) f) ∧ c_ch [120 + 54 * m] H X
variable {H Z X : sw_H} {nn g gm g5 r ra m l mi : Nat} {K S : Wt → Prop} {tl mk mm lm tp : List Wt} {cn cs N U M ep sd : Int} {P : Int → sw_H → Prop} {G : w_G} {cf sg tg : Wt} {A : List Nat} {Ul : List (Wt × Wt)} {b e1 : Nat} {es : List p_E} {pt : Option p_P} {C : List w_Ch} {ms : List (List Wt)} {rd : Nat → Int} {La : Nat → List (Wt × Nat)} {o : Option (Option w_G)} {pd : Option (List Wt × w_G)}
theorem c_tc_no43 (z : Int) (hz : z ≠ 0) (h : P z X) : wb_208_43 P 94 (120 + 54 * m) r z X := by
  unfold wb_208_43
  exact ⟨fun _ => c_tc_no z hz h, fun c => absurd c hz⟩
theorem c_tol_ch (h : c_tol H) (fl : c_full H) (ad : c_ads H) (c : c_ch A H Z) (hA : ∀ a ∈ A, 13 < a ∧ a < 17) : c_tol Z := ⟨c_Ch_ch h.1 fl ad c (fun cc => by have := hA _ cc; omega) (fun cc => by have := hA _ cc; omega), c_Pa_ch h.2.1 fl ad c (fun cc => by have := hA _ cc; omega), by rw [(c_fx_iv fl ad c (q := 91) (by unfold c_fix; omega) (fun cc => by have := hA _ cc; omega)).1]; exact h.2.2.1, c_Ta_ch h.2.2.2.1 fl ad c (fun cc => by have := hA _ cc; omega), c_Re_ch h.2.2.2.2 fl ad c (fun a ha => by have := hA a ha; omega)⟩
theorem c_pv_ch {v : p_P} (h : c_pv H mk v) (fl : c_full H) (ad : c_ads H) (c : c_ch A H Z) (hA : ∀ a ∈ A, a < 18 ∨ 43 < a) (hl : w_le mk mm) : c_pv Z mm v := by
  obtain ⟨⟨m, k, p, so, ph, g⟩, ns⟩ := v
  obtain ⟨⟨a1, a2⟩, a3, a4⟩ := h
  have v : ∀ a, 18 ≤ a → a ≤ 43 → ∀ f, sw_iv Z a f = sw_iv H a f := fun a h1 h2 => (c_fx_iv fl ad c (q := a) (by unfold c_fix; omega) (fun cc => by have := hA _ cc; omega)).1
  refine ⟨⟨c_lf_iv a1 (fun f _ => v 22 (by decide) (by decide) f) hl, by rw [v 22 (by decide) (by decide)]; exact w_le_at hl a2⟩, by rw [v 18 (by decide) (by decide)]; exact a3, fun i k s t hi hn => ?_⟩
  obtain ⟨x1, x2, x3⟩ := a4 i k s t hi hn
  rw [v 19 (by decide) (by decide), v 20 (by decide) (by decide), v 21 (by decide) (by decide)]
  exact ⟨w_le_at hl x1, x2, x3⟩
theorem c_cmv_ch (h : c_cmv H mk ep sd b e1 pt) (fl : c_full H) (ad : c_ads H) (c : c_ch A H Z) (hA : ∀ a ∈ A, a < 18 ∨ 43 < a) (hl : w_le mk mm) : c_cmv Z mm ep sd b e1 pt := by
  have v18 := (c_fx_iv fl ad c (q := 18) (by unfold c_fix; omega) (fun cc => by have := hA _ cc; omega)).1
  obtain ⟨h1, h2, h3, h4, h5⟩ := h
  refine ⟨by rw [v18]; exact h1, by rw [v18]; exact h2, by rw [v18]; exact h3, by rw [v18]; exact h4, ?_⟩
  cases pt with
  | none => exact (v18 11).trans h5
  | some v => exact c_pv_ch h5 fl ad c hA hl
theorem c_takeCommit (hm : m < 24) (lmm : c_lm cn cs N U M) (hb : c_bS S mk tl N U M) (hB : c_BS H mk nn K tl cn cs tp rd ms La) (htol : c_tol H) (t44 : sw_ty H 44 = 24) (hmi : ms[mi]? = some lm) (hr : r = sw_rv H 1416 mi) (hs : c_rs H mk r ra lm) (hcv : c_cmv H mk ep sd b e1 pt) (hcm : p_cm K lm ep sd b e1 es pt sg cf tg) (h01 : sw_iv H (120 + 54 * m) 3 = 0 ∨ sw_iv H (120 + 54 * m) 3 = 1) (h6 : sw_rv H 94 6 = g) (hpl : c_pl g) (hgs : c_gs H g) (hin : sw_iv H (120 + 54 * m) 3 = 1 → sw_rv H (120 + 54 * m) 4 = gm ∧ c_pl gm ∧ g ≠ gm ∧ c_gp H mk gm G ∧ sw_rv H (120 + 54 * m) 5 = g5 ∧ c_pl g5 ∧ sw_ty H g5 = 40 ∧ g_iv m G ∧ gg_lv G) (hma : c_ma H m) (hup : c_up H mk m Ul) (hkc : w_kc K ms (La m) C) (hkh : w_kh ms (La m)) (hUk : sw_iv H (120 + 54 * m) 3 = 1 → ∀ c ∈ C, c.1.1 = 2 → c.2.1 = (gg_lf G : Int) → (∃ v, (c.2.2, v) ∈ Ul) ∧ ∀ v, (c.2.2, v) ∈ Ul → (h_lf c).2.1 = w_p5 v) (hpd : sw_iv H (120 + 54 * m) 3 = 1 → c_pend H mk m ms g5 pd) (hx5 : w_x5 ms) (hz : w_at mk 1 w_z) (hS : sw_iv H (120 + 54 * m) 3 = 1 → ∀ v, d_dS K G C lm v → S v)
    (q : ∀ z o X mm, d_dcR K (sw_iv H (120 + 54 * m) 3 = 1) G C pd lm z o → w_mo S mk mm → c_bS S mm tl N U M → c_W X mm nn K tl cn cs → c_tol X → (c_daft H m g gm X mm o ∨ ∃ G2, o = some (some G2) ∧ c_own H m g5 gm X mm G2) → P z X) : wm_208 94 (120 + 54 * m) 1416 mi H P := by
  obtain ⟨hW, hX, hMS, hK⟩ := id hB
  have fl := hW.1.2.2.2.1
  have ad := hW.1.2.2.2.2
  have bm := c_bS_0 hb hW.1.1
  obtain ⟨hCh, hPa, h91, hTa, hRe⟩ := id htol
  obtain ⟨t94, r0, r1, r2, r3, r4, _⟩ := id hTa
  obtain ⟨g1, g2, g3, a', g4, g5', hsg0⟩ := hX.2.2.2.2.2 mi lm hmi
  rw [← hr] at g1 g2 hsg0
  have hsg := hs.2.2.2.1
  have era : ra = a' := by
    rw [← hsg.choose_spec.1.2.1, ← hsg0.choose_spec.1.2.1]
  subst era
  have ml : mi < ms.length := (List.getElem?_eq_some_iff.mp hmi).1
  have m300 := hX.2.2.2.2.1
  have l16 : sw_ln H 1416 = 300 := hX.1.2.2.2.2.2.2.2.2.2.2.2.2.2.2
  have vls := c_X_vl hW.1.1 hX
  have vlm := vls lm (List.mem_of_getElem? hmi)
  obtain ⟨p1, p2⟩ := c_pl_b hpl
  -- a refusal at once
  have no2 : (¬ sw_iv H (120 + 54 * m) 3 = 1 ∨ ep ≠ gg_ep G) → P 2 H := fun h => q 2 none H mk (Or.inr ⟨ep, sd, b, e1, es, pt, sg, cf, tg, hcm, Or.inl ⟨h, rfl, rfl⟩⟩) w_mo_refl hb hW htol (Or.inl ⟨hgs, fun _ => rfl, c_ch_refl _ _⟩)
  unfold wm_208
  refine ⟨by omega, by rw [l16]; omega, ?_⟩
  rw [Int.toNat_natCast, ← hr]
  refine ⟨hsg.choose_spec.1.1, ?_⟩
  intro q91 e91 v97 e97 _
  rw [e91]
  refine ⟨fun c => no2 (Or.inl (by omega)), fun c => ?_⟩
  have in1 : sw_iv H (120 + 54 * m) 3 = 1 := by omega
  have hS := hS in1
  obtain ⟨h4, hplm, hne, hgp, h5, hpl5, t5, hi, hlv⟩ := hin in1
  rw [r2]
  refine ⟨hs.1, ?_⟩
  intro q100 e100 v103 e103 _
  rw [e100, hcv.1] at e103
  rw [h4]
  refine ⟨hgp.1.2.2.1, ?_⟩
  intro q106 e106 v109 e109 _
  rw [e106, hgp.2.2.1] at e109
  refine ⟨fun c1 => ?_, fun c1 => no2 (Or.inr (by omega))⟩
  have eep : ep = gg_ep G := by omega
  have base : ∀ {z : Int} {o : Option (Option w_G)}, d_ep G C pd sd es pt lm sg cf tg z o → d_dcR K (sw_iv H (120 + 54 * m) 3 = 1) G C pd lm z o := fun {z o} h => Or.inr ⟨ep, sd, b, e1, es, pt, sg, cf, tg, hcm, Or.inr ⟨in1, eep, h⟩⟩
  refine ⟨hs.1, ?_⟩
  intro q112 e112 v115 e115 _
  rw [e112, hcv.2.1] at e115
  refine ⟨hgp.1.2.2.1, ?_⟩
  intro q118 e118 v121 e121 _
  rw [e118, hgp.2.2.2.1] at e121
  refine ⟨fun c2 => ?_, fun c2 => ?_⟩
  rotate_left
  · -- the own one
    have esd : sd = gg_lf G := by omega
    have pend := hpd in1
    have tolm : ∀ {X : sw_H}, c_ch [120 + 54 * m] H X → c_tol X := fun {X} c => ⟨c_Ch_ch hCh fl ad c (by simp <;> omega) (by simp <;> omega), c_Pa_ch hPa fl ad c (fun cc => by simp at cc; omega), by rw [(c_fx_iv fl ad c (q := 91) (by unfold c_fix; omega) (by simp <;> omega)).1]; exact h91, c_Ta_ch hTa fl ad c (fun cc => by simp at cc; omega), c_Re_ch hRe fl ad c (fun a ha => by simp at ha; omega)⟩
    cases pd with
    | none =>
      have pend : sw_iv H (120 + 54 * m) 6 = -1 := pend
      refine c_takeOwn (lp := []) hm hW hX h4 h5 hgp.1.2.2.1 t5 hmi hr (Or.inl pend) (fun X c => absurd pend c) (fun _ => ?_)
      intro _ _
      exact q 3 none H mk (base (Or.inl ⟨esd, Or.inr ⟨fun G' h => (by cases h), rfl, rfl⟩⟩)) w_mo_refl hb hW htol (Or.inl ⟨hgs, fun _ => rfl, c_ch_refl _ _⟩)
    | some pp =>
      obtain ⟨lp, G'⟩ := pp
      obtain ⟨⟨pn, pe, pmn⟩, pgp⟩ := pend
      refine c_takeOwn (lp := lp) hm hW hX h4 h5 hgp.1.2.2.1 t5 hmi hr (Or.inr ⟨pn, pe, pmn⟩) (fun X _ elp WX iX rX cX => ?_) (fun hn => ?_)
      · intro _ _
        obtain ⟨y1, y2⟩ := c_pl_b hpl5
        have ym := c_pl_m hpl5 hm
        exact q 0 (some (some G')) X mk (base (Or.inl ⟨esd, Or.inl ⟨G', by rw [elp], rfl, rfl⟩⟩)) w_mo_refl hb WX (tolm cX) (Or.inr ⟨G', rfl, c_gp_ch pgp fl ad cX (fun a ha => by simp at ha; omega) (w_le_refl _), iX, rX, cX⟩)
      · intro _ _
        refine q 3 none H mk (base (Or.inl ⟨esd, Or.inr ⟨fun G2 h => hn ⟨by omega, ?_⟩, rfl, rfl⟩⟩)) w_mo_refl hb hW htol (Or.inl ⟨hgs, fun _ => rfl, c_ch_refl _ _⟩)
        have h := Option.some.inj h
        rw [Prod.mk.injEq] at h
        exact h.1
  -- another's
  have esd : sd ≠ gg_lf G := by omega
  obtain ⟨p3, p4⟩ := c_pl_b hplm
  refine ⟨hgp.1.2.2.1, ?_⟩
  intro q124 e124
  rw [e124]
  have s7 : S (w_mem G) := hS _ (Or.inl rfl)
  refine c_checkSender (g := gm) (G' := G) lmm bm hW hTa hs (by omega) vlm g3 hcm hcv.2.1 hplm hgp (fun z1 m1 X1 hsn hm1 W1 C1 => ?_)
  intro _ _
  have mo1 : w_mo S mk m1 := by
    rcases hm1 with e | e
    · rw [e]; exact w_mo_refl
    · rw [e]; exact w_mo_tl s7
  have b1 : c_bS S m1 tl N U M := c_bS_mo hb mo1
  have in14 : ∀ a ∈ [14, 15], 13 < a ∧ a < 17 := fun a ha => by simp at ha; omega
  have tol1 := c_tol_ch htol fl ad C1 in14
  have d1 : ∀ {X : sw_H} {mm : List Wt} {o : Option (Option w_G)}, c_daft X1 m g gm X mm o → c_daft H m g gm X mm o := fun {X mm o} d => c_daft_tr hm hpl fl ad C1 (fun a ha => by have := in14 a ha; omega) d
  have gs1 := c_gs_ch hgs fl ad C1 (fun a ha hn => by have := in14 a ha; omega) (fun cc => by have := in14 _ cc; omega)
  have no : ∀ {z : Int}, z ≠ 0 → d_ep G C pd sd es pt lm sg cf tg z none → P z X1 := fun {z} _ h => q z none X1 m1 (base h) mo1 b1 W1 tol1 (Or.inl (d1 ⟨gs1, fun _ => rfl, c_ch_refl _ _⟩))
  have hsd := p_16_sl vlm (Nat.le_refl _) hcm.2.2.2.1
  obtain ⟨l, el⟩ : ∃ l : Nat, sd = l := ⟨sd.toNat, by have := hsd.2.1; omega⟩
  subst el
  rcases hsn with ⟨nh, ez⟩ | ⟨hh, hsn⟩
  · subst ez
    refine ⟨fun _ => c_tc_no43 3 (by decide) (no (by decide) (Or.inr ⟨esd, Or.inl ⟨fun h => nh ⟨by omega, h.1, h.2.1⟩, rfl, rfl⟩⟩)), fun c => absurd c (by decide)⟩
  have wsd : w_sd G l := ⟨hh.2.1, hh.2.2, esd⟩
  rcases hsn with ⟨ns, ez⟩ | ⟨sok, hsn⟩
  · subst ez
    refine ⟨fun _ => c_tc_no43 4 (by decide) (no (by decide) (Or.inr ⟨esd, Or.inr ⟨wsd, Or.inl ⟨ns, rfl, rfl⟩⟩⟩)), fun c => absurd c (by decide)⟩
  rcases hsn with ⟨nt, ez⟩ | ⟨ct, ez⟩
  · subst ez
    refine ⟨fun _ => c_tc_no43 5 (by decide) (no (by decide) (Or.inr ⟨esd, Or.inr ⟨wsd, Or.inr ⟨sok, Or.inl ⟨nt, rfl, rfl⟩⟩⟩⟩)), fun c => absurd c (by decide)⟩
  subst ez
  refine ⟨fun c => absurd rfl c, fun _ => ?_⟩
  have base2 : ∀ {z : Int} {o : Option (Option w_G)}, d_chg G C l es pt lm cf z o → d_dcR K (sw_iv H (120 + 54 * m) 3 = 1) G C pd lm z o := fun {z o} h => base (Or.inr ⟨esd, Or.inr ⟨wsd, Or.inr ⟨sok, Or.inr ⟨ct, by rw [Int.toNat_natCast]; exact h⟩⟩⟩⟩)
  have B1 := c_BS_ch hB W1 C1 mo1.1 (fun a ha => by have := in14 a ha; unfold c_hl; omega)
  have gp1 := c_gp_ch hgp fl ad C1 (fun a ha => by have := in14 a ha; omega) mo1.1
  have vm := c_fx_iv fl ad C1 (q := 120 + 54 * m) (by unfold c_fix; omega) (by simp <;> omega)
  have v94 := c_fx_iv fl ad C1 (q := 94) (by unfold c_fix; omega) (by simp)
  have v1416 := c_fx_iv fl ad C1 (q := 1416) (by unfold c_fix; omega) (by simp)
  have tyf : ∀ a, c_fix a → sw_ty X1 a = sw_ty H a ∧ sw_ln X1 a = sw_ln H a := fun a hf => c_fx_ty fl C1 hf
  have cmv1 := c_cmv_ch hcv fl ad C1 (fun a ha => by have := in14 a ha; omega) mo1.1
  have d16 := t_d_16 hi.2.2.2.2.2.1
  have hl2 := hh.2.1
  have hl16 : l < 16 := by omega
  have fl1 := W1.1.2.2.2.1
  have ad1 := W1.1.2.2.2.2
  have t44' : sw_ty X1 44 = 24 := by rw [(tyf 44 (by unfold c_fix; omega)).1]; exact t44
  have h18' : sw_ty X1 18 = 72 := by rw [(tyf 18 (by unfold c_fix; omega)).1]; exact hs.1
  have tca1 : c_tca X1 m1 nn K tl cn cs m g gm r ra lm G Ul := c_tca_ch hm hpl hplm hne ⟨g1, g4⟩ ⟨hW, hTa, h6, hgs, h4, hgp, hma, hup, hsg, ⟨g2, g5'⟩, hs.1⟩ W1 C1 mo1.1 (c_gs_ch hgs fl ad C1 (fun a ha hn => by have := in14 a ha; omega) (fun cc => by have := in14 _ cc; omega)) (fun a ha => by have := in14 a ha; omega)
  have tolg : ∀ {J : sw_H}, c_Ch J → c_ch c_Ag X1 J → c_tol J := fun {J} hc c => ⟨hc, c_Pa_ch tol1.2.1 fl1 ad1 c (fun cc => by rw [c_Ag_m] at cc; omega), by rw [(c_fx_iv fl1 ad1 c (q := 91) (by unfold c_fix; omega) (fun cc => by rw [c_Ag_m] at cc; omega)).1]; exact tol1.2.2.1, c_Ta_ch tol1.2.2.2.1 fl1 ad1 c (fun cc => by rw [c_Ag_m] at cc; omega), c_Re_ch tol1.2.2.2.2 fl1 ad1 c (fun a ha => by rw [c_Ag_m] at ha; omega)⟩
  have gsg : ∀ {J : sw_H}, c_ch c_Ag X1 J → c_gs J g := fun {J} c => c_gs_ch tca1.2.2.2.1 fl1 ad1 c (fun a ha hn => by rw [c_Ag_m] at ha; omega) (fun cc => by rw [c_Ag_m] at cc; omega)
  have dg : ∀ {J X : sw_H} {mm : List Wt} {o : Option (Option w_G)}, c_ch c_Ag X1 J → c_daft J m g gm X mm o → c_daft H m g gm X mm o := fun {J X mm o} c d => d1 (c_daft_tr hm hpl fl1 ad1 c (fun a ha => by rw [c_Ag_m] at ha; omega) d)
  refine c_readChanges (G' := G) (C := C) hm lmm (c_bS_0 b1 W1.1.1) hkc hkh vls hlv hplm B1 gp1 (by rw [vm.2]; exact h4) t44' tol1.1 tol1.2.2.2.1 h18' hmi (by rw [v1416.2]; exact hr) hcm cmv1.2.1 cmv1.2.2.1 cmv1.2.2.2.1 hl16 (fun J y1 y2 y3 y4 => ?_) (fun J y1 y2 y3 y4 y5 => ?_) (fun J y1 y2 y3 y4 y5 y6 y7 => ?_)
  · intro _ _
    exact c_tc_no43 6 (by decide) (q 6 none J m1 (base2 (Or.inl ⟨y1, rfl, rfl⟩)) mo1 b1 y2.1 (tolg y3 y4) (Or.inl (dg y4 ⟨gsg y4, fun _ => rfl, c_ch_refl _ _⟩)))
  · intro _ _
    exact c_tc_no43 7 (by decide) (q 7 none J m1 (base2 (Or.inr ⟨y1, Or.inl ⟨y2, rfl, rfl⟩⟩)) mo1 b1 y3.1 (tolg y4 y5) (Or.inl (dg y5 ⟨gsg y5, fun _ => rfl, c_ch_refl _ _⟩)))
  · intro _ _
    have tJ := tolg y4.1 y7
    have flJ := y3.1.1.2.2.2.1
    have tcaJ := c_tca_ch hm hpl hplm hne ⟨g1, g4⟩ tca1 y3.1 y7 (w_le_refl _) (c_gs_ch tca1.2.2.2.1 fl1 ad1 y7 (fun a ha hn => by rw [c_Ag_m] at ha; omega) (fun cc => by rw [c_Ag_m] at cc; omega)) (fun a ha => by rw [c_Ag_m] at ha; omega)
    have hokL := d_L_ok vlm (w_kc_ok vls hkc) hcm y1
    refine c_tc_43 (L := d_L C l es) (S := S) (cf := cf) (pt := pt) (ms := ms) hm lmm b1 hpl hplm hne ⟨g1, g4⟩ tcaJ y4 y5 y6 (by rw [(c_fx_ty fl1 y7 (q := 44) (by unfold c_fix; omega)).1]; exact t44') tJ.2.1 tJ.2.2.1 tJ.2.2.2.2 (c_cmv_ch cmv1 fl1 ad1 y7 (fun a ha => by rw [c_Ag_m] at ha; omega) (w_le_refl _)) hcm vlm g3 hi hlv y2 hokL (d_L_5 (hx5 lm (List.mem_of_getElem? hmi)) (w_kc_5 hx5 hkc) hcm y1) (hx5 lm (List.mem_of_getElem? hmi)) (fun e => esd (by omega)) ⟨by omega, by have := hh.2.2; rw [Int.toNat_natCast] at this; exact this⟩ (fun c hc c2 cg => ?_) (w_le_at mo1.1 hz) (fun v hv => hS v (Or.inr ⟨ep, l, b, e1, es, pt, sg, cf, tg, hcm, sok, wsd, by rw [Int.toNat_natCast]; exact ⟨y2, hokL, hv⟩⟩)) (fun z o X mm hf mo bX WX tX dX => ?_)
    · have e2 : h_go c = c.2.1 := by
        unfold h_go
        rw [if_neg (by omega), if_pos c2]
      rcases d_L_in y1 hc with ⟨x, _, _, rfl⟩ | h
      · rw [e2] at cg
        have cg : (l : Int) = gg_lf G := cg
        exact absurd cg esd
      · exact hUk in1 c h c2 (by rw [← e2]; exact cg)
    · exact q z o X mm (base2 (Or.inr ⟨y1, Or.inr ⟨y2, hf⟩⟩)) (w_mo_trans mo1 mo) bX WX tX (Or.inl (dg y7 dX))
end
