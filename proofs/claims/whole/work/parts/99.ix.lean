/-! ===== the class: takeWelcome ===== -/
noncomputable section
def c_Awe (g : Nat) : List Nat := 14 :: 15 :: 16 :: 17 :: 95 :: c_Agr g
theorem c_Awe_m {g a : Nat} : a ∈ c_Awe g ↔ (14 ≤ a ∧ a ≤ 17) ∨ a = 95 ∨ (g ≤ a ∧ a ≤ g + 22) := by
  unfold c_Awe
  simp only [List.mem_cons, c_Agr_m]
  omega
/-- what becomes of the class -/
def c_waft (H : sw_H) (ms : List (List Wt)) (m g gm : Nat) (L : List (Nat × Wt × Wt)) (X : sw_H) (mm : List Wt) : Option (w_G × Nat) → Prop
  | none => c_gs X g ∧ c_ch (c_Awe g) H X
  | some (G2, i) => c_gp X mm g G2 ∧ (∀ f, f ≠ 16 → sw_iv X (120 + 54 * m) f = if f = 3 then 1 else if f = 6 then -1 else if f = 9 then 0 else if f = 11 then 0 else sw_iv H (120 + 54 * m) f) ∧ (∀ f, sw_rv X (120 + 54 * m) f = if f = 4 then g else sw_rv H (120 + 54 * m) f) ∧ (∀ f, sw_rv X 94 f = if f = 6 then gm else sw_rv H 94 f) ∧ c_pk X mm ms m (L.eraseIdx i) ∧ c_ch ((120 + 54 * m) :: 94 :: (c_Adp m ++ c_Awe g)) H X
/-- SEALED in a message are for PUBLIC keys -/
def w_x6 (lm : List Wt) : Prop := ∀ w ∈ lm, ∀ a b c L, w = w_t 6 a b c L → w_i5 a
variable {H Z X : sw_H} {nn g gm r ra m mi b e1 : Nat} {K S : Wt → Prop} {tl mk mm lm tp : List Wt} {cn cs N U M ep sd : Int} {P : Int → sw_H → Prop} {cf cm sg th : Wt} {A : List Nat} {ms : List (List Wt)} {rd : Nat → Int} {La : Nat → List (Wt × Nat)} {L : List (Nat × Wt × Wt)} {Pt : List (List Wt × Wt × Wt)} {prs : List (Wt × Wt)} {ns : List p_V} {T : w_T} {f : p_L} {l : Nat}
theorem c_Awe_n {a : Nat} (hm : m < 24) (hpl : c_pl g) (h : a ∈ c_Awe g) : a ≠ 120 + 54 * m ∧ (a < 120 + 54 * m + 50 ∨ 120 + 54 * m + 53 < a) := by
  have pm := c_pl_m hpl hm
  have pa50 := c_pl_a hpl hm (k := 50) (by decide) (by decide)
  have pa51 := c_pl_a hpl hm (k := 51) (by decide) (by decide)
  have pa52 := c_pl_a hpl hm (k := 52) (by decide) (by decide)
  have pa53 := c_pl_a hpl hm (k := 53) (by decide) (by decide)
  rw [c_Awe_m] at h
  omega
theorem c_Adp_n {a : Nat} (hm : m < 24) (hpl : c_pl g) (h : a = 120 + 54 * m ∨ (120 + 54 * m + 50 ≤ a ∧ a ≤ 120 + 54 * m + 53)) : a < g ∨ g + 22 < a := by
  have pm := c_pl_m hpl hm
  have pa50 := c_pl_a hpl hm (k := 50) (by decide) (by decide)
  have pa51 := c_pl_a hpl hm (k := 51) (by decide) (by decide)
  have pa52 := c_pl_a hpl hm (k := 52) (by decide) (by decide)
  have pa53 := c_pl_a hpl hm (k := 53) (by decide) (by decide)
  omega
theorem c_pk_ch (hm : m < 24) (h : c_pk H mk ms m L) (fl : c_full H) (ad : c_ads H) (c : c_ch A H Z) (hl : w_le mk mm) (hA : ∀ a ∈ A, a ≠ 120 + 54 * m ∧ (a < 120 + 54 * m + 50 ∨ 120 + 54 * m + 53 < a)) : c_pk Z mm ms m L := by
  have v : ∀ j, j = 0 ∨ (50 ≤ j ∧ j ≤ 53) → ∀ f, sw_iv Z (120 + 54 * m + j) f = sw_iv H (120 + 54 * m + j) f := fun j hj => (c_fx_iv fl ad c (q := 120 + 54 * m + j) (by unfold c_fix; omega) (fun cc => by have := hA _ cc; omega)).1
  obtain ⟨p1, p2, p3⟩ := h
  refine ⟨by have := v 0 (by omega) 16; rw [Nat.add_zero] at this; rw [this]; exact p1, p2, fun i k u w hi => ?_⟩
  obtain ⟨a1, a2, a3, p, a4, a5⟩ := p3 i k u w hi
  rw [v 50 (by omega), v 51 (by omega), v 52 (by omega), v 53 (by omega)]
  exact ⟨a1, w_le_at hl a2, w_le_at hl a3, p, a4, w_le_at hl a5⟩
/-- a PACKAGE's leaf in a tree -/
theorem t_fl1_iff (hok : t_ok T) (h1 : f.2.2.2.1 = 1) (h2 : f.2.2.2.2.1 = []) (hl : t_is T l) : t_lfa T l = f ↔ t_fl1 T f l := by
  obtain ⟨f1, f2, f3, f4, f5, f6⟩ := f
  have h1 : f4 = 1 := h1
  have h2 : f5 = [] := h2
  have lw := (t_lf_w T l).mpr hl.1
  unfold t_lfa t_fl1
  constructor
  · intro e
    rw [Prod.mk.injEq, Prod.mk.injEq, Prod.mk.injEq, Prod.mk.injEq, Prod.mk.injEq] at e
    obtain ⟨e1, e2, e3, e4, e5, e6⟩ := e
    exact ⟨hl, e1, e2, e3, e4.trans h1, e6⟩
  · rintro ⟨_, e1, e2, e3, e4, e6⟩
    have e5 : t_ph T (2 * l) = [] := (hok.2.2 l lw hl.2).2.2.2.2 (by rw [e4]; decide)
    have e1 : t_ow T l = f1 := e1
    have e2 : t_ky T (2 * l) = f2 := e2
    have e3 : t_sk T l = f3 := e3
    have e6 : t_sg T l = f6 := e6
    rw [e1, e2, e3, e4, e5, e6, h1, h2]
theorem e_isP_lf {p : List Wt} {ik g0 : Wt} (hv : w_vl p) (h : w_isP K p (ik, f, g0)) : (∃ s, p_lf K 1 p (some (2, p.length)) = some (f, s)) ∧ f.2.2.2.1 = 1 ∧ f.2.2.2.2.1 = [] := by
  obtain ⟨h1, h2⟩ := h
  have hs := (p_pk_ix h2).2.2.2.2.1
  obtain ⟨ok, hso⟩ := p_lf_ok hv (Nat.le_refl _) hs
  have hso := hso (by decide)
  exact ⟨⟨_, hs⟩, hso, ok.2.2.2.2.1 (by rw [hso]; decide)⟩
theorem e_find_u {k i k' i' : Nat} {pr pr' : Wt × Wt} {e e' : List Wt × Wt × Wt} (h : e_find Pt prs k i pr e) (hi : Pt[i']? = some e') (he : pr.1 = w_t 1 [] [] [] e'.1) (hn : ∀ (j : Nat) e2, j < i' → Pt[j]? = some e2 → pr.1 ≠ w_t 1 [] [] [] e2.1) : i' = i := by
  obtain ⟨_, h2, h3, _, h5⟩ := h
  rcases Nat.lt_trichotomy i' i with g | g | g
  · exact absurd he (h5 i' e' g hi)
  · exact g
  · exact absurd h3 (hn i e g h2)
theorem c_takeWelcome (hm : m < 24) (lmm : c_lm cn cs N U M) (hb : c_bS S mk tl N U M) (hB : c_BS H mk nn K tl cn cs tp rd ms La) (hTa : c_Ta H) (hRe : c_Re H) (hmi : ms[mi]? = some lm) (hr : r = sw_rv H 1416 mi) (hs : c_rs H mk r ra lm) (hwv : c_wev H mk ep sd b e1 ns) (hwe : p_we K lm ep b e1 prs th cf sd ns cm sg) (h01 : sw_iv H (120 + 54 * m) 3 = 0 ∨ sw_iv H (120 + 54 * m) 3 = 1) (h6 : sw_rv H 94 6 = g) (hpl : c_pl g) (hgs : c_gs H g) (h4 : sw_rv H (120 + 54 * m) 4 = gm) (t4 : sw_ty H gm = 40) (hma : c_ma H m) (hP : c_pk H mk ms m L) (hpt : w_pt ms L Pt) (hpi : w_pki K m Pt) (hx5 : w_x5 ms) (hx6 : w_x6 lm) (hS : ∀ v, e_wS K Pt lm v → S v)
    (q : ∀ z o X mm, e_weR K (sw_iv H (120 + 54 * m) 3 = 1) Pt lm z o → w_mo S mk mm → c_bS S mm tl N U M → c_W X mm nn K tl cn cs → c_waft H ms m g gm L X mm o → P z X) : wm_209 94 (120 + 54 * m) 1416 mi H P := by
  obtain ⟨hW, hX, hMS, hK⟩ := id hB
  have fl := hW.1.2.2.2.1
  have ad := hW.1.2.2.2.2
  obtain ⟨t94, r0, r1, r2, r3, r4, r5, t95⟩ := id hTa
  obtain ⟨g1, g2, g3, a', g4, g5, hsg0⟩ := hX.2.2.2.2.2 mi lm hmi
  rw [← hr] at g1 g2 hsg0
  have hsg := hs.2.2.2.1
  have era : ra = a' := by
    rw [← hsg.choose_spec.1.2.1, ← hsg0.choose_spec.1.2.1]
  subst era
  have ml : mi < ms.length := (List.getElem?_eq_some_iff.mp hmi).1
  have m300 := hX.2.2.2.2.1
  have l16 : sw_ln H 1416 = 300 := hX.1.2.2.2.2.2.2.2.2.2.2.2.2.2.2
  have vls := c_X_vl hW.1.1 hX
  have vlm := vls lm (List.mem_of_getElem? hmi)
  obtain ⟨p1, p2⟩ := c_pl_b hpl
  have pm := c_pl_m hpl hm
  have pa50 := c_pl_a hpl hm (k := 50) (by decide) (by decide)
  have pa51 := c_pl_a hpl hm (k := 51) (by decide) (by decide)
  have pa52 := c_pl_a hpl hm (k := 52) (by decide) (by decide)
  have pa53 := c_pl_a hpl hm (k := 53) (by decide) (by decide)
  obtain ⟨i6, i7, i9, i10, hT⟩ := hwv
  obtain ⟨T, eT⟩ : ∃ T, T = t_of ns := ⟨_, rfl⟩
  rw [← eT] at hT
  have base : ∀ {z : Int} {o : Option (w_G × Nat)}, ((sw_iv H (120 + 54 * m) 3 = 1 ∧ z = 2 ∧ o = none) ∨ (¬ sw_iv H (120 + 54 * m) 3 = 1 ∧ ((e_none Pt prs ∧ z = 13 ∧ o = none) ∨ ∃ k i pr e, e_find Pt prs k i pr e ∧ e_w2 K lm e1 sg th T ep sd i cf cm pr e z o))) → e_weR K (sw_iv H (120 + 54 * m) 3 = 1) Pt lm z o := fun {z o} h => Or.inr ⟨ep, b, e1, prs, th, cf, sd, ns, cm, sg, hwe, by rw [← eT]; exact h⟩
  obtain ⟨he1, hel, hprs⟩ := p_we_hs hwe
  have h0 : c_waft H ms m g gm L H mk none := ⟨hgs, c_ch_refl _ _⟩
  unfold wm_209
  refine ⟨by omega, by rw [l16]; omega, ?_⟩
  rw [Int.toNat_natCast, ← hr]
  refine ⟨hsg.choose_spec.1.1, ?_⟩
  intro q1 e1' v7 e7 _
  rw [e1']
  refine ⟨fun c => ?_, fun c => q 2 none H mk (base (Or.inl ⟨by omega, rfl, rfl⟩)) w_mo_refl hb hW h0⟩
  have nin : ¬ sw_iv H (120 + 54 * m) 3 = 1 := by omega
  refine c_placeInWelcome (Pt := Pt) (prs := prs) hW.1.1 hTa hs.1 i9 i10 hma hP hpt hsg he1 (by omega) g3 (fun k pr hk => ⟨(hprs k pr hk).1, (hprs k pr hk).2.1⟩) (fun kq i pr e hfd => ?_) (fun hno => ?_)
  rotate_left
  · intro _ _
    exact ⟨fun c => absurd rfl c, fun _ => q 13 none H mk (base (Or.inr ⟨nin, Or.inl ⟨hno, rfl, rfl⟩⟩)) w_mo_refl hb hW h0⟩
  intro _ _
  refine ⟨fun _ => ?_, fun c => by omega⟩
  obtain ⟨hk, hpti, hhash, _, _⟩ := id hfd
  obtain ⟨tx, u, v⟩ := e
  obtain ⟨y1, y2, y3, y4, y5, y6⟩ := hprs kq pr hk
  have il : i < L.length := by have := (List.getElem?_eq_some_iff.mp hpti).1; have := hpt.1; omega
  have p8 := hP.2.1
  obtain ⟨⟨kk, u', v'⟩, hLi⟩ : ∃ x, L[i]? = some x := ⟨_, List.getElem?_eq_getElem il⟩
  obtain ⟨tx', hkk, hpti'⟩ := hpt.2 i kk u' v' hLi
  have ee : (tx', u', v') = (tx, u, v) := Option.some.inj (hpti'.symm.trans hpti)
  rw [Prod.mk.injEq, Prod.mk.injEq] at ee
  obtain ⟨d1, d2, d3⟩ := ee
  rw [d1] at hkk
  rw [d2, d3] at hLi
  clear d1 d2 d3 hpti'
  obtain ⟨ik, f, g0, hisP, hf1, hf2⟩ := hpi _ (List.mem_of_getElem? hpti)
  have hf2 : f.2.1 = w_p5 v := hf2
  have hisP : w_isP K tx (ik, f, g0) := hisP
  refine c_s_termAt hW.1.1.2.1 hsg y1 (by rw [y2]; decide) (fun z21 a21 => ?_)
  intro _ _
  refine c_indexOfPackage hW.1.1 hma hP hpt a21 (fun i' e' b1 b2 b3 => ?_) (fun b1 => absurd hhash (b1 _ (List.mem_of_getElem? hpti)))
  have ei : i' = i := e_find_u (k' := 0) (i' := i') (pr' := pr) hfd b1 b2 b3
  subst ei
  intro _ _
  rw [sw_s1 (by omega)]
  refine c_s_termAt hW.1.1.2.1 hsg y3 (by rw [y4]; decide) (fun z34 a34 => ?_)
  intro _ _
  obtain ⟨a, jn, sc, L', epr⟩ := c_seal hW.1.1 a34 y4
  have a34' := a34
  rw [epr] at a34'
  obtain ⟨pt1, _, _⟩ := c_parts hW.1.1 a34' (by decide)
  have ane := c_seal_a hW.1.1 a34'
  obtain ⟨a0, ea0⟩ := hx6 _ (List.mem_of_getElem? y3) a jn sc L' epr
  obtain ⟨le1, le2⟩ := w_at_le a34
  have ev : ((z34.toNat : Nat) : Int) = z34 := by omega
  rw [r0]
  refine ⟨(c_V_sh hW.1).1.1, ?_⟩
  intro q39 e39
  refine ⟨(c_V_sh hW.1).1.1, ?_⟩
  intro q42 e42
  rw [e42, e39, ← ev]
  refine c_firstOf (c_V_sh hW.1) (by rw [hW.1.1.2.1]; omega) (fun _ _ => ?_)
  have wa := w_az_at pt1 ane
  rw [ea0] at wa
  obtain ⟨pq1, _, _⟩ := c_parts hW.1.1 wa (by decide)
  obtain ⟨le3, le4⟩ := w_at_le wa
  have ev2 : (((c_d H z34.toNat 1).toNat : Nat) : Int) = c_d H z34.toNat 1 := by omega
  rw [← ev2]
  refine c_firstOf (c_V_sh hW.1) (by rw [hW.1.1.2.1]; omega) (fun _ _ => ?_)
  obtain ⟨_, a12, a13, a14, a15, _, aty⟩ := id hma
  rw [a14]
  refine ⟨(aty 52 (by decide) (by decide)).1, ?_⟩
  intro q55 e55
  rw [e55]
  refine ⟨by omega, by rw [(aty 52 (by decide) (by decide)).2]; omega, ?_⟩
  intro v58 e58 _
  obtain ⟨pk1, pk2, pk3, _⟩ := hP.2.2 i' kk u v hLi
  rw [Int.toNat_natCast] at e58
  rw [← e58] at pk2
  have iffu := c_az_iff hW.1.1 pq1 (Or.inr pk2)
  have W2 : ∀ {z : Int} {o : Option (w_G × Nat)}, ((a ≠ w_p5 u ∧ z = 13 ∧ o = none) ∨ (a = w_p5 u ∧ e_w3 lm e1 sg th T ep f sd i' cf cm jn v sc z o)) → e_weR K (sw_iv H (120 + 54 * m) 3 = 1) Pt lm z o := fun {z o} h => base (Or.inr ⟨nin, Or.inr ⟨kq, i', pr, (tx, u, v), hfd, a, jn, sc, L', ik, f, g0, epr, hisP, h⟩⟩)
  refine ⟨fun c3 => ?_, fun c3 => q 13 none H mk (W2 (Or.inl ⟨fun e => c3 (iffu.mpr ?_), rfl, rfl⟩)) w_mo_refl hb hW h0⟩
  rotate_left
  · rw [ea0] at e
    exact w_p5_inj (a := a0) (b := u) e
  have ea : a = w_p5 u := by rw [ea0, iffu.mp c3]; rfl
  have W3 : ∀ {z : Int} {o : Option (w_G × Nat)}, e_w3 lm e1 sg th T ep f sd i' cf cm jn v sc z o → e_weR K (sw_iv H (120 + 54 * m) 3 = 1) Pt lm z o := fun {z o} h => W2 (Or.inr ⟨ea, h⟩)
  have h4d := hT.2.1.1
  have d16 := t_d_16 h4d
  have w31 := t_w_4 h4d
  obtain ⟨tp1, tp2, tp3⟩ := t_top_h h4d
  have SW : ∀ {v : Wt}, _ → S v := fun {v} h => hS v (Or.inr ⟨ep, b, e1, prs, th, cf, sd, ns, cm, sg, hwe, h⟩)
  rw [← eT] at SW
  have S1 : ∀ y ∈ w_ordk (w_h (t_top T)) (t_top T) (w_h (t_top T) + 1) 0, S (w_th T 0 y) := fun y hy => SW (Or.inl ⟨y, hy, rfl⟩)
  rw [r2]
  refine ⟨hs.1, ?_⟩
  intro q61 e61
  rw [e61, hRe.1.2.2.2.2]
  refine ⟨hT.1.2.2.1, ?_⟩
  intro q64 e64
  rw [r1]
  refine ⟨hW.2.1.1, ?_⟩
  intro q70 e70
  rw [e64, e70]
  refine c_topX hT ?_
  intro _ _
  have etp : t_top T = 2 ^ t_dp T - 1 := rfl
  rw [← etp]
  refine c_treeHashS (S := S) lmm hb tp2 tp3 hW hT (by unfold sw_c; omega) S1 (fun z81 A1 m1 mo1 b1 W1 at1 C1 => ?_)
  intro _ _
  have fx : ∀ {A : List Nat} {Z : sw_H} (c : c_ch A H Z) (q : Nat), c_fix q → q ∉ A → (∀ f, sw_iv Z q f = sw_iv H q f) ∧ ∀ f, sw_rv Z q f = sw_rv H q f := fun {A Z} c q h1 h2 => c_fx_iv fl ad c h1 h2
  have up1 : c_ch (c_Awe g) H A1 := c_ch_sub C1 (fun a ha => by rw [c_Awe_m]; simp at ha; omega)
  have nA : ∀ q, (17 < q ∧ q < 95) ∨ (q = 120 + 54 * m ∨ (120 + 54 * m + 50 ≤ q ∧ q ≤ 120 + 54 * m + 53)) ∨ 1416 ≤ q → q ∉ c_Awe g := fun q hq cc => by rw [c_Awe_m] at cc; omega
  have gsw : ∀ {Z : sw_H}, c_ch (c_Awe g) H Z → c_gs Z g → c_waft H ms m g gm L Z [] none := fun {Z} c h => ⟨h, c⟩
  obtain ⟨sg1, o1⟩ := c_sg_far hW W1 hsg C1 mo1.1 ⟨g2, g5⟩ ⟨by simp <;> omega, by simp <;> omega⟩
  have gs1 := c_gs_ch hgs fl ad C1 (fun a ha hn => by simp at ha; omega) (fun cc => by simp at cc; omega)
  have v94 := fx up1 94 (by unfold c_fix; omega) (nA _ (by omega))
  have v18 := fx up1 18 (by unfold c_fix; omega) (nA _ (by omega))
  rw [v94.2 2, r2]
  refine ⟨by rw [(c_fx_ty fl up1 (q := 18) (by unfold c_fix; omega)).1]; exact hs.1, ?_⟩
  intro q83 e83 v86 e86 _
  rw [e83, v18.1 10, i10] at e86
  have ix : sw_w (v86 + 4) = ((e1 + 4 : Nat) : Int) := by rw [e86, sw_w_s (by omega) (by omega)]; omega
  rw [ix]
  clear ix
  have hth := hwe.2.2.2.2.1
  refine c_s_termAt W1.1.1.2.1 sg1 (p_t_sl (Nat.le_refl _) hth) (by rw [(p_t_in hth).2.2.2.1]; decide) (fun z92 a92 => ?_)
  intro _ _
  have iffh := c_az_iff W1.1.1 (Or.inr at1) (Or.inr a92)
  refine ⟨fun c4 => ?_, fun c4 => q 14 none A1 m1 (W3 (Or.inl ⟨fun e => c4 (iffh.mpr e), rfl, rfl⟩)) mo1 b1 W1 ⟨gs1, up1⟩⟩
  have eth : w_th T 0 (t_top T) = th := iffh.mp c4
  -- the leaf of the PACKAGE
  rw [v94.2 5, r5]
  refine ⟨by rw [(c_fx_ty fl up1 (q := 95) (by unfold c_fix; omega)).1]; exact t95, ?_⟩
  intro q94 e94
  have vm := fx up1 (120 + 54 * m) (by unfold c_fix; omega) (nA _ (by omega))
  have v50 := fx up1 (120 + 54 * m + 50) (by unfold c_fix; omega) (nA _ (by omega))
  have v1416 := fx up1 1416 (by unfold c_fix; omega) (nA _ (by omega))
  rw [vm.2 12, a12]
  refine ⟨by rw [(c_fx_ty fl up1 (q := 120 + 54 * m + 50) (by unfold c_fix; omega)).1]; exact (aty 50 (by decide) (by decide)).1, ?_⟩
  intro q97 e97
  rw [e97, (c_fx_ty fl up1 (q := 120 + 54 * m + 50) (by unfold c_fix; omega)).2]
  refine ⟨by omega, by rw [(aty 50 (by decide) (by decide)).2]; omega, ?_⟩
  intro v100 e100 _
  rw [Int.toNat_natCast, v50.1, pk1] at e100
  rw [e100, (c_fx_ty fl up1 (q := 1416) (by unfold c_fix; omega)).2, l16]
  have klt : kk < ms.length := (List.getElem?_eq_some_iff.mp hkk).1
  refine ⟨by omega, by omega, ?_⟩
  rw [Int.toNat_natCast, v1416.2]
  obtain ⟨k1, k2, k3, ka, k4, k5, ksg⟩ := hX.2.2.2.2.2 kk tx hkk
  obtain ⟨ksg1, _⟩ := c_sg_far hW W1 ksg C1 mo1.1 ⟨k2, k5⟩ ⟨by simp <;> omega, by simp <;> omega⟩
  refine ⟨ksg1.choose_spec.1.1, ?_⟩
  intro q103 e103
  rw [e94, e103]
  obtain ⟨pl9, ppk⟩ := id hisP
  have vltx := vls tx (List.mem_of_getElem? hkk)
  obtain ⟨⟨slf, hplf⟩, hso, hph⟩ : (∃ s, p_lf K 1 tx (some (2, tx.length)) = some (f, s)) ∧ f.2.2.2.1 = 1 ∧ f.2.2.2.2.1 = [] := e_isP_lf vltx hisP
  refine c_takeFrom (src := 1) (i := 2) W1.1.1 ksg1 (by omega) (Nat.le_refl _) hplf (by decide) (by omega) (fun H9 f9 => (c_W_fr W1 f9 (fun a ha => by simp at ha; unfold c_fix; omega)).1.1) (fun B1 lfB fB => ?_)
  intro _
  have fx95 : ∀ a ∈ [95], c_fix a ∧ (15 < a ∨ a = 2) := fun a ha => by simp at ha; unfold c_fix; omega
  have WB := c_W_fr W1 fB fx95
  have cB := c_V_ch W1.1 fB (fun a ha => (fx95 a ha).1)
  have upB : c_ch (c_Awe g) H B1 := c_ch_t up1 (c_ch_sub cB (fun a ha => by rw [c_Awe_m]; simp at ha; omega))
  have TB : c_tr B1 m1 23 T := c_tr_fr W1.1 (c_tr_ch hT fl ad C1 (fun a ha => by simp at ha; omega) mo1.1) fB (fun a ha => ⟨(fx95 a ha).1, by simp at ha; omega⟩)
  intro v111 e111 _
  have vmB := fx upB (120 + 54 * m) (by unfold c_fix; omega) (nA _ (by omega))
  rw [vmB.1 0, (hMS.2.2 m hm).2.2.1] at e111
  rw [e111]
  -- found or not, what comes next
  have gsB : c_gs B1 g := c_gs_fr gs1 fB
  have go : ∀ z117 : Int, ((∃ l : Nat, z117 = l ∧ t_is T l ∧ t_ow T l = (m : Int)) ∨ (z117 = -1 ∧ ∀ l, t_is T l → t_ow T l ≠ (m : Int))) → sw_c z117 → sw_ext B1 B1 → sw_ty B1 (sw_rv B1 94 1) = 32 ∧ ∀ q122, q122 = sw_rv B1 94 1 → wm_313 q122 23 B1 (fun z128 H125 => sw_c z128 → sw_ext B1 H125 → (z128 = 0 → P 15 H125) ∧ (z128 ≠ 0 → sw_ty H125 (sw_rv H125 94 1) = 32 ∧ ∀ q130, q130 = sw_rv H125 94 1 → wm_314 q130 23 H125 (fun z136 H133 => sw_c z136 → sw_ext H125 H133 → (z136 = 0 → P 15 H133) ∧ (z136 ≠ 0 → (z117 = ((-1)) → P 15 H133) ∧ (z117 ≠ ((-1)) → sw_ty H133 (sw_rv H133 23 4) = 49 ∧ ∀ q138, q138 = sw_rv H133 23 4 → 0 ≤ z117 ∧ z117 < sw_ln H133 q138 ∧ sw_ty H133 (sw_rv H133 q138 z117.toNat) = 48 ∧ ∀ q141, q141 = sw_rv H133 q138 z117.toNat → sw_ty H133 (sw_rv H133 94 5) = 48 ∧ ∀ q144, q144 = sw_rv H133 94 5 → wm_315 q141 q144 H133 (fun z150 H147 => sw_c z150 → sw_ext H133 H147 → (z150 ≠ 0 → sw_ty H147 (sw_rv H147 94 2) = 72 ∧ ∀ q152, q152 = sw_rv H147 94 2 → ∀ v155, v155 = sw_iv H147 q152 7 → sw_c v155 → wm_297 23 v155 H147 (fun z161 H158 => sw_c z161 → sw_ext H147 H158 → (z161 = 0 → P 4 H158) ∧ (z161 ≠ 0 → sw_ty H158 (sw_rv H158 94 1) = 32 ∧ ∀ q163, q163 = sw_rv H158 94 1 → sw_ty H158 (sw_rv H158 23 4) = 49 ∧ ∀ q166, q166 = sw_rv H158 23 4 → sw_ty H158 (sw_rv H158 94 2) = 72 ∧ ∀ q169, q169 = sw_rv H158 94 2 → ∀ v172, v172 = sw_iv H158 q169 7 → sw_c v172 → 0 ≤ v172 ∧ v172 < sw_ln H158 q166 ∧ sw_ty H158 (sw_rv H158 q166 v172.toNat) = 48 ∧ ∀ q175, q175 = sw_rv H158 q166 v172.toNat → sw_ty H158 (sw_rv H158 94 2) = 72 ∧ ∀ q178, q178 = sw_rv H158 94 2 → ∀ v181, v181 = sw_iv H158 q178 10 → sw_c v181 → ∀ v184, v184 = sw_iv H158 r 1 → sw_c v184 → wm_316 q163 q175 r v181 (sw_w (v184 - 1)) H158 (fun z190 H187 => sw_c z190 → sw_ext H158 H187 → (z190 ≠ 0 → wm_317 94 z117 r ((z34.toNat : Nat) : Int) H187 (fun z195 H192 => sw_c z195 → sw_ext H187 H192 → (z195 ≠ 0 → P z195 H192) ∧ (z195 = 0 → sw_ty H192 (sw_rv H192 94 6) = 40 ∧ ∀ q200, q200 = sw_rv H192 94 6 → sw_ty H192 (sw_rv H192 q200 1) = 1 ∧ ∀ q203, q203 = sw_rv H192 q200 1 → sw_ty H192 (sw_rv H192 (120 + 54 * m) 15) = 1 ∧ ∀ q206, q206 = sw_rv H192 (120 + 54 * m) 15 → 0 ≤ (i' : Int) ∧ (i' : Int) < sw_ln H192 q206 ∧ ∀ v209, v209 = sw_iv H192 q206 (i' : Int).toNat → sw_c v209 → 0 ≤ sw_w (2 * z117) ∧ sw_w (2 * z117) < sw_ln H192 q203 ∧ ∀ H212, H212 = sw_si H192 q203 (sw_w (2 * z117)).toNat v209 → sw_ty H212 (sw_rv H212 94 6) = 40 ∧ ∀ q215, q215 = sw_rv H212 94 6 → wm_156 (120 + 54 * m) q215 H212 (fun z221 H218 => sw_ty H218 z221 = 40 ∧ (sw_ext H212 H218 → sw_ty H218 z221 = 40 → ∀ H223, H223 = sw_sr H218 94 6 z221 → wm_318 (120 + 54 * m) i' H223 (fun H226 => sw_ext H223 H226 → P z195 H226)))))) ∧ (z190 = 0 → P 4 H187))))) ∧ (z150 = 0 → P 15 H147))))))) := by
    intro z117 hz _ _
    have v94B := fx upB 94 (by unfold c_fix; omega) (nA _ (by omega))
    rw [v94B.2 1, r1]
    refine ⟨WB.2.1.1, ?_⟩
    intro q122 e122
    rw [e122]
    refine c_isSound (S := S) lmm (by decide) WB TB b1 (fun v hv => SW (Or.inr (Or.inl ⟨eth, hv⟩))) (fun z6 C1' m6 hz6 mo6 b6 W6 c6 => ?_)
    intro _ _
    have mo16 := w_mo_trans mo1 mo6
    have flB := WB.1.2.2.2.1
    have adB := WB.1.2.2.2.2
    have up6 : c_ch (c_Awe g) H C1' := c_ch_t upB (c_ch_sub c6 (fun a ha => by rw [c_Awe_m]; simp at ha; omega))
    have gs6 := c_gs_ch gsB flB adB c6 (fun a ha hn => by simp at ha; omega) (fun cc => by simp at cc; omega)
    have T6 := c_tr_ch TB flB adB c6 (fun a ha => by simp at ha; omega) mo6.1
    refine ⟨fun c => q 15 none C1' m6 (W3 (Or.inr ⟨eth, Or.inl ⟨fun h => ?_, rfl, rfl⟩⟩)) mo16 b6 W6 ⟨gs6, up6⟩, fun c => ?_⟩
    · rcases hz6 with ⟨ez, _⟩ | ⟨_, hn⟩
      · omega
      · exact hn h.1
    have snd : t_snd T := by
      rcases hz6 with ⟨_, h⟩ | ⟨ez, _⟩
      · exact h
      · exact absurd ez c
    have v946 := fx up6 94 (by unfold c_fix; omega) (nA _ (by omega))
    rw [v946.2 1, r1]
    refine ⟨W6.2.1.1, ?_⟩
    intro q130 e130
    rw [e130]
    have hml := c_W_len lmm (c_bS_0 b6 W6.1.1)
    refine c_areLeavesSigned hml (by decide) W6 T6 (fun z7 D1 hz7 W7 f7 => ?_)
    intro _ _
    have c7 := c_V_ch W6.1 f7 (fun a ha => by simp at ha; unfold c_fix; omega)
    have up7 : c_ch (c_Awe g) H D1 := c_ch_t up6 (c_ch_sub c7 (fun a ha => by rw [c_Awe_m]; simp at ha; omega))
    have gs7 := c_gs_fr gs6 f7
    have T7 : c_tr D1 m6 23 T := c_tr_fr W6.1 T6 f7 (fun a ha => by simp at ha; unfold c_fix; omega)
    have no15 : ¬ (t_snd T ∧ t_sgn T ∧ ∃ l, t_fl1 T f l) → P 15 D1 := fun h => q 15 none D1 m6 (W3 (Or.inr ⟨eth, Or.inl ⟨h, rfl, rfl⟩⟩)) mo16 b6 W7 ⟨gs7, up7⟩
    refine ⟨fun c7' => no15 (fun h => ?_), fun c7' => ?_⟩
    · rcases hz7 with ⟨ez, _⟩ | ⟨_, hn⟩
      · omega
      · exact hn h.2.1
    have sgn : t_sgn T := by
      rcases hz7 with ⟨_, h⟩ | ⟨ez, _⟩
      · exact h
      · exact absurd ez c7'
    refine ⟨fun c8 => no15 (fun h => ?_), fun c8 => ?_⟩
    · rcases hz with ⟨l, el, _⟩ | ⟨_, hn⟩
      · omega
      · obtain ⟨_, _, l, hl⟩ := h
        exact hn l hl.1 (by rw [hl.2.1, hf1])
    obtain ⟨l, el, til, tol⟩ : ∃ l : Nat, z117 = l ∧ t_is T l ∧ t_ow T l = (m : Int) := by
      rcases hz with h | ⟨ez, _⟩
      · exact h
      · exact absurd ez c8
    subst el
    have ll := til.1
    have lw := (t_lf_w T l).mpr ll
    obtain ⟨_, _, _, rv1, rv2, rv3, rv4, ty3, ty4, ln4, rvk⟩ := T7.1
    rw [rv4]
    refine ⟨ty4, ?_⟩
    intro q138 e138
    rw [e138]
    refine ⟨by omega, by rw [ln4]; omega, ?_⟩
    rw [Int.toNat_natCast, (rvk l (by omega)).1]
    refine ⟨(rvk l (by omega)).2, ?_⟩
    intro q141 e141
    have v947 := fx up7 94 (by unfold c_fix; omega) (nA _ (by omega))
    rw [v947.2 5, r5]
    refine ⟨by rw [(c_fx_ty fl up7 (q := 95) (by unfold c_fix; omega)).1]; exact t95, ?_⟩
    intro q144 e144
    rw [e141, e144]
    have lf7 : c_Lf D1 m6 95 f := by
      refine c_Lf_iv lfB (fun j => ?_) mo6.1
      rw [f7.2.2.2.2.2 95 (by simp)]
      exact (c_fx_iv flB adB c6 (q := 95) (by unfold c_fix; omega) (by simp)).1 j
    have lft : c_Lf D1 m6 (23 + 5 + l) (t_lfa T l) := T7.2.2.2.2.2 l lw til.2
    have t7ok := T7.2.1
    refine c_sameLf W7.1.1 lft lf7 (fun esame => ?_) (fun ediff => ?_)
    rotate_left
    · intro _ _
      refine ⟨fun c => absurd rfl c, fun _ => no15 (fun h => ?_)⟩
      obtain ⟨_, _, l', hl'⟩ := h
      have ell : l' = l := by
        have oo : t_ow T l' = t_ow T l := by rw [hl'.2.1, hf1, tol]
        rcases Nat.lt_trichotomy l' l with gg | gg | gg
        · exact absurd oo.symm (snd.2.1 l l' gg til hl'.1)
        · exact gg
        · exact absurd oo (snd.2.1 l' l gg hl'.1 til)
      subst ell
      exact ediff ((t_fl1_iff t7ok hso hph til).mpr hl')
    intro _ _
    refine ⟨fun _ => ?_, fun c => absurd c (by decide)⟩
    have hfl : t_fl1 T f l := (t_fl1_iff t7ok hso hph til).mp esame
    have W4 : ∀ {z : Int} {o : Option (w_G × Nat)}, e_w4 lm e1 sg T ep l sd i' cf cm jn v sc z o → e_weR K (sw_iv H (120 + 54 * m) 3 = 1) Pt lm z o := fun {z o} h => W3 (Or.inr ⟨eth, Or.inr ⟨snd, sgn, l, hfl, h⟩⟩)
    have v187 := fx up7 18 (by unfold c_fix; omega) (nA _ (by omega))
    have t187 : sw_ty D1 18 = 72 := by rw [(c_fx_ty fl up7 (q := 18) (by unfold c_fix; omega)).1]; exact hs.1
    rw [v947.2 2, r2]
    refine ⟨t187, ?_⟩
    intro q152 e152 v155 e155 _
    rw [e152, v187.1 7, i7] at e155
    rw [e155]
    have no4 : ∀ {J : sw_H}, ¬ (h_hl T sd ∧ w_sok (t_ow T sd.toNat) (t_sk T sd.toNat) sg (w_sli lm e1 (lm.length - 1))) → c_W J m6 nn K tl cn cs → c_gs J g → c_ch (c_Awe g) H J → P 4 J := fun {J} h a3 a4 a5 => q 4 none J m6 (W4 (Or.inl ⟨h, rfl, rfl⟩)) mo16 b6 a3 ⟨a4, a5⟩
    refine c_hasLeaf W7.1.1 T7 (fun s1 s2 s3 => ?_) (fun hno => ?_)
    rotate_left
    · intro _ _
      exact ⟨fun _ => no4 (fun h => hno h.1) W7 gs7 up7, fun c => absurd rfl c⟩
    intro _ _
    refine ⟨fun c => absurd c (by decide), fun _ => ?_⟩
    have hhl : h_hl T sd := ⟨s1, s2, s3⟩
    obtain ⟨sn, esn⟩ : ∃ sn : Nat, sd = sn := ⟨sd.toNat, by omega⟩
    have snl : sn < 2 ^ t_dp T := by omega
    have snw := (t_lf_w T sn).mpr snl
    rw [esn, Int.toNat_natCast] at s3
    rw [v947.2 1, r1]
    refine ⟨W7.2.1.1, ?_⟩
    intro q163 e163
    rw [rv4]
    refine ⟨ty4, ?_⟩
    intro q166 e166
    rw [v947.2 2, r2]
    refine ⟨t187, ?_⟩
    intro q169 e169 v172 e172 _
    rw [e169, v187.1 7, i7, esn] at e172
    rw [e166, e172]
    refine ⟨by omega, by rw [ln4]; omega, ?_⟩
    rw [Int.toNat_natCast, (rvk sn (by omega)).1]
    refine ⟨(rvk sn (by omega)).2, ?_⟩
    intro q175 e175
    refine ⟨t187, ?_⟩
    intro q178 e178 v181 e181 _ v184 e184 _
    rw [e178, v187.1 10, i10] at e181
    have nr : r ∉ c_Awe g ∧ ra ∉ c_Awe g := ⟨nA _ (by omega), nA _ (by omega)⟩
    obtain ⟨sg7, o7⟩ := c_sg_far hW W7 hsg up7 mo16.1 ⟨g2, g5⟩ nr
    rw [(c_sg_len sg7).1] at e184
    have i84 : sw_w (v184 - 1) = ((lm.length - 1 : Nat) : Int) := by rw [e184, sw_w_s (by omega) (by omega)]; omega
    rw [i84, e163, e175, e181]
    clear i84
    have hsgr := hwe.2.2.2.2.2.2.2.2.2
    obtain ⟨lfs1, _⟩ := T7.2.2.2.2.2 sn snw s3
    refine c_isPartSigned (i := e1) (j := lm.length - 1) (mo := t_ow T sn) (sk := t_sk T sn) W7 sg7 (by omega) (by omega) (by omega) (p_t_sl (Nat.le_refl _) hsgr) (by rw [(p_t_in hsgr).2.2.2.1]; decide) lfs1.1 lfs1.2.2.1 (by omega) (fun z8 E1 hz8 W8 f8 => ?_)
    intro _ _
    have c8 := c_V_ch W7.1 f8 (fun a ha => by simp at ha; unfold c_fix; omega)
    have up8 : c_ch (c_Awe g) H E1 := c_ch_t up7 (c_ch_sub c8 (fun a ha => by rw [c_Awe_m]; simp at ha; omega))
    have gs8 := c_gs_fr gs7 f8
    refine ⟨fun c => ?_, fun c => no4 (fun h => ?_) W8 gs8 up8⟩
    rotate_left
    · rcases hz8 with ⟨ez, _⟩ | ⟨_, hn⟩
      · omega
      · have := h.2
        rw [esn, Int.toNat_natCast] at this
        exact hn this
    have sok : w_sok (t_ow T sd.toNat) (t_sk T sd.toNat) sg (w_sli lm e1 (lm.length - 1)) := by
      rw [esn, Int.toNat_natCast]
      rcases hz8 with ⟨_, h⟩ | ⟨ez, _⟩
      · exact h
      · exact absurd ez c
    have W5 : ∀ {z : Int} {o : Option (w_G × Nat)}, e_w5 T ep l sn i' cf cm jn v sc z o → e_weR K (sw_iv H (120 + 54 * m) 3 = 1) Pt lm z o := fun {z o} h => W4 (Or.inr ⟨⟨hhl, sok⟩, by rw [esn, Int.toNat_natCast]; exact h⟩)
    have T8 : c_tr E1 m6 23 T := c_tr_fr W7.1 T7 f8 (fun a ha => by simp at ha; unfold c_fix; omega)
    have tpk : t_pk T := by rw [eT]; exact p_we_5 (hx5 lm (List.mem_of_getElem? hmi)) hwe
    have sep : sw_c ep := p_32_c hwe.2.2.2.1
    obtain ⟨sg8, o8⟩ := c_sg_far hW W8 hsg up8 mo16.1 ⟨g2, g5⟩ nr
    have v188 := fx up8 18 (by unfold c_fix; omega) (nA _ (by omega))
    have v948 := fx up8 94 (by unfold c_fix; omega) (nA _ (by omega))
    have ok := (e_iv (ep := ep) (sd := sn) (cf := cf) (cm := cm) (jn := jn) (v := v) (sc := sc) (m := m) t7ok tpk snd sgn hfl hf1 hf2 sep).1
    have S6 : ∀ w, (w = e_es T ep cf jn ∨ w = w_dr (e_es T ep cf jn) 2 ∨ w = w_cfm (e_es T ep cf jn) cf ∨ w = w_int cf (w_cfm (e_es T ep cf jn) cf) ∨ e_clS T l sc (e_h T l sd.toNat) w) → S w := fun w hw => SW (Or.inr (Or.inr (Or.inr ⟨kq, i', pr, (tx, u, v), hfd, Or.inr ⟨a, jn, sc, L', ik, f, g0, l, epr, hisP, eth, snd, hfl, hw⟩⟩)))
    have hcfr := hwe.2.2.2.2.2.1
    have hcmr := hwe.2.2.2.2.2.2.2.2.1
    have hcf2 : cf = [] ∨ cf.head? = some 1 := by
      rcases (p_h_in hcfr).2.2 with ⟨h, _⟩ | ⟨_, h, _⟩
      · exact Or.inl h
      · exact Or.inr h
    have Ta8 : c_Ta E1 := c_Ta_ch hTa fl ad up8 (fun cc => absurd cc (nA _ (by omega)))
    have jup : ∀ {J : sw_H}, c_ch (c_Ajn g) E1 J → c_ch (c_Awe g) H J := fun {J} c => c_ch_t up8 (c_ch_sub c (fun a ha => by rw [c_Awe_m]; rw [c_Ajn_m] at ha; omega))
    refine c_join (S := S) (T := T) (cf := cf) (cm := cm) (jn := jn) (sc := sc) (sd := sn) (ep := ep) (a := a) (L' := L') lmm b6 W8 Ta8 (by rw [(c_fx_ty fl up8 (q := 18) (by unfold c_fix; omega)).1]; exact hs.1) (by rw [v188.2]; exact hRe.1.2.2.2.2) (by rw [v188.1]; exact i6) (by rw [v188.1, i7, esn]) (by rw [v188.1]; exact i10) (by rw [v948.2]; exact h6) hpl gs8 T8 tpk sg8 ⟨g1, g4⟩ o8 hel g3 (p_h_sl (Nat.le_refl _) hcfr) hcf2 (p_t_sl (Nat.le_refl _) hcmr) (by rw [(p_t_in hcmr).2.2.2.1]; decide) (by rw [ev, ← epr]; exact w_le_at mo16.1 a34) ll snl S1 (S6 _ (Or.inl rfl)) (S6 _ (Or.inr (Or.inl rfl))) (S6 _ (Or.inr (Or.inr (Or.inl rfl)))) (S6 _ (Or.inr (Or.inr (Or.inr (Or.inl rfl))))) (fun w hw => S6 w (Or.inr (Or.inr (Or.inr (Or.inr (by rw [esn, Int.toNat_natCast]; exact hw)))))) (fun J mm b1' b2' b3' b4' b5' b6' => ?_) (fun J mm b1' b2' b3' b4' b5' b6' b7' b8' => ?_) (fun J mm b1' b2' b3' b4' b5' gsJ trJ j2 j3 j4 j5 j6 j7 j22 jz cJ => ?_)
    · intro _ _
      exact ⟨fun _ => q 12 none J mm (W5 (Or.inl ⟨b1', rfl, rfl⟩)) (w_mo_trans mo16 b2') b3' b4' ⟨b5', jup b6'⟩, fun c => absurd c (by decide)⟩
    · intro _ _
      exact ⟨fun _ => q 11 none J mm (W5 (Or.inr ⟨b1', Or.inl ⟨b2', b3', rfl, rfl⟩⟩)) (w_mo_trans mo16 b4') b5' b6' ⟨b7', jup b8'⟩, fun c => absurd c (by decide)⟩
    intro _ _
    refine ⟨fun c => absurd rfl c, fun _ => ?_⟩
    have upJ := jup cJ
    have v94J := fx upJ 94 (by unfold c_fix; omega) (nA _ (by omega))
    have vmJ := fx upJ (120 + 54 * m) (by unfold c_fix; omega) (nA _ (by omega))
    have v53J := fx upJ (120 + 54 * m + 53) (by unfold c_fix; omega) (nA _ (by omega))
    have moJ := w_mo_trans mo16 b3'
    rw [v94J.2 6, h6]
    refine ⟨gsJ.2.2.1, ?_⟩
    intro q200 e200
    rw [e200, gsJ.2.2.2.2.1]
    refine ⟨gsJ.2.2.2.2.2.1, ?_⟩
    intro q203 e203
    rw [vmJ.2 15, a15]
    refine ⟨by rw [(c_fx_ty fl upJ (q := 120 + 54 * m + 53) (by unfold c_fix; omega)).1]; exact (aty 53 (by decide) (by decide)).1, ?_⟩
    intro q206 e206
    rw [e206, (c_fx_ty fl upJ (q := 120 + 54 * m + 53) (by unfold c_fix; omega)).2]
    refine ⟨by omega, by rw [(aty 53 (by decide) (by decide)).2]; omega, ?_⟩
    intro v209 e209 _
    rw [Int.toNat_natCast, v53J.1] at e209
    rw [← e209] at pk3
    rw [sw_2k (by omega), e203]
    refine ⟨by omega, by rw [gsJ.2.2.2.2.2.2.1]; omega, ?_⟩
    intro F1 eF
    rw [Int.toNat_natCast] at eF
    have fF : c_fr [g + 22] J F1 := by rw [eF]; exact c_fr_si _ _ _ _
    have vF : ∀ x, sw_iv F1 (g + 22) x = if x = 2 * l then v209 else sw_iv J (g + 22) x := fun x => by
      rw [eF]
      by_cases c2 : x = 2 * l
      · rw [if_pos c2, c2, c_si_eq]
      · rw [if_neg c2, c_si_f c2]
    clear eF
    have fxF : ∀ a ∈ [g + 22], c_fix a ∧ (15 < a ∨ a = 2) := fun a ha => by simp at ha; unfold c_fix; omega
    have WF := c_W_fr b5' fF fxF
    have cF := c_V_ch b5'.1 fF (fun a ha => (fxF a ha).1)
    have upF : c_ch (c_Awe g) H F1 := c_ch_t upJ (c_ch_sub cF (fun a ha => by rw [c_Awe_m]; simp at ha; omega))
    have iF : ∀ f, sw_iv F1 g f = sw_iv J g f := fun f => by rw [fF.2.2.2.2.2 g (by simp)]
    have gpF : c_gp F1 mm g (e_G T ep l sn cf cm jn v sc) := by
      refine ⟨c_gs_fr gsJ fF, ok, (iF 2).trans j2, (iF 3).trans j3, c_tr_fr b5'.1 trJ fF (fun a ha => ⟨(fxF a ha).1, by simp at ha; omega⟩), by rw [iF]; exact j4, by rw [iF]; exact j5, by rw [iF]; exact j6, by rw [iF]; exact j7, fun x hx => ?_, fun x hx hx2 => ?_⟩
      · show w_az mm (sw_iv F1 (g + 22) x) (e_hd T l sn v sc x)
        rw [vF]
        by_cases c2 : x = 2 * l
        · rw [if_pos c2]
          unfold e_hd
          rw [if_pos c2]
          exact Or.inr (w_le_at moJ.1 pk3)
        · rw [if_neg c2]
          exact j22 x v hx c2
      · have hx : t_w T ≤ x := hx
        rw [vF, if_neg (by omega)]
        exact jz x hx hx2
    have v94F := fx upF 94 (by unfold c_fix; omega) (nA _ (by omega))
    have vmF := fx upF (120 + 54 * m) (by unfold c_fix; omega) (nA _ (by omega))
    rw [v94F.2 6, h6]
    refine ⟨gpF.1.2.2.1, ?_⟩
    intro q215 e215
    rw [e215]
    have gmF : sw_ty F1 gm = 40 := (upF.1.2 gm (by rw [t4]; decide)).1.trans t4
    refine c_enter (by rw [vmF.2 4, h4]; exact gmF) (fun Y aY nY sY tyY ivY rvY => ?_)
    rw [vmF.2 4, h4]
    refine ⟨by rw [tyY]; exact gmF, ?_⟩
    intro _ _ V eV
    have fxm : ∀ a ∈ [120 + 54 * m], c_fix a ∧ (15 < a ∨ a = 2) := fun a ha => by simp at ha; unfold c_fix; omega
    have fx94 : ∀ a ∈ [94], c_fix a ∧ (15 < a ∨ a = 2) := fun a ha => by simp at ha; unfold c_fix; omega
    have WY := c_W_al WF aY nY sY fxm tyY
    have cY := c_W_alch WF aY (fun a ha => (fxm a ha).2)
    have aV : c_al [94] Y V := by rw [eV]; exact c_al_sr _ _ _ _
    have WV := c_W_al WY aV (by rw [eV]; rfl) (by rw [eV]; rfl) fx94 (fun c => by rw [eV]; rfl)
    have cV := c_W_alch WY aV (fun a ha => (fx94 a ha).2)
    have cFV : c_ch [120 + 54 * m, 94] F1 V := c_ch_sub (c_ch_trans cY cV) (by simp)
    have flF := WF.1.2.2.2.1
    have adF := WF.1.2.2.2.2
    have gpV := c_gp_ch gpF flF adF cFV (fun a ha => by simp at ha; omega) (w_le_refl _)
    have ivV : ∀ f, sw_iv V (120 + 54 * m) f = if f = 3 then 1 else if f = 6 then -1 else if f = 9 then 0 else if f = 11 then 0 else sw_iv H (120 + 54 * m) f := fun f => by
      rw [eV]
      show sw_iv Y (120 + 54 * m) f = _
      rw [ivY f, vmF.1 f]
    have rvV : ∀ f, sw_rv V (120 + 54 * m) f = if f = 4 then g else sw_rv H (120 + 54 * m) f := fun f => by
      rw [(aV.2 (120 + 54 * m) (WY.1.2.2.2.1 _ (by omega) (by omega)) (by simp <;> omega)).2 f, rvY f, vmF.2 f]
    have r94V : ∀ f, sw_rv V 94 f = if f = 6 then gm else sw_rv H 94 f := fun f => by
      rw [eV]
      have n94 := (aY.2 94 (flF 94 (by decide) (by decide)) (by simp <;> omega)).2 f
      by_cases c6 : f = 6
      · rw [c6, c_sr_eq, if_pos rfl]
      · rw [c_sr_f c6, if_neg c6, n94, v94F.2 f]
    have PF := c_pk_ch (mm := mm) hm hP fl ad upF moJ.1 (fun a ha => c_Awe_n hm hpl ha)
    have vFV : ∀ j, 50 ≤ j → j ≤ 53 → ∀ f, sw_iv V (120 + 54 * m + j) f = sw_iv F1 (120 + 54 * m + j) f := fun j h1 h2 => (c_fx_iv flF adF cFV (q := 120 + 54 * m + j) (by unfold c_fix; omega) (by simp <;> omega)).1
    have PV : c_pk V mm ms m L := by
      obtain ⟨x1, x2, x3⟩ := PF
      refine ⟨?_, x2, fun j kq' u' w' hj => ?_⟩
      · rw [ivV 16, if_neg (by decide), if_neg (by decide), if_neg (by decide), if_neg (by decide)]
        exact hP.1
      · rw [vFV 50 (by decide) (by decide), vFV 51 (by decide) (by decide), vFV 52 (by decide) (by decide), vFV 53 (by decide) (by decide)]
        exact x3 j kq' u' w' hj
    have maV : c_ma V m := c_ma_ch (c_ma_ch hma hm fl ad upF (fun cc => absurd cc (nA _ (by omega)))) hm flF adF cFV (fun _ f hf => by rw [rvV f, if_neg (by omega), vmF.2])
    have cHV : c_ch ((120 + 54 * m) :: 94 :: (c_Adp m ++ c_Awe g)) H V := c_ch_sub (c_ch_trans upF cFV) (fun a ha => by
      simp only [List.mem_append, List.mem_cons, List.not_mem_nil, or_false] at ha ⊢
      rcases ha with h | h | h
      · exact Or.inr (Or.inr (Or.inr h))
      · exact Or.inl h
      · exact Or.inr (Or.inl h))
    refine c_dropPackage maV PV il (fun Q1 pkQ ivQ fQ => ?_)
    intro _
    have mQ : ∀ a ∈ (120 + 54 * m) :: c_Adp m, a = 120 + 54 * m ∨ (120 + 54 * m + 50 ≤ a ∧ a ≤ 120 + 54 * m + 53) := fun a ha => by
      unfold c_Adp at ha
      simp only [List.mem_cons, List.not_mem_nil, or_false] at ha
      omega
    have fxQ : ∀ a ∈ (120 + 54 * m) :: c_Adp m, c_fix a ∧ (15 < a ∨ a = 2) := fun a ha => by have := mQ a ha; unfold c_fix; omega
    have WQ := c_W_fr WV fQ fxQ
    have cQ := c_V_ch WV.1 fQ (fun a ha => (fxQ a ha).1)
    refine q 0 (some (_, i')) Q1 mm (W5 (Or.inr ⟨b1', Or.inr ⟨b2', rfl, rfl⟩⟩)) moJ b4' WQ ⟨c_gp_ch gpV WV.1.2.2.2.1 WV.1.2.2.2.2 cQ (fun a ha => c_Adp_n hm hpl (mQ a ha)) (w_le_refl _), fun f hf => by rw [ivQ f hf, ivV f], fun f => by rw [fQ.2.2.2.2.1, rvV f], fun f => by rw [fQ.2.2.2.2.1, r94V f], pkQ, c_ch_t cHV (c_ch_sub cQ (fun a ha => ?_))⟩
    simp only [List.mem_append, List.mem_cons] at ha ⊢
    rcases ha with h | h
    · exact Or.inl h
    · exact Or.inr (Or.inr (Or.inl h))
  refine c_leafOf WB.1.1 TB (fun l h1 h2 => ?_) (fun h1 => ?_)
  · exact go l (Or.inl ⟨l, rfl, h1, h2⟩)
  · exact go (-1) (Or.inr ⟨rfl, h1⟩)
end
