/-! ===== the class: deliver, all of it ===== -/
noncomputable section
section
variable {H X Z : sw_H} {nn nm m k0 mi : Nat} {K K' S : Wt → Prop} {tl tp mk mm lm : List Wt} {rd : Nat → Int} {ms ms' : List (List Wt)} {cn cs cn' cs' x x1 x2 N U M z : Int} {A : List Nat} {B : Nat → v_M} {P : Int → sw_H → Prop} {E : Nat → sw_H → Prop}
theorem x_deliver {C : Nat → List w_Ch} {Pt : Nat → List (List Wt × Wt × Wt)} (lmm : c_lm (cn + 4) (cs + 4000) N U M) (h0 : 0 ≤ cn ∧ 0 ≤ cs) (bm : c_bl mk tl N U M) (h : c_ZZ H mk nn K tl cn cs tp rd ms B) (rm : sw_n H < sxlim.1 ∧ sw_s H + 6 ≤ sxlim.2) (hx5 : w_x5 ms) (hx6 : ∀ p ∈ ms, w_x6 p) (hiv : ∀ m, m < 24 → v_iv K ms m (B m) (C m) (Pt m)) (hkh : ∀ m, m < 24 → w_kh ms (v_La (B m)))
    (hb : ∀ (m mi : Nat) lm, x1 = mi → x2 = m → m < 24 → ms[mi]? = some lm → c_bS (v_dS K (B m) (C m) (Pt m) lm) mk tl N U M)
    (q1 : ∀ X, ¬ (0 ≤ x1 ∧ x1 < ms.length ∧ 0 ≤ x2 ∧ x2 < 24) → c_ZZ X mk nn K tl (cn + 1) (cs + 6) tp rd ms B → c_ch [] H X → X = sw_nw H 112 0 6 → E (sw_n H + 2) X)
    (q : ∀ (m mi : Nat) lm z v' X mm cn' cs' A, x1 = mi → x2 = m → m < 24 → ms[mi]? = some lm → v_dl K mi (B m) (C m) (Pt m) lm z v' → w_mo (v_dS K (B m) (C m) (Pt m) lm) mk mm → cn' ≤ cn + 2 → cs' ≤ cs + 4 * (c_cp X - c_cp H) → c_ZZ X mm nn K tl cn' cs' tp rd ms (v_up B m v') → c_ch A H X → c_cA A → P z X) : wm_107 2 x1 x2 H P E := by
  obtain ⟨hW, hX, hMS, hK⟩ := id h.1
  have fl := hW.1.2.2.2.1
  have ad := hW.1.2.2.2.2
  have O := hX.1
  have o7 : sw_rv H 2 7 = 18 := O.2.2.2.2.2.2.2.1
  have o3 : sw_rv H 2 3 = 1416 := O.2.2.2.2.1
  have t1416 : sw_ty H 1416 = 81 ∧ sw_ln H 1416 = 300 := O.2.2.2.2.2.2.2.2.2.2.2.2.2
  have m300 := hX.2.2.2.2.1
  have lm0 : c_lm cn cs N U M := c_lm_le lmm (by omega) (by omega)
  have hml := c_W_len lm0 bm
  have thr : ¬ (0 ≤ x1 ∧ x1 < ms.length ∧ 0 ≤ x2 ∧ x2 < 24) → E (sw_n H + 2) (sw_nw H 112 0 6) := fun c => q1 _ c (c_ZZ_throw h 112) (c_I_throw (c_ZZ_I h) 112).2 rfl
  have h18 : sw_ty H 18 = 72 ∧ sw_rv H 18 0 = 3 := ⟨h.2.2.1.2.1, h.2.2.1.2.2.1⟩
  have hRe := h.2.1.2.2.2.2
  unfold wm_107
  refine c_memberAt O hMS rm (fun m em hm => ⟨(hMS.2.2 m hm).2.1, fun _ _ => ?_⟩) (fun h => thr (by omega))
  refine c_isMessage hX.2.2.2 (fun hn _ _ => ⟨fun c => absurd rfl c, fun _ => ⟨rm.1, rm.2, fun H1 e1 => by rw [e1]; exact thr (by omega)⟩⟩) (fun lm l1 l2 hlm _ _ => ⟨fun _ => ?_, fun c => absurd c (by decide)⟩)
  obtain ⟨mi, emi⟩ : ∃ mi : Nat, x1 = mi := ⟨x1.toNat, by omega⟩
  subst em
  subst emi
  rw [Int.toNat_natCast] at hlm
  obtain ⟨g1, g2, g3, a', g4, g5, hsg⟩ := hX.2.2.2.2.2 mi lm hlm
  have t80 : sw_ty H (sw_rv H 1416 mi) = 80 := hsg.choose_spec.1.1
  have hvl := c_sg_vl hW.1.1 hsg
  rw [o7]
  refine ⟨h18.1, ?_⟩
  intro q14 e14
  rw [o3]
  refine ⟨t1416.1, ?_⟩
  intro q17 e17
  rw [e17]
  refine ⟨l1, by rw [t1416.2]; omega, by rw [Int.toNat_natCast]; exact t80, ?_⟩
  intro q20 e20
  rw [Int.toNat_natCast] at e20
  rw [e14, e20]
  refine c_isRead hml (by omega) hvl (by omega) hW hRe h18 hsg (fun z G1 hz01 hz f1 W1 Re1 rs1 _ _ => ?_)
  have hBk15 : ∀ a ∈ c_Bk, 15 < a ∧ a ≤ 1491 := fun a ha => by have := c_Bk_b ha; omega
  have c1 : c_ch ([14, 15] ++ c_Bk) H G1 := c_ch_sub (c_fa_ch hW f1 (fun a ha => (hBk15 a ha).1)) (fun a ha => List.mem_append_right _ ha)
  have B1 := c_rdg_ch hml h.1 W1 c1
  have r181 : c_r18 G1 := ⟨rs1.1, rs1.2.1⟩
  have zG := c_ZZ_rd h B1 Re1 r181 c1
  have cp1 : c_cp G1 = c_cp H := c_cp_ch h c1 (fun j hj cc => by
    rw [List.mem_append] at cc
    rcases cc with cc | cc
    · simp at cc; omega
    · have := c_Bk_b cc; omega)
  have cA1 : c_cA ([14, 15] ++ c_Bk) := fun a ha => by
    rw [List.mem_append] at ha
    rcases ha with ha | ha
    · simp at ha; omega
    · have := c_Bk_b ha; omega
  have hbm := hb m mi lm rfl rfl hm hlm
  have ivm := hiv m hm
  have fin : x_dlQ G1 mk nn K tl cn cs tp rd ms B m mi (C m) (Pt m) lm P := fun z v' X mm cn' cs' A d1 d2 d3 d4 d5 d6 d7 => q m mi lm z v' X mm cn' cs' _ rfl rfl hm hlm d1 d2 d3 (by rw [← cp1]; exact d4) d5 (c_ch_trans c1 d6) (fun a ha => by
    rw [List.mem_append] at ha
    rcases ha with ha | ha
    · exact cA1 a ha
    · exact d7 a ha)
  have fin0 : ∀ {X : sw_H} (z : Int), v_dl K mi (B m) (C m) (Pt m) lm z (B m) → c_ZZ X mk nn K tl cn cs tp rd ms B → c_ch [14, 15] G1 X → P z X := fun {X} z d zX c => fin z (B m) X mk cn cs [14, 15] d w_mo_refl (by omega) (by rw [c_cp_ch zG c (fun j hj cc => by simp at cc; omega)]; omega) (by rw [v_up_self]; exact zX) c (fun a ha => by simp at ha; omega)
  have hr1 : sw_rv H 1416 mi = sw_rv G1 1416 mi := ((c_fx_iv fl ad c1 (q := 1416) (by unfold c_fix; omega) (fun cc => by
    rw [List.mem_append] at cc
    rcases cc with cc | cc
    · simp at cc
    · have := c_Bk_b cc; omega)).2 mi).symm
  have O1 := B1.2.1.1
  have o7' : sw_rv G1 2 7 = 18 := O1.2.2.2.2.2.2.2.1
  have o3' : sw_rv G1 2 3 = 1416 := O1.2.2.2.2.1
  have o10 : sw_rv G1 2 10 = 94 := O1.2.2.2.2.2.2.2.2.2.2.1
  have t16 : sw_ty G1 1416 = 81 ∧ sw_ln G1 1416 = 300 := O1.2.2.2.2.2.2.2.2.2.2.2.2.2
  obtain ⟨g1', g2', g3', b', g4', g5', hsg'⟩ := B1.2.1.2.2.2.2.2 mi lm hlm
  have t80' : sw_ty G1 (sw_rv G1 1416 mi) = 80 := hsg'.choose_spec.1.1
  have t88 : sw_ty G1 94 = 88 := zG.2.1.2.2.2.1.1
  refine ⟨fun cz => ?_, fun cz => ?_⟩
  · have z1 : z = 1 := by omega
    subst z1
    rw [o7']
    refine ⟨r181.1, ?_⟩
    intro q28 e28 v31 e31 _
    rw [e28] at e31
    rcases hz with ⟨ft, k5, h1 | h1⟩ | ⟨ft, k5, h1 | h1⟩ | ⟨ft, k5, h1 | h1⟩ | ⟨ft, k5, h1 | h1⟩ | ⟨_, h1⟩
    · refine ⟨fun c => by omega, fun _ => ?_, fun c => by omega, fun c => by omega⟩
      obtain ⟨_, ik, pm, pk, pp, so, ph, g0, gg, hisP, lf1, a1⟩ := h1
      rw [show sw_rv G1 2 1 = 11 from O1.2.2.1]
      refine ⟨W1.2.1.1, ?_⟩
      intro q46 e46
      rw [o3']
      refine ⟨t16.1, ?_⟩
      intro q49 e49
      rw [e49]
      refine ⟨l1, by rw [t16.2]; omega, by rw [Int.toNat_natCast]; exact t80', ?_⟩
      intro q52 e52
      rw [Int.toNat_natCast] at e52
      refine ⟨r181.1, ?_⟩
      intro q55 e55
      rw [e55, Re1.1.2.2.2.1]
      refine ⟨Re1.2.2.1, ?_⟩
      intro q58 e58
      rw [e46, e52, e58]
      refine c_isPackageRight (i := 0) (e0 := lm.length) hml W1 hsg' (by omega) (by omega) hvl (Nat.le_refl _) hisP.2 lf1 a1 (by decide) (fun z2 G2 hz2 W2 F2 _ _ => ?_)
      have c2 : c_ch [14, 15] G1 G2 := c_V_ch W1.1 F2 (by unfold c_fix; simp)
      have c2' : c_ch ([14, 15] ++ c_Bk) G1 G2 := c_ch_sub c2 (fun a ha => List.mem_append_left _ ha)
      have B2 := c_rdg_ch hml B1 W2 c2'
      have Re2 := c_Re_fr Re1 F2
      have r182 : c_r18 G2 := ⟨by rw [F2.2.2.1]; exact r181.1, by rw [F2.2.2.2.2.1]; exact r181.2⟩
      have zG2 := c_ZZ_rd zG B2 Re2 r182 c2'
      refine ⟨fun c5 => fin0 4 (Or.inr (Or.inl ⟨ft, Or.inr ⟨_, hisP, Or.inr ⟨fun hv => ?_, rfl⟩⟩, rfl⟩)) zG2 c2, fun c5 => fin0 0 (Or.inr (Or.inl ⟨ft, Or.inr ⟨_, hisP, Or.inl ⟨?_, rfl⟩⟩, rfl⟩)) zG2 c2⟩
      · rcases hz2 with ⟨h1, _⟩ | ⟨_, h1⟩
        · omega
        · exact h1 ⟨hv.2, hv.1⟩
      · rcases hz2 with ⟨_, h1, h2⟩ | ⟨h1, _⟩
        · exact ⟨h2, h1⟩
        · exact absurd h1 c5
    · omega
    · refine ⟨fun c => by omega, fun c => by omega, fun _ => ?_, fun c => by omega⟩
      obtain ⟨_, ep, lf, v, sg, tg, hpr, i6, i7, hco⟩ := h1
      rw [o10]
      refine ⟨t88, ?_⟩
      intro q67 e67
      rw [o3']
      refine ⟨t16.1, ?_⟩
      intro q70 e70
      rw [e70]
      refine ⟨l1, by rw [t16.2]; omega, by rw [Int.toNat_natCast]; exact t80', ?_⟩
      intro q73 e73
      rw [Int.toNat_natCast] at e73
      rw [e67, e73, ← hr1]
      exact x_dl_tp hm lmm h0 hbm zG ivm ft hlm hr1 rs1 hvl hpr i6 i7 hco (fun z v' X mm cn' cs' A d1 d2 d3 d4 d5 d6 d7 _ _ => fin z v' X mm cn' cs' A d1 d2 d3 d4 d5 d6 d7)
    · omega
    · refine ⟨fun c => by omega, fun c => by omega, fun c => by omega, fun _ => ?_⟩
      obtain ⟨_, ep, sd, b, e1, es, pt, sg, cf, tg, hcm, hcv⟩ := h1
      rw [o10]
      refine ⟨t88, ?_⟩
      intro q81 e81
      rw [o3']
      refine ⟨t16.1, ?_⟩
      intro q84 e84
      rw [e81, e84]
      exact x_dl_tc hm lm0 hbm zG ivm (hkh m hm) hx5 ft hlm hr1 rs1 hcv hcm (fun z v' X mm cn' cs' A d1 d2 d3 d4 d5 d6 d7 _ _ => fin z v' X mm cn' cs' A d1 d2 d3 d4 d5 d6 d7)
    · omega
    · refine ⟨fun _ => ?_, fun c => by omega, fun c => by omega, fun c => by omega⟩
      obtain ⟨_, ep, b, e1, prs, th, cf, sd, ns, cm, sg, hwe, hwv⟩ := h1
      rw [o10]
      refine ⟨t88, ?_⟩
      intro q34 e34
      rw [o3']
      refine ⟨t16.1, ?_⟩
      intro q37 e37
      rw [e34, e37]
      exact x_dl_tw hm lm0 hbm zG ivm hx5 (hx6 lm (List.mem_of_getElem? hlm)) ft hlm hr1 rs1 hwv hwe (fun z v' X mm cn' cs' A d1 d2 d3 d4 d5 d6 d7 _ _ => fin z v' X mm cn' cs' A d1 d2 d3 d4 d5 d6 d7)
    · omega
    · omega
  · have d : v_dl K mi (B m) (C m) (Pt m) lm 1 (B m) := by
      rcases hz with ⟨ft, k5, h1 | h1⟩ | ⟨ft, k5, h1 | h1⟩ | ⟨ft, k5, h1 | h1⟩ | ⟨ft, k5, h1 | h1⟩ | ⟨hn, h1⟩
      · omega
      · exact Or.inr (Or.inl ⟨ft, Or.inl ⟨h1.2, rfl⟩, rfl⟩)
      · omega
      · exact Or.inr (Or.inr (Or.inl ⟨ft, Or.inl ⟨h1.2, rfl⟩, rfl⟩))
      · omega
      · exact Or.inr (Or.inr (Or.inr (Or.inl ⟨ft, none, Or.inl ⟨h1.2, rfl, rfl⟩, rfl⟩)))
      · omega
      · exact Or.inr (Or.inr (Or.inr (Or.inr ⟨ft, none, Or.inl ⟨h1.2, rfl, rfl⟩, rfl⟩)))
      · exact Or.inl ⟨hn, rfl, rfl⟩
    exact fin0 1 d zG (c_ch_refl _ _)
end
end
