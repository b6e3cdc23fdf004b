/-! ===== the class: takeProposal ===== -/
noncomputable section
variable {H Z X Y : sw_H} {nn nm r ra g m n mi : Nat} {K K' S : Wt → Prop} {tl tl' tp mk mm l lp b : List Wt} {ms : List (List Wt)} {rd : Nat → Int} {a c x y cn cs cn' cs' N U M ep lf : Int} {Q : sw_H → Prop} {P : Int → sw_H → Prop} {E : Nat → sw_H → Prop} {A B : List Nat} {w h sg tg : Wt} {G' : w_G} {La : Nat → List (Wt × Nat)} {T : w_T} {v : p_C}
/-- the Taker: its parts -/
def c_Ta (H : sw_H) : Prop := sw_ty H 94 = 88 ∧ sw_rv H 94 0 = 3 ∧ sw_rv H 94 1 = 11 ∧ sw_rv H 94 2 = 18 ∧ sw_rv H 94 3 = 44 ∧ sw_rv H 94 4 = 85 ∧ sw_rv H 94 5 = 95 ∧ sw_ty H 95 = 48
theorem c_Ta_ch (h : c_Ta H) (fl : c_full H) (ad : c_ads H) (k : c_ch A H Z) (hA : 94 ∈ A → ∀ f, f < 6 → sw_rv Z 94 f = sw_rv H 94 f) : c_Ta Z := by
  have rv : ∀ f, f < 6 → sw_rv Z 94 f = sw_rv H 94 f := fun f hf => by
    by_cases c : 94 ∈ A
    · exact hA c f hf
    · exact (c_fx_iv fl ad k (q := 94) (by unfold c_fix; omega) c).2 f
  unfold c_Ta at h ⊢
  rw [rv 0 (by omega), rv 1 (by omega), rv 2 (by omega), rv 3 (by omega), rv 4 (by omega), rv 5 (by omega), (k.1.2 94 (fl 94 (by decide) (by decide))).1, (k.1.2 95 (fl 95 (by decide) (by decide))).1]
  exact h
theorem c_hasLeaf {p : Nat} (hL : c_L H mk nn K tl) (ht : c_tr H mk p T) (q1 : 0 ≤ x → x < ((2 ^ t_dp T : Nat) : Int) → t_ky T (2 * x.toNat) ≠ [] → P 1 H) (q0 : ¬ (0 ≤ x ∧ x < ((2 ^ t_dp T : Nat) : Int) ∧ t_ky T (2 * x.toNat) ≠ []) → P 0 H) : wm_297 p x H P := by
  obtain ⟨ts, tok, dp, _⟩ := id ht
  have d4 := tok.1
  have p4 : (2 : Nat) ^ t_dp T ≤ 2 ^ 4 := Nat.pow_le_pow_right (by decide) d4
  have p1 : (2 : Nat) ^ (t_dp T + 1) = 2 * 2 ^ t_dp T := by rw [Nat.pow_succ]; omega
  unfold wm_297
  refine ⟨fun c => q0 (fun h => by omega), fun c => ?_⟩
  unfold wm_360
  intro v1 e1 _
  rw [dp] at e1
  rw [e1, sw_shl_1 d4]
  intro _ _
  refine ⟨fun c1 => q0 (fun h => by omega), fun c1 => ?_⟩
  obtain ⟨k, ek⟩ : ∃ k : Nat, x = k := ⟨x.toNat, by omega⟩
  subst ek
  rw [Int.toNat_natCast] at q1 q0
  obtain ⟨_, _, _, r1, _, _, _, tya, _⟩ := ts
  have ta := tya 1 (by omega) (by omega)
  rw [r1]
  refine ⟨ta.1, ?_⟩
  intro q6 e6
  rw [e6, sw_w_s (by omega) (by omega), show 2 * (k : Int) = ((2 * k : Nat) : Int) by omega]
  refine ⟨by omega, by rw [ta.2]; omega, ?_⟩
  intro v9 e9 _
  rw [Int.toNat_natCast] at e9
  have ky := c_ky0 hL ht (x := 2 * k) (by omega)
  have lw : 2 * k < t_w T := by unfold t_w; omega
  refine ⟨fun c2 => q0 (fun h => ?_), fun c2 => q1 c c1 (fun h => c2 (by rw [e9]; exact ky.mpr (Or.inr h)))⟩
  rcases ky.mp (by rw [← e9]; exact c2) with h1 | h1
  · omega
  · exact h.2.2 h1
/-- a message's hash -/
theorem c_hashM (lm : c_lm cn cs N U M) (hW : c_W H mk nn K tl cn cs) (h : c_sg H (w_d mk) r ra l) (o1 : ¬ c_ow H r) (o2 : ¬ c_ow H ra) (ll : l.length ≤ 1400) (bd : c_bl mk tl N U M) (k : ∀ z X, c_W X (w_tl mk (w_hs l)) nn K tl cn cs → w_at (w_tl mk (w_hs l)) z (w_hs l) → c_ch [] H X → P z X) : wm_164 11 r H P := by
  have t1 := hW.1.1.1.1.2.2.1
  unfold wm_164
  rw [hW.2.1.2.1]
  refine ⟨hW.1.1.1.1.1.1, ?_⟩
  intro q1 e1
  rw [e1]
  refine c_ofL (w := w_hs l) lm hW.1 h o1 o2 ll bd (by decide) (by unfold c_va; omega) (fun sg e => ?_) (fun X t VX tX cX _ _ => k t X (c_W_ch hW VX cX (by simp) (w_le_tl _ _)) tX cX)
  unfold w_tm w_hs w_t
  rw [e, if_neg (by decide)]
  rfl
theorem c_sg_tm {k : Nat} (hn : c_n H = mk.length) (h2 : c_sg H (w_d mk) r ra l) (hk : l[k]? = some w) (hw : w.head? ≠ some 1000) : ∃ z, w_at mk z w := by
  obtain ⟨s, hs, hv, hm⟩ := h2
  rw [← hm, List.getElem?_map, Option.map_eq_some_iff] at hk
  obtain ⟨y, hy, ey⟩ := hk
  have vy := hv y (List.mem_of_getElem? hy)
  rw [hn] at vy
  have y256 : ¬ y < 256 := fun c => hw (by rw [← ey]; exact w_by_head y _ c)
  unfold m_vs at vy
  refine ⟨y - 256, ?_⟩
  have e := w_at_of (mk := mk) (x := y - 256) (by omega) (by omega)
  unfold w_sg at ey
  rw [if_neg y256] at ey
  rw [ey] at e
  exact e
theorem w_at_mem {z : Int} (h : w_at mk z w) : w ∈ mk := List.mem_of_getElem? h.2
/-- a MAC's key is there -/
theorem c_mac_in {z : Int} {wk : Wt} {L : List Wt} (hL : c_L H mk nn K tl) (h : w_at mk z (w_t 2 wk [] [] L)) : wk ∈ mk := by
  obtain ⟨t1, t2, rw', eg⟩ := c_L_rw hL h
  obtain ⟨va, f0, f1, f2, hsn, hd, hn⟩ := rw'
  have n := hL.2.1
  by_cases c8 : c_d H z.toNat 0 = 0
  · have hc8 := hn c8
    clear hn
    rcases hc8 with ⟨_, hi⟩ | ⟨_, i, _, hi⟩
    · rw [eg] at hi
      have := (w_mk_inj hi).1
      omega
    · rw [eg] at hi
      have := (w_mk_inj hi).1
      omega
  · clear hn
    have hd := (hd c8).1
    rw [eg] at hd
    obtain ⟨h1, h2⟩ := w_mk_inj hd
    simp only [List.cons.injEq] at h2
    have v0 := va.1
    have s2 : c_d H z.toNat 0 = 2 := by omega
    have key : 1 ≤ c_d H z.toNat 1 ∧ c_d H z.toNat 1 ≤ c_n H := by
      obtain ⟨v0, v1, v2, v3, v4, v5, v6, v7, v8, v9, v10, _⟩ := va
      exact ⟨(v10 (Or.inl s2)).1, by omega⟩
    have e := w_at_of (mk := mk) (x := c_d H z.toNat 1) key.1 (by omega)
    have h3 := h2.1
    unfold w_dz at h3
    rw [if_neg (by omega)] at h3
    rw [← h3] at e
    exact w_at_mem e
theorem c_isContentSigned (hml : mk.length ≤ 999999999) (hW : c_W H mk nn K tl cn cs) (hTa : c_Ta H) (hRe : c_Re H) (hs : c_rs H mk r ra l) (r43 : 43 < r ∧ 43 < ra) (hvl : w_vl l) (hp : p_pr K l ep lf v sg tg) (h7 : sw_iv H 18 7 = lf) (hco : c_co H mk v) (q : ∀ z G, ((z = 1 ∧ w_cts v lf) ∨ (z = 0 ∧ ¬ w_cts v lf)) → c_W G mk nn K tl cn cs → c_fr [14, 15] H G → P z G) : wm_299 94 r H P := by
  obtain ⟨t94, _, r1, r2, _⟩ := hTa
  obtain ⟨kd, ⟨ik, ⟨m, k, p, so, ph, g0⟩, gg⟩, n0⟩ := v
  obtain ⟨o8, oL⟩ := hco
  have l14 := hs.2.2.2.2.2.2.1
  unfold wm_299
  rw [r2]
  refine ⟨hs.1, ?_⟩
  intro q1 e1 v4 e4 _
  rw [e1, o8] at e4
  have c3 := hp.2.2.2.2.1
  obtain ⟨_, _, dc⟩ := p_ct_ix c3
  refine ⟨fun c1 => ⟨hs.1, ?_⟩, fun c1 => ?_⟩
  · intro q7 e7 v10 e10 _
    rw [e7, o8] at e10
    refine ⟨fun c2 => q 1 H (Or.inl ⟨rfl, fun h => absurd h (by show kd ≠ 1; omega), fun h => absurd h (by show kd ≠ 2; omega)⟩) hW (c_fr_refl _ _), fun c2 => ?_⟩
    have k2 : kd = 2 := by omega
    obtain ⟨y1, y2⟩ := oL (by omega)
    rw [r1]
    refine ⟨hW.2.1.1, ?_⟩
    intro q13 e13
    refine ⟨hs.1, ?_⟩
    intro q16 e16
    rw [e16, hRe.1.2.2.2.1]
    refine ⟨hRe.2.2.1, ?_⟩
    intro q19 e19
    refine ⟨hs.1, ?_⟩
    intro q22 e22 v25 e25 _
    rw [e22, h7] at e25
    rw [e13, e19, e25]
    refine c_isLeafSigned hml hW y1 y2 (by decide) (fun z G hz WG FG _ _ => ⟨fun c => ?_, fun c => ?_⟩)
    · refine q 0 G (Or.inr ⟨rfl, fun h => ?_⟩) WG FG
      rcases hz with ⟨ez, _⟩ | ⟨_, hn⟩
      · omega
      · exact hn (h.2 k2)
    · refine q 1 G (Or.inl ⟨rfl, fun h => absurd h (by show kd ≠ 1; omega), fun _ => ?_⟩) WG FG
      rcases hz with ⟨_, h⟩ | ⟨ez, _⟩
      · exact h
      · exact absurd ez c
  · have k1 : kd = 1 := by omega
    obtain ⟨y1, y2⟩ := oL (by omega)
    rw [r1]
    refine ⟨hW.2.1.1, ?_⟩
    intro q35 e35
    refine ⟨hs.1, ?_⟩
    intro q38 e38
    rw [e38, hRe.1.2.2.2.1]
    refine ⟨hRe.2.2.1, ?_⟩
    intro q41 e41
    rw [e35, e41]
    have hpk : p_pk K l (some (10, 19)) = some ((ik, (m, k, p, so, ph, g0), gg), 19, 19) ∧ l.length - 2 = 19 := by
      rcases dc with d | d | d
      · exact ⟨d.2.2.2.1, (Prod.mk.inj d.2.1).1⟩
      · omega
      · omega
    refine c_isPackageSigned (i := 10) (e0 := 19) hml hW hs.2.2.2.1 (by omega) l14 hvl (by omega) hpk.1 y1 y2 (by decide) (fun z G hz WG FG _ _ => ?_)
    refine ⟨by rcases hz with ⟨e, _⟩ | ⟨e, _⟩ <;> omega, q z G ?_ WG FG⟩
    rcases hz with ⟨e, h⟩ | ⟨e, h⟩
    · exact Or.inl ⟨e, fun _ => h, fun h2 => absurd h2 (by show kd ≠ 2; omega)⟩
    · exact Or.inr ⟨e, fun h2 => h (h2.1 k1)⟩
theorem c_takeProposal (hm : m < 24) (lm : c_lm (cn + 4) (cs + 4000) N U M) (h0 : 0 ≤ cn ∧ 0 ≤ cs) (bm : c_bl mk tl N U M) (hB : c_BS H mk nn K tl cn cs tp rd ms La) (hTa : c_Ta H) (hRe : c_Re H) (hmi : ms[mi]? = some l) (hr : r = sw_rv H 1416 mi) (hs : c_rs H mk r ra l) (hvl : w_vl l) (hp : p_pr K l ep lf v sg tg) (h6 : sw_iv H 18 6 = ep) (h7 : sw_iv H 18 7 = lf) (hco : c_co H mk v) (hin : sw_iv H (120 + 54 * m) 3 = 0 ∨ (sw_iv H (120 + 54 * m) 3 = 1 ∧ c_pl (sw_rv H (120 + 54 * m) 4) ∧ c_gp H mk (sw_rv H (120 + 54 * m) 4) G')) (hL3 : (La m).length < 340) (bd : sw_iv H (120 + 54 * m) 3 = 1 → c_bl (w_tl (w_tl mk (w_mem G')) (w_hs l)) tl N U M) (q : ∀ z mm X cn' cs', w_dpR K (sw_iv H (120 + 54 * m) 3 = 1) G' l z → (mm = mk ∨ mm = w_tl mk (w_mem G') ∨ (z = 0 ∧ mm = w_tl (w_tl mk (w_mem G')) (w_hs l))) → ((cn' = cn ∧ cs' = cs ∧ sw_ln X (c_ka X m 8) = sw_ln H (c_ka H m 8)) ∨ (z = 0 ∧ cn' = cn + 2 ∧ cs' = cs + 4 * sw_ln H (c_ka H m 8) ∧ sw_ln X (c_ka X m 8) = 2 * sw_ln H (c_ka H m 8) ∧ sw_ln H (c_ka H m 8) < 340)) → c_BS X mm nn K tl cn' cs' tp rd ms (if z = 0 then w_upd La m (w_kp (La m) (w_hs l) mi) else La) → (∀ f, f ≠ 9 → sw_iv X (120 + 54 * m) f = sw_iv H (120 + 54 * m) f) → (∀ f, f ≠ 7 → f ≠ 8 → sw_rv X (120 + 54 * m) f = sw_rv H (120 + 54 * m) f) → c_ch [14, 15, 120 + 54 * m, c_ka H m 7, c_ka H m 8] H X → P z X) : wm_207 94 (120 + 54 * m) r mi H P := by
  obtain ⟨hW, hX, hMS, hK⟩ := id hB
  have fl := hW.1.2.2.2.1
  have ad := hW.1.2.2.2.2
  have lm0 : c_lm cn cs N U M := c_lm_le lm (by omega) (by omega)
  have hml := c_W_len lm0 bm
  obtain ⟨t94, _, r1, r2, _⟩ := id hTa
  obtain ⟨g1, g2, g3, a', g4, g5, hsg0⟩ := hX.2.2.2.2.2 mi l hmi
  rw [← hr] at g1 g2 hsg0
  have hsg := hs.2.2.2.1
  have era : ra = a' := by
    rw [← hsg.choose_spec.1.2.1, ← hsg0.choose_spec.1.2.1]
  subst era
  have r43 : 43 < r ∧ 43 < ra := by omega
  obtain ⟨n2, ⟨b0, c0⟩, c1, c2, c3, c4, c5⟩ := id hp
  obtain ⟨z0, z65⟩ : 0 ≤ lf ∧ lf < 65536 := by
    obtain ⟨_, y2, y3, _⟩ := p_16_sl hvl (Nat.le_refl _) c2
    exact ⟨y2, y3⟩
  have esg := p_t_sl (Nat.le_refl _) c4
  have etg := p_t_sl (Nat.le_refl _) c5
  obtain ⟨_, _, _, hsg7, _⟩ := p_t_in c4
  obtain ⟨_, _, _, htg2, _⟩ := p_t_in c5
  -- a refusal
  have no : ∀ {X : sw_H} (z : Int), z ≠ 0 → w_dpR K (sw_iv H (120 + 54 * m) 3 = 1) G' l z → c_W X mk nn K tl cn cs → c_ch [14, 15] H X → P z X := by
    intro X z hz hR WX cX
    have mv := c_fx_iv fl ad cX (q := 120 + 54 * m) (by unfold c_fix; omega) (by simp; omega)
    have kp := (hK.1 m hm).1
    have ka8 : c_ka X m 8 = c_ka H m 8 := mv.2 8
    refine q z mk X cn cs hR (Or.inl rfl) (Or.inl ⟨rfl, rfl, ?_⟩) ?_ (fun f _ => mv.1 f) (fun f _ _ => mv.2 f) (c_ch_sub cX (by simp))
    · rw [ka8]; exact (cX.1.2 _ (by rw [kp.1.2]; decide)).2
    · rw [if_neg hz]
      exact c_BS_ch hB WX cX (w_le_refl _) (by unfold c_hl; simp)
  unfold wm_207
  intro v1 e1 _
  refine ⟨fun c => no 2 (by decide) (Or.inr ⟨ep, lf, v, sg, tg, hp, Or.inl ⟨Or.inl (by omega), rfl⟩⟩) hW (c_ch_refl _ _), fun c => ?_⟩
  rw [r2]
  refine ⟨hs.1, ?_⟩
  intro q4 e4 v7 e7 _
  rw [e4, h6] at e7
  obtain ⟨in1, hpl, gp⟩ : sw_iv H (120 + 54 * m) 3 = 1 ∧ c_pl (sw_rv H (120 + 54 * m) 4) ∧ c_gp H mk (sw_rv H (120 + 54 * m) 4) G' := by
    rcases hin with h | h
    · omega
    · exact h
  have bd := bd in1
  obtain ⟨pl1, pl2⟩ := c_pl_b hpl
  obtain ⟨g, eg⟩ : ∃ g, sw_rv H (120 + 54 * m) 4 = g := ⟨_, rfl⟩
  rw [eg] at gp pl1 pl2 hpl
  obtain ⟨gs, gok, gep, glf, gtr, gth, gcf, gin, ges, ghd, _⟩ := id gp
  rw [eg]
  refine ⟨gs.2.2.1, ?_⟩
  intro q10 e10 v13 e13 _
  rw [e10, gep] at e13
  refine ⟨fun c1' => ?_, fun c1' => no 2 (by decide) (Or.inr ⟨ep, lf, v, sg, tg, hp, Or.inl ⟨Or.inr (by omega), rfl⟩⟩) hW (c_ch_refl _ _)⟩
  have eep : ep = gg_ep G' := by omega
  have no3 : ¬ w_sd G' lf → P 3 H := fun h => no 3 (by decide) (Or.inr ⟨ep, lf, v, sg, tg, hp, Or.inr ⟨in1, eep, Or.inl ⟨h, rfl⟩⟩⟩) hW (c_ch_refl _ _)
  refine ⟨gs.2.2.1, ?_⟩
  intro q16 e16
  rw [e16, gs.2.2.2.1]
  refine ⟨gtr.1.2.2.1, ?_⟩
  intro q19 e19
  refine ⟨hs.1, ?_⟩
  intro q25 e25 v28 e28 _
  rw [e25, h7] at e28
  refine ⟨gs.2.2.1, ?_⟩
  intro q31 e31 v34 e34 _
  rw [e31, glf] at e34
  refine ⟨fun c2' => no3 (fun h => h.2.2 (by omega)), fun c2' => ⟨hs.1, ?_⟩⟩
  intro q37 e37 v40 e40 _
  rw [e37, h7] at e40
  rw [e19, e40]
  refine c_hasLeaf hW.1.1 gtr (fun h1 h2 h3 _ _ => ⟨fun _ => ?_, fun c => absurd c (by decide)⟩) (fun h _ _ => ⟨fun c => absurd rfl c, fun _ => no3 (fun h' => h ⟨z0, h'.1, h'.2.1⟩)⟩)
  have hsd : w_sd G' lf := ⟨h2, h3, by omega⟩
  obtain ⟨k, ek⟩ : ∃ k : Nat, lf = k := ⟨lf.toNat, by omega⟩
  subst ek
  rw [Int.toNat_natCast] at h3
  have d4 := gtr.2.1.1
  have p4 : (2 : Nat) ^ t_dp (gg_T G') ≤ 2 ^ 4 := Nat.pow_le_pow_right (by decide) d4
  have p1 : (2 : Nat) ^ (t_dp (gg_T G') + 1) = 2 * 2 ^ t_dp (gg_T G') := by rw [Nat.pow_succ]; omega
  have lw : 2 * k < t_w (gg_T G') := by unfold t_w; omega
  obtain ⟨lf1, lf2⟩ := gtr.2.2.2.2.2 k lw h3
  obtain ⟨_, _, _, _, _, _, rv4, _, ty4, ln4, rvk⟩ := gtr.1
  have k16 : k < 16 := by omega
  rw [r1]
  refine ⟨hW.2.1.1, ?_⟩
  intro q48 e48
  rw [rv4]
  refine ⟨ty4, ?_⟩
  intro q51 e51
  rw [r2]
  refine ⟨hs.1, ?_⟩
  intro q54 e54 v57 e57 _
  rw [e54, h7] at e57
  rw [e51, e57]
  refine ⟨by omega, by rw [ln4]; omega, ?_⟩
  rw [Int.toNat_natCast, (rvk k k16).1]
  refine ⟨(rvk k k16).2, ?_⟩
  intro q60 e60 v63 e63 _
  rw [(c_sg_len hsg).1] at e63
  rw [eg]
  refine ⟨gs.2.2.1, ?_⟩
  intro q66 e66
  rw [e48, e60, e66, e63, sw_w_s (by omega) (by omega), show (l.length : Int) - 2 = ((l.length - 2 : Nat) : Int) by omega]
  refine c_isSignedWithContext (sk := t_sk (gg_T G') k) (mo := t_ow (gg_T G') k) hml hW hsg (by omega) (by omega) esg (by rw [hsg7]; decide) gp lf1.1 lf1.2.2.1 (by omega) (fun z1 G1 hz1 W1 F1 _ _ => ?_)
  have C1 := c_V_ch hW.1 F1 (by unfold c_fix; simp)
  have no4 : ∀ {X : sw_H}, ¬ (w_sok (t_ow (gg_T G') k) (t_sk (gg_T G') k) sg (w_sli l 0 (l.length - 2) ++ w_cx G') ∧ w_cts v k) → c_W X mk nn K tl cn cs → c_ch [14, 15] H X → P 4 X := by
    intro X h WX cX
    refine no 4 (by decide) (Or.inr ⟨ep, k, v, sg, tg, hp, Or.inr ⟨in1, eep, Or.inr ⟨hsd, Or.inl ⟨?_, rfl⟩⟩⟩⟩) WX cX
    rw [Int.toNat_natCast]; exact h
  refine ⟨fun c3' => no4 (fun h => ?_) W1 C1, fun c3' => ?_⟩
  · rcases hz1 with ⟨ez, _⟩ | ⟨_, hn⟩
    · omega
    · exact hn h.1
  have hsok : w_sok (t_ow (gg_T G') k) (t_sk (gg_T G') k) sg (w_sli l 0 (l.length - 2) ++ w_cx G') := by
    rcases hz1 with ⟨_, h⟩ | ⟨ez, _⟩
    · exact h
    · exact absurd ez c3'
  have hs1 : c_rs G1 mk r ra l := by
    obtain ⟨s1, s2, s3, s4, s5, s6, s7, s8⟩ := hs
    exact ⟨by rw [F1.2.2.1]; exact s1, by rw [F1.2.2.2.2.1]; exact s2, by rw [F1.2.2.2.2.1]; exact s3, c_sg_fr s4 F1 (by simp; omega) (by simp; omega) (by decide), s5, s6, s7, W1.1.1.2.1⟩
  have hco1 : c_co G1 mk v := by
    obtain ⟨kd, ⟨ik, ⟨pm, pk, pp, so, ph, g0⟩, gg⟩, n0⟩ := v
    obtain ⟨o1, o2⟩ := hco
    have i22 : sw_iv G1 22 = sw_iv H 22 := F1.2.2.2.2.2 22 (by decide)
    refine ⟨by rw [F1.2.2.2.2.2 18 (by decide)]; exact o1, fun hk => ?_⟩
    obtain ⟨o3, o4⟩ := o2 hk
    exact ⟨c_lf_iv o3 (fun f _ => by rw [i22]) (w_le_refl _), by rw [i22]; exact o4⟩
  refine c_isContentSigned hml W1 (c_Ta_ch hTa fl ad C1 (by simp)) (c_Re_fr hRe F1) hs1 r43 hvl hp (by rw [F1.2.2.2.2.2 18 (by decide)]; exact h7) hco1 (fun z2 G2 hz2 W2 F2 _ _ => ?_)
  have F12 := c_fr_t F1 F2
  have C2 := c_V_ch hW.1 F12 (by unfold c_fix; simp)
  refine ⟨fun c4' => ?_, fun c4' => no4 (fun h => ?_) W2 C2⟩
  rotate_left
  · rcases hz2 with ⟨ez, _⟩ | ⟨_, hn⟩
    · omega
    · exact hn h.2
  have hcts : w_cts v k := by
    rcases hz2 with ⟨_, h⟩ | ⟨ez, _⟩
    · exact h
    · exact absurd ez c4'
  have Aok : w_sok (t_ow (gg_T G') (k : Int).toNat) (t_sk (gg_T G') (k : Int).toNat) sg (w_sli l 0 (l.length - 2) ++ w_cx G') ∧ w_cts v k := ⟨by rw [Int.toNat_natCast]; exact hsok, hcts⟩
  rw [F12.2.2.2.2.1, r1]
  refine ⟨W2.2.1.1, ?_⟩
  intro q79 e79
  rw [F12.2.2.2.2.1, eg]
  refine ⟨by rw [F12.2.2.1]; exact gs.2.2.1, ?_⟩
  intro q82 e82
  rw [e79, e82]
  have gp2 := c_gp_1415 hW.1 gp F12
  have sg2 := c_sg_fr hsg F12 (by simp; omega) (by simp; omega) (by decide)
  refine c_isTagRight (j := l.length - 1) lm0 bm W2 sg2 (by omega) (by omega) (by omega) etg (by rw [htg2]; decide) gp2 (fun z3 mm G3 hz3 hmm W3 c3' _ _ => ?_)
  have C3 : c_ch [14, 15] H G3 := c_ch_t C2 c3'
  have lemm : w_le mk mm := by
    rcases hmm with e | e
    · rw [e]; exact w_le_refl _
    · rw [e]; exact w_le_tl _ _
  have B3 := c_BS_ch hB W3 C3 lemm (by unfold c_hl; simp)
  have mv3 := c_fx_iv fl ad C3 (q := 120 + 54 * m) (by unfold c_fix; omega) (by simp; omega)
  have kp := (hK.1 m hm).1
  have ka7 : c_ka G3 m 7 = c_ka H m 7 := mv3.2 7
  have ka8 : c_ka G3 m 8 = c_ka H m 8 := mv3.2 8
  have l83 : sw_ln G3 (c_ka G3 m 8) = sw_ln H (c_ka H m 8) := by
    rw [ka8]; exact (C3.1.2 _ (by rw [kp.1.2]; decide)).2
  refine ⟨fun c5' => ?_, fun c5' => ?_⟩
  rotate_left
  · have hne : tg ≠ w_t 2 (w_mem G') [] [] (w_sli l 0 (l.length - 1)) := by
      rcases hz3 with ⟨ez, _⟩ | ⟨_, hn⟩
      · omega
      · exact hn
    refine q 5 mm G3 cn cs (Or.inr ⟨ep, k, v, sg, tg, hp, Or.inr ⟨in1, eep, Or.inr ⟨hsd, Or.inr ⟨Aok, Or.inl ⟨hne, rfl⟩⟩⟩⟩⟩) ?_ (Or.inl ⟨rfl, rfl, l83⟩) (by rw [if_neg (by decide)]; exact B3) (fun f _ => mv3.1 f) (fun f _ _ => mv3.2 f) (c_ch_sub C3 (by simp))
    rcases hmm with e | e
    · exact Or.inl e
    · exact Or.inr (Or.inl e)
  have heq : tg = w_t 2 (w_mem G') [] [] (w_sli l 0 (l.length - 1)) := by
    rcases hz3 with ⟨_, h⟩ | ⟨ez, _⟩
    · exact h
    · exact absurd ez c5'
  -- the key of membership is there
  have emm : mm = w_tl mk (w_mem G') := by
    rcases hmm with e | e
    · obtain ⟨z, hz⟩ := c_sg_tm hW.1.1.2.1 hsg etg (by rw [htg2]; decide)
      rw [heq] at hz
      have hin' := c_mac_in hW.1.1 hz
      rw [e]
      unfold w_tl
      rw [if_pos hin']
    · exact e
  subst emm
  have O3 := B3.2.1.1
  have rv94 : ∀ f, sw_rv G3 94 f = sw_rv H 94 f := (c_fx_iv fl ad C3 (q := 94) (by unfold c_fix; omega) (by simp)).2
  rw [rv94 1, r1]
  refine ⟨W3.2.1.1, ?_⟩
  intro q90 e90
  rw [e90]
  have o1' : ¬ c_ow G3 r := c_ch_no C3 (by rw [hsg.choose_spec.1.1]; decide) g2
  have o2' : ¬ c_ow G3 ra := c_ch_no C3 (by rw [hsg.choose_spec.1.2.2.1]; decide) g5
  have sg3 : c_sg G3 (w_d (w_tl mk (w_mem G'))) r ra l := by
    have l1 := w_le_len lemm
    have n1 := hW.1.1.2.1
    have n3 := W3.1.1.2.1
    exact c_sg_ch hsg C3 g2 g5 (by simp; omega) (by simp; omega) (by omega) (fun u hu => w_le_d lemm (by omega))
  refine c_hashM lm0 W3 sg3 o1' o2' (by omega) (c_bl_le (w_le_tl _ _) bd) (fun z6 G6 W6 a6 c6 _ _ => ?_)
  have B6 := c_BS_ch B3 W6 c6 (w_le_tl _ _) (by simp)
  have C6 : c_ch [14, 15] H G6 := c_ch_sub (c_ch_trans C3 c6) (by simp)
  have mv := c_fx_iv fl ad C6 (q := 120 + 54 * m) (by unfold c_fix; omega) (by simp; omega)
  have sm := c_A_sm lm0 W6.1.2.2.1 W6.1.1.1 (c_bd_le (c_bl_bd W6.1.1 bd) (by omega) (by omega) (by omega))
  have ka76 : c_ka G6 m 7 = c_ka H m 7 := mv.2 7
  have ka86 : c_ka G6 m 8 = c_ka H m 8 := mv.2 8
  have l86 : sw_ln G6 (c_ka G6 m 8) = sw_ln H (c_ka H m 8) := by
    rw [ka86]; exact (C6.1.2 _ (by rw [kp.1.2]; decide)).2
  refine c_keepProposal (n := mi) hm W6 B6.2.1 B6.2.2.1 B6.2.2.2 hL3 (by omega) a6 (fun G7 cn' cs' hcc W7 X7 K7 i7 r7 c7 _ => ?_)
  have kq := (B6.2.2.2.1 m hm).1.2.2.2.2.2
  have MS7 : c_MS G7 _ := c_MS_ch B6.2.2.1 W6.1.2.2.2.1 W6.1.2.2.2.2 c7 (fun c => by
      simp only [List.mem_cons, List.not_mem_nil, or_false] at c
      omega) (fun m' hm' hin' f hf => by
      by_cases em : m' = m
      · rw [em]; exact i7 f (by omega)
      · exfalso
        simp only [List.mem_cons, List.not_mem_nil, or_false] at hin'
        omega) (w_le_refl _)
  rw [ka76, ka86] at c7
  refine q 0 _ G7 cn' cs' (Or.inr ⟨ep, k, v, sg, tg, hp, Or.inr ⟨in1, eep, Or.inr ⟨hsd, Or.inr ⟨Aok, Or.inr ⟨heq, rfl⟩⟩⟩⟩⟩) (Or.inr (Or.inr ⟨rfl, rfl⟩)) ?_ (by rw [if_pos rfl]; exact ⟨W7, X7, MS7, K7⟩) (fun f hf => by rw [i7 f hf, mv.1 f]) (fun f h1 h2 => by rw [r7 f h1 h2, mv.2 f]) (c_ch_sub (c_ch_trans C6 c7) (by simp))
  rw [l86] at hcc
  rcases hcc with ⟨d1, d2, d3⟩ | ⟨d1, d2, d3, d4⟩
  · exact Or.inl ⟨d1, d2, d3⟩
  · exact Or.inr ⟨rfl, d1, d2, d3, d4⟩
end
