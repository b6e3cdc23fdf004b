/-! ===== the class: propose, all of it ===== -/
noncomputable section
variable {H Z X Y : sw_H} {nn nm r ra g m n : Nat} {K K' S : Wt → Prop} {tl tl' tp mk mm l lp b : List Wt} {ms : List (List Wt)} {rd : Nat → Int} {a c x y cn cs cn' cs' N U M kd of : Int} {Q : sw_H → Prop} {P : Int → sw_H → Prop} {E : Nat → sw_H → Prop} {A B : List Nat} {w h : Wt} {L : List (Wt × Nat)} {G' : w_G} {Ul : List (Wt × Wt)} {Ga : Nat → w_G} {La : Nat → List (Wt × Nat)} {Ua : Nat → List (Wt × Wt)}
theorem c_Bk_hl {a : Nat} (h : a ∈ [14, 15] ++ c_Bk) : c_hl a := by
  rw [List.mem_append] at h
  unfold c_hl
  rcases h with h | h
  · simp at h; omega
  · have := c_Bk_b h; omega
/-- whatever stays when messages are read -/
theorem c_rdg_ch (hml : mk.length ≤ 999999999) (hB : c_BS H mk nn K tl cn cs tp rd ms La) (hW : c_W Z mk nn K tl cn cs) (k : c_ch ([14, 15] ++ c_Bk) H Z) : c_BS Z mk nn K tl cn cs tp rd ms La := c_BS_ch hB hW k (w_le_refl _) (fun a ha => c_Bk_hl ha)
theorem c_propose (lm : c_lm (cn + 4) (cs + 4000) N U M) (h0 : 0 ≤ cn ∧ 0 ≤ cs) (hB : c_BS H mk nn K tl cn cs tp rd ms La) (h48 : sw_ty H 1422 = 48) (hOut : c_Out H) (hRe : c_Re H) (h18 : c_r18 H) (hma : ∀ m, m < 24 → c_ma H m) (hup : ∀ m, m < 24 → c_up H mk m (Ua m) ∧ (Ua m).length ≤ (La m).length) (hin : ∀ m, m < 24 → sw_iv H (120 + 54 * m) 3 = 0 ∨ (sw_iv H (120 + 54 * m) 3 = 1 ∧ c_pl (sw_rv H (120 + 54 * m) 4) ∧ c_gp H mk (sw_rv H (120 + 54 * m) 4) (Ga m))) (rm : sw_n H < sxlim.1 ∧ sw_s H + 6 ≤ sxlim.2) (bm : c_bl mk tl N U M) (bd : ∀ (m : Nat) l, x = m → m < 24 → sw_iv H (120 + 54 * m) 3 = 1 → ms.length < 300 → (La m).length < 20 → (kd = 1 → ms[of.toNat]? = some l) → c_bl (w_tls mk (w_prA m nn (Ga m) kd of l)) tl N U M)
    (q1 : w_prN x kd of ms.length → E (sw_n H + 2) (sw_nw H 112 0 6))
    (q2 : ∀ l X, ¬ w_prN x kd of ms.length → kd = 1 → ms[of.toNat]? = some l → ¬ w_rp K l → c_BS X mk nn K tl cn cs tp rd ms La → c_Re X → c_r18 X → c_ch ([14, 15] ++ c_Bk) H X → sw_n X = sw_n H → sw_s X = sw_s H → E (sw_n X + 2) (sw_nw X 128 0 6))
    (q3 : ∀ (m : Nat) X, ¬ w_prN x kd of ms.length → (kd = 1 → ∃ l, ms[of.toNat]? = some l ∧ w_rp K l) → x = m → m < 24 → (ms.length = 300 ∨ sw_iv H (120 + 54 * m) 3 = 0 ∨ 20 ≤ (La m).length) → c_BS X mk nn K tl cn cs tp rd ms La → c_Re X → c_r18 X → c_ch ([14, 15] ++ c_Bk) H X → sw_n X = sw_n H → sw_s X = sw_s H → E (sw_n X + 2) (sw_nw X 120 0 6))
    (q : ∀ (m : Nat) l X cn' cs', ¬ w_prN x kd of ms.length → (kd = 1 → ms[of.toNat]? = some l ∧ w_rp K l) → x = m → m < 24 → ms.length < 300 → sw_iv H (120 + 54 * m) 3 = 1 → (La m).length < 20 → ((cn' = cn + 2 ∧ cs' ≤ cs + 1200 ∧ sw_ln X (c_ka X m 8) = sw_ln H (c_ka H m 8)) ∨ (cn' = cn + 4 ∧ cs' ≤ cs + 1200 + 4 * sw_ln H (c_ka H m 8) ∧ sw_ln X (c_ka X m 8) = 2 * sw_ln H (c_ka H m 8) ∧ sw_ln H (c_ka H m 8) < 340)) → c_BS X (w_tls mk (w_prA m nn (Ga m) kd of l)) (if kd = 2 then nn + 1 else nn) (w_lrs K (w_prM (Ga m) m (w_prB (Ga m) kd (w_prC m nn (Ga m) kd of l)))) tl cn' cs' tp rd (ms ++ [w_prM (Ga m) m (w_prB (Ga m) kd (w_prC m nn (Ga m) kd of l))]) (w_upd La m (w_kp (La m) (w_hs (w_prM (Ga m) m (w_prB (Ga m) kd (w_prC m nn (Ga m) kd of l)))) ms.length)) → c_up X (w_tls mk (w_prA m nn (Ga m) kd of l)) m (if kd = 2 then Ua m ++ [(w_hs (w_prM (Ga m) m (w_prB (Ga m) kd (w_prC m nn (Ga m) kd of l))), w_nm nn)] else Ua m) → c_Out X → c_Re X → c_r18 X → (∀ f, f ≠ 9 → f ≠ 11 → sw_iv X (120 + 54 * m) f = sw_iv H (120 + 54 * m) f) → (∀ f, f ≠ 7 → f ≠ 8 → sw_rv X (120 + 54 * m) f = sw_rv H (120 + 54 * m) f) → c_ch (c_pA m H) H X → P ms.length X) : wm_82 2 x kd of H P E := by
  obtain ⟨hW, hX, hMS, hK⟩ := id hB
  have fl := hW.1.2.2.2.1
  have ad := hW.1.2.2.2.2
  have O := hX.1
  have o7 : sw_rv H 2 7 = 18 := O.2.2.2.2.2.2.2.1
  have o3 : sw_rv H 2 3 = 1416 := O.2.2.2.2.1
  have o1 : sw_rv H 2 1 = 11 := O.2.2.1
  have t1416 : sw_ty H 1416 = 81 ∧ sw_ln H 1416 = 300 := O.2.2.2.2.2.2.2.2.2.2.2.2.2
  have m300 := hX.2.2.2.2.1
  have lm0 : c_lm cn cs N U M := c_lm_le lm (by omega) (by omega)
  have hml := c_W_len lm0 bm
  have none : w_prN x kd of ms.length → wb_82_25 P E H := fun h => ⟨rm.1, rm.2, fun H1 e1 => by rw [e1]; exact q1 h⟩
  unfold wm_82
  refine c_memberAt O hMS rm (fun m em hm => ⟨(hMS.2.2 m hm).2.1, fun _ _ => ?_⟩) (fun h => q1 (by unfold w_prN; omega))
  subst em
  -- all the same but for reading
  have go : ∀ (l : List Wt) (X : sw_H), ¬ w_prN m kd of ms.length → (kd = 1 → ms[of.toNat]? = some l ∧ w_rp K l) → c_BS X mk nn K tl cn cs tp rd ms La → c_Re X → c_r18 X → c_ch ([14, 15] ++ c_Bk) H X → sw_n X = sw_n H → sw_s X = sw_s H → wb_82_63 P E 2 kd of (120 + 54 * m) X := by
    intro l X hn hl BX ReX r18X cX nX sX
    have notin : ∀ a, 43 < a → a ∉ [14, 15] ++ c_Bk := fun a ha c => by
      rw [List.mem_append] at c
      rcases c with c | c
      · simp at c; omega
      · have := c_Bk_b c; omega
    have fxv : ∀ a, 43 < a → a ≤ 1491 → (∀ f, sw_iv X a f = sw_iv H a f) ∧ ∀ f, sw_rv X a f = sw_rv H a f := fun a h1 h2 => c_fx_iv fl ad cX (by unfold c_fix; omega) (notin a h1)
    have ty : ∀ a, 1 ≤ a → a ≤ 1491 → sw_ty X a = sw_ty H a ∧ sw_ln X a = sw_ln H a := fun a h1 h2 => cX.1.2 a (fl a h1 h2)
    have mv := fxv (120 + 54 * m) (by omega) (by omega)
    have kp := (hK.1 m hm).1
    have ka7 : c_ka X m 7 = c_ka H m 7 := mv.2 7
    have ka8 : c_ka X m 8 = c_ka H m 8 := mv.2 8
    have l8 : sw_ln X (c_ka X m 8) = sw_ln H (c_ka H m 8) := by
      rw [ka8]
      exact (cX.1.2 _ (by rw [kp.1.2]; decide)).2
    have outX : c_Out X := by
      obtain ⟨h1, s, hs⟩ := hOut
      refine ⟨by rw [(ty 1421 (by decide) (by decide)).2]; exact h1, s, c_row_ch hs cX (c_fix_no ad (by unfold c_fix; omega)) (c_fix_no ad (by unfold c_fix; omega)) (notin _ (by decide)) (notin _ (by decide))⟩
    refine c_prop_go (G' := Ga m) (Ul := Ua m) (lp := l) hm lm h0 BX (by rw [(ty 1422 (by decide) (by decide)).1]; exact h48) outX (c_ma_ch (hma m hm) hm fl ad cX (fun c => absurd c (notin _ (by omega)))) (c_up_ch (hup m hm).1 hm fl ad cX (fun c => absurd c (notin _ (by omega))) (notin _ (by omega)) (w_le_refl _)) (hup m hm).2 (fun h => ?_) ?_ ?_ (by rw [nX, sX]; exact rm) (fun h3 h1 h20 => bd m l rfl hm (by rw [← mv.1]; exact h1) h3 h20 (fun c => (hl c).1)) (fun h => q3 m X hn (fun c => ⟨l, hl c⟩) rfl hm (by rw [← mv.1]; exact h) BX ReX r18X cX nX sX) (fun Y cn' cs' h3 h1 h20 hcc BY uY oY iY rY cY => ?_)
    · rw [mv.1] at h
      rw [mv.2]
      rcases hin m hm with h' | ⟨_, h2, h3⟩
      · omega
      · refine ⟨h2, c_gp_ch h3 fl ad cX (fun a ha => ?_) (w_le_refl _)⟩
        obtain ⟨p1, p2⟩ := c_pl_b h2
        rw [List.mem_append] at ha
        rcases ha with ha | ha
        · simp at ha; omega
        · have := c_Bk_b ha; omega
    · rw [mv.1]
      rcases hin m hm with h' | ⟨h', _⟩
      · exact Or.inl h'
      · exact Or.inr h'
    · unfold w_prN at hn
      by_cases k1 : kd = 1
      · obtain ⟨v, hv, _⟩ := (hl k1).2
        exact Or.inl ⟨k1, by omega, (hl k1).1, by have := hv.1; omega⟩
      · by_cases k2 : kd = 2
        · exact Or.inr (Or.inl k2)
        · exact Or.inr (Or.inr (by omega))
    · rw [ka7, ka8] at cY
      rw [l8] at hcc
      have far : ∀ a ∈ [14, 15, 1420, 1421, 1422, 2, 1416, 120 + 54 * m, 120 + 54 * m + 49, c_ka H m 7, c_ka H m 8], a < 18 ∨ 43 < a := fun a ha => by
        have := kp.2.2.2.2.2
        simp only [List.mem_cons, List.not_mem_nil, or_false] at ha
        omega
      refine q m l Y cn' cs' hn hl rfl hm h3 (by rw [← mv.1]; exact h1) h20 hcc BY uY oY (c_Re_ch ReX BX.1.1.2.2.2.1 BX.1.1.2.2.2.2 cY far) (c_r18_ch r18X BX.1.1.2.2.2.1 BX.1.1.2.2.2.2 cY (fun c => by have := far _ c; omega)) (fun f h9 h11 => by rw [iY f h9 h11, mv.1]) (fun f h7 h8 => by rw [rY f h7 h8, mv.2]) (c_ch_sub (c_ch_trans cX cY) (fun a ha => ?_))
      unfold c_pA
      simp only [List.mem_append, List.mem_cons, List.not_mem_nil, or_false] at ha ⊢
      rcases ha with (ha | ha) | ha
      · exact Or.inl (Or.inl ha)
      · exact Or.inl (Or.inr ha)
      · rcases ha with e | e | e | e | e | e | e | e | e | e | e
        · exact Or.inl (Or.inl (Or.inl e))
        · exact Or.inl (Or.inl (Or.inr e))
        · exact Or.inr (Or.inl e)
        · exact Or.inr (Or.inr (Or.inl e))
        · exact Or.inr (Or.inr (Or.inr (Or.inl e)))
        · exact Or.inr (Or.inr (Or.inr (Or.inr (Or.inl e))))
        · exact Or.inr (Or.inr (Or.inr (Or.inr (Or.inr (Or.inl e)))))
        · exact Or.inr (Or.inr (Or.inr (Or.inr (Or.inr (Or.inr (Or.inl e))))))
        · exact Or.inr (Or.inr (Or.inr (Or.inr (Or.inr (Or.inr (Or.inr (Or.inl e)))))))
        · exact Or.inr (Or.inr (Or.inr (Or.inr (Or.inr (Or.inr (Or.inr (Or.inr (Or.inl e))))))))
        · exact Or.inr (Or.inr (Or.inr (Or.inr (Or.inr (Or.inr (Or.inr (Or.inr (Or.inr e))))))))
  have c30 : ¬ w_prN m kd of ms.length → wb_82_30 P E 2 kd of (120 + 54 * m) H := by
    intro hn
    unfold wb_82_30
    refine ⟨fun k1 => go [] H hn (fun c => absurd c k1) hB hRe h18 (c_ch_refl _ _) rfl rfl, fun k1 => ?_⟩
    have of0 : 0 ≤ of ∧ of < ms.length := by unfold w_prN at hn; omega
    obtain ⟨lp, hlp⟩ : ∃ lp, ms[of.toNat]? = some lp := ⟨ms[of.toNat]'(by omega), List.getElem?_eq_getElem (by omega)⟩
    obtain ⟨g1, g2, g3, a', g4, g5, hsg⟩ := hX.2.2.2.2.2 of.toNat lp hlp
    have t80 : sw_ty H (sw_rv H 1416 of.toNat) = 80 := hsg.choose_spec.1.1
    have hvl := c_sg_vl hW.1.1 hsg
    rw [o7]
    refine ⟨h18.1, ?_⟩
    intro q137 e137
    rw [o3]
    refine ⟨t1416.1, ?_⟩
    intro q140 e140
    rw [e140]
    refine ⟨of0.1, by rw [t1416.2]; omega, t80, ?_⟩
    intro q143 e143
    rw [e137, e143]
    refine c_isRead hml (by omega) hvl (by omega) hW hRe h18 hsg (fun z G1 hz01 hz f1 W1 Re1 rs1 _ _ => ?_)
    have hBk15 : ∀ a ∈ c_Bk, 15 < a ∧ a ≤ 1491 := fun a ha => by have := c_Bk_b ha; omega
    have c1 : c_ch ([14, 15] ++ c_Bk) H G1 := c_ch_sub (c_fa_ch hW f1 (fun a ha => (hBk15 a ha).1)) (fun a ha => List.mem_append_right _ ha)
    have B1 := c_rdg_ch hml hB W1 c1
    have r181 : c_r18 G1 := ⟨rs1.1, rs1.2.1⟩
    -- it is no package that is right
    have bad : ∀ X, ¬ w_rp K lp → c_BS X mk nn K tl cn cs tp rd ms La → c_Re X → c_r18 X → c_ch ([14, 15] ++ c_Bk) H X → sw_n X = sw_n H → sw_s X = sw_s H → wb_82_58 P E X := fun X hr BX ReX rX cX nX sX => ⟨by rw [nX]; exact rm.1, by rw [sX]; exact rm.2, fun H1 e1 => by rw [e1]; exact q2 lp X hn k1 hlp hr BX ReX rX cX nX sX⟩
    have ftP : ∀ v, w_isP K lp v → w_ft lp 1 := fun v hv => by
      obtain ⟨ik, lf, g⟩ := v
      obtain ⟨_, _, x3, _⟩ := p_pk_ix hv.2
      exact (p_8_sl hvl (Nat.le_refl _) x3).1
    have by_ne : ∀ s t : Int, 0 ≤ s → 0 ≤ t → w_by s = w_by t → s = t := fun s t h1 h2 h => by
      have h := congrArg w_bv h
      rw [w_bv_by h1, w_bv_by h2] at h
      exact h
    refine ⟨fun c => ?_, fun c => ?_⟩
    · refine bad G1 (fun hr => ?_) B1 Re1 r181 c1 f1.2.1 f1.2.2.1
      obtain ⟨v, hv, _⟩ := hr
      have ft1 := ftP v hv
      rcases hz with ⟨_, _, h1 | h1⟩ | ⟨h2, _⟩ | ⟨h2, _⟩ | ⟨h2, _⟩ | ⟨h2, _⟩
      · omega
      · exact h1.2 v hv
      · unfold w_ft at ft1 h2; rw [ft1] at h2; have := by_ne 1 2 (by decide) (by decide) (Option.some.inj h2); omega
      · unfold w_ft at ft1 h2; rw [ft1] at h2; have := by_ne 1 3 (by decide) (by decide) (Option.some.inj h2); omega
      · unfold w_ft at ft1 h2; rw [ft1] at h2; have := by_ne 1 4 (by decide) (by decide) (Option.some.inj h2); omega
      · exact h2 1 (by decide) (by decide) ft1
    · have O1 := B1.2.1.1
      rw [show sw_rv G1 2 7 = 18 from O1.2.2.2.2.2.2.2.1]
      refine ⟨r181.1, ?_⟩
      intro q151 e151 v154 e154 _
      rw [e151] at e154
      refine ⟨fun c4 => ?_, fun c4 => ?_⟩
      · refine bad G1 (fun hr => ?_) B1 Re1 r181 c1 f1.2.1 f1.2.2.1
        obtain ⟨v, hv, _⟩ := hr
        have ft1 := ftP v hv
        rcases hz with ⟨_, h5, _⟩ | ⟨h2, _⟩ | ⟨h2, _⟩ | ⟨h2, _⟩ | ⟨h2, _⟩
        · exact c4 (by rw [e154]; exact h5)
        · unfold w_ft at ft1 h2; rw [ft1] at h2; have := by_ne 1 2 (by decide) (by decide) (Option.some.inj h2); omega
        · unfold w_ft at ft1 h2; rw [ft1] at h2; have := by_ne 1 3 (by decide) (by decide) (Option.some.inj h2); omega
        · unfold w_ft at ft1 h2; rw [ft1] at h2; have := by_ne 1 4 (by decide) (by decide) (Option.some.inj h2); omega
        · exact h2 1 (by decide) (by decide) ft1
      · have hv : ∃ ik m k p so ph g0 g, w_isP K lp (ik, (m, k, p, so, ph, g0), g) ∧ c_lf G1 mk 22 m k p so ph ∧ w_at mk (sw_iv G1 22 5) g0 := by
          rcases hz with ⟨_, _, h1 | h1⟩ | ⟨_, h5, _⟩ | ⟨_, h5, _⟩ | ⟨_, h5, _⟩ | ⟨_, h5⟩
          · exact h1.2
          · omega
          · omega
          · omega
          · omega
          · omega
        obtain ⟨ik, pm, pk, pp, so, ph, g0, gg, hisP, lf1, a1⟩ := hv
        rw [show sw_rv G1 2 1 = 11 from O1.2.2.1]
        refine ⟨W1.2.1.1, ?_⟩
        intro q157 e157
        rw [show sw_rv G1 2 3 = 1416 from O1.2.2.2.2.1]
        have t16 : sw_ty G1 1416 = 81 ∧ sw_ln G1 1416 = 300 := O1.2.2.2.2.2.2.2.2.2.2.2.2.2
        refine ⟨t16.1, ?_⟩
        intro q160 e160
        obtain ⟨g1', g2', g3', b', g4', g5', hsg'⟩ := B1.2.1.2.2.2.2.2 of.toNat lp hlp
        have t80' : sw_ty G1 (sw_rv G1 1416 of.toNat) = 80 := hsg'.choose_spec.1.1
        rw [e160]
        refine ⟨of0.1, by rw [t16.2]; omega, t80', ?_⟩
        intro q163 e163
        refine ⟨r181.1, ?_⟩
        intro q166 e166
        rw [e166, Re1.1.2.2.2.1]
        refine ⟨Re1.2.2.1, ?_⟩
        intro q169 e169
        rw [e157, e163, e169]
        refine c_isPackageRight (i := 0) (e0 := lp.length) hml W1 hsg' (by omega) (by omega) hvl (Nat.le_refl _) hisP.2 lf1 a1 (by decide) (fun z2 G2 hz2 W2 F2 _ _ => ?_)
        have c2 : c_ch ([14, 15] ++ c_Bk) H G2 := c_ch_t c1 (c_ch_sub (c_V_ch W1.1 F2 (by unfold c_fix; simp)) (fun a ha => List.mem_append_left _ ha))
        have B2 := c_rdg_ch hml hB W2 c2
        have Re2 := c_Re_fr Re1 F2
        have r182 : c_r18 G2 := ⟨by rw [F2.2.2.1]; exact r181.1, by rw [F2.2.2.2.2.1]; exact r181.2⟩
        have n2 : sw_n G2 = sw_n H := by rw [F2.1, f1.2.1]
        have s2 : sw_s G2 = sw_s H := by rw [F2.2.1, f1.2.2.1]
        refine ⟨fun c5 => ?_, fun c5 => ?_⟩
        · refine go lp G2 hn (fun _ => ⟨hlp, _, hisP, ?_⟩) B2 Re2 r182 c2 n2 s2
          rcases hz2 with ⟨_, h1, h2⟩ | ⟨h1, _⟩
          · exact ⟨h2, h1⟩
          · exact absurd h1 c5
        · refine bad G2 (fun hr => ?_) B2 Re2 r182 c2 n2 s2
          obtain ⟨v, hv, hv1, hv2⟩ := hr
          have ev : v = (ik, (pm, pk, pp, so, ph, g0), gg) := by
            have h1 := hv.2
            rw [hisP.2] at h1
            exact (Prod.mk.inj (Option.some.inj h1)).1.symm
          subst ev
          rcases hz2 with ⟨h1, _⟩ | ⟨_, h1⟩
          · omega
          · exact h1 ⟨hv2, hv1⟩
  have c17 : 1 ≤ kd → kd ≤ 3 → (kd = 1 → 0 ≤ of ∧ of < ms.length) → wb_82_17 P E 2 kd of (120 + 54 * m) H := by
    intro h1 h2 h3
    unfold wb_82_17
    refine ⟨fun c => c30 (by unfold w_prN; omega), fun c => ⟨fun c1 => none (by unfold w_prN; omega), fun c1 => ⟨fun c2 => c30 (by unfold w_prN; omega), fun c2 => none (by unfold w_prN; omega)⟩⟩⟩
  refine ⟨fun c => none (by unfold w_prN; omega), fun c => ⟨fun c1 => none (by unfold w_prN; omega), fun c1 => ⟨fun c2 => c17 c c1 (fun h => absurd h c2), fun c2 => ?_⟩⟩⟩
  refine c_isMessage hX.2.2.2 (fun h _ _ => ⟨fun _ => none (by unfold w_prN; omega), fun c => absurd rfl c⟩) (fun l h1 h2 h3 _ _ => ⟨fun c => absurd c (by decide), fun _ => c17 c c1 (fun _ => ⟨h1, h2⟩)⟩)
end
