/-! ===== the class: checkSender ===== -/
noncomputable section
/-- who sent a COMMIT, its signature and its tag -/
def d_sn (G : w_G) (sd : Int) (lm : List Wt) (sg tg : Wt) (z : Int) : Prop := (¬ h_hl (gg_T G) sd ∧ z = 3) ∨ (h_hl (gg_T G) sd ∧ ((¬ w_sok (t_ow (gg_T G) sd.toNat) (t_sk (gg_T G) sd.toNat) sg (w_sli lm 0 (lm.length - 3) ++ w_cx G) ∧ z = 4) ∨ (w_sok (t_ow (gg_T G) sd.toNat) (t_sk (gg_T G) sd.toNat) sg (w_sli lm 0 (lm.length - 3) ++ w_cx G) ∧ ((tg ≠ w_t 2 (w_mem G) [] [] (w_sli lm 0 (lm.length - 1)) ∧ z = 5) ∨ (tg = w_t 2 (w_mem G) [] [] (w_sli lm 0 (lm.length - 1)) ∧ z = 0)))))
variable {H Z X Y : sw_H} {nn r ra g m mi : Nat} {K : Wt → Prop} {tl mk mm l : List Wt} {cn cs N U M ep sd : Int} {P : Int → sw_H → Prop} {sg cf tg : Wt} {G' : w_G} {b e1 : Nat} {es : List p_E} {pt : Option p_P}
theorem c_checkSender (lm : c_lm cn cs N U M) (bm : c_bl mk tl N U M) (hW : c_W H mk nn K tl cn cs) (hTa : c_Ta H) (hs : c_rs H mk r ra l) (r43 : 43 < r ∧ 43 < ra) (hvl : w_vl l) (hlen : l.length ≤ 1200) (hcm : p_cm K l ep sd b e1 es pt sg cf tg) (h7 : sw_iv H 18 7 = sd) (hpl : c_pl g) (gp : c_gp H mk g G') (q : ∀ z mm X, d_sn G' sd l sg tg z → (mm = mk ∨ mm = w_tl mk (w_mem G')) → c_W X mm nn K tl cn cs → c_ch [14, 15] H X → P z X) : wm_302 94 g r H P := by
  have fl := hW.1.2.2.2.1
  have hml := c_W_len lm bm
  obtain ⟨t94, _, r1, r2, _⟩ := id hTa
  have hsg := hs.2.2.2.1
  obtain ⟨n3, _, c1, c2, c3, c4, c5, c6, c7⟩ := id hcm
  obtain ⟨z0, z65⟩ : 0 ≤ sd ∧ sd < 65536 := by
    obtain ⟨_, y2, y3, _⟩ := p_16_sl hvl (Nat.le_refl _) c2
    exact ⟨y2, y3⟩
  have esg := p_t_sl (Nat.le_refl _) c5
  have etg := p_t_sl (Nat.le_refl _) c7
  obtain ⟨_, _, _, hsg7, _⟩ := p_t_in c5
  obtain ⟨_, _, _, htg2, _⟩ := p_t_in c7
  obtain ⟨pl1, pl2⟩ := c_pl_b hpl
  obtain ⟨gs, gok, gep, glf, gtr, gth, gcf, gin, ges, ghd, _⟩ := id gp
  unfold wm_302
  rw [gs.2.2.2.1]
  refine ⟨gtr.1.2.2.1, ?_⟩
  intro q1 e1'
  rw [r2]
  refine ⟨hs.1, ?_⟩
  intro q4 e4 v7 e7 _
  rw [e4, h7] at e7
  rw [e1', e7]
  refine c_hasLeaf hW.1.1 gtr (fun h1 h2 h3 _ _ => ⟨fun _ => ?_, fun c => absurd c (by decide)⟩) (fun h _ _ => ⟨fun c => absurd rfl c, fun _ => q 3 mk H (Or.inl ⟨h, rfl⟩) (Or.inl rfl) hW (c_ch_refl _ _)⟩)
  have hh : h_hl (gg_T G') sd := ⟨h1, h2, h3⟩
  obtain ⟨k, ek⟩ : ∃ k : Nat, sd = k := ⟨sd.toNat, by omega⟩
  subst ek
  rw [Int.toNat_natCast] at h3
  have d4 := gtr.2.1.1
  have p4 : (2 : Nat) ^ t_dp (gg_T G') ≤ 2 ^ 4 := Nat.pow_le_pow_right (by decide) d4
  have p1 : (2 : Nat) ^ (t_dp (gg_T G') + 1) = 2 * 2 ^ t_dp (gg_T G') := by rw [Nat.pow_succ]; omega
  have lw : 2 * k < t_w (gg_T G') := by unfold t_w; omega
  obtain ⟨lf1, lf2⟩ := gtr.2.2.2.2.2 k lw h3
  obtain ⟨_, _, _, _, _, _, rv4, _, ty4, ln4, rvk⟩ := gtr.1
  have k16 : k < 16 := by omega
  rw [r1]
  refine ⟨hW.2.1.1, ?_⟩
  intro q15 e15
  rw [gs.2.2.2.1]
  refine ⟨gtr.1.2.2.1, ?_⟩
  intro q18 e18
  rw [e18, rv4]
  refine ⟨ty4, ?_⟩
  intro q21 e21
  rw [r2]
  refine ⟨hs.1, ?_⟩
  intro q24 e24 v27 e27 _
  rw [e24, h7] at e27
  rw [e21, e27]
  refine ⟨by omega, by rw [ln4]; omega, ?_⟩
  rw [Int.toNat_natCast, (rvk k k16).1]
  refine ⟨(rvk k k16).2, ?_⟩
  intro q30 e30 v33 e33 _
  rw [(c_sg_len hsg).1] at e33
  rw [e15, e30, e33, sw_w_s (by omega) (by omega), show (l.length : Int) - 3 = ((l.length - 3 : Nat) : Int) by omega]
  refine c_isSignedWithContext (sk := t_sk (gg_T G') k) (mo := t_ow (gg_T G') k) hml hW hsg (by omega) (by omega) esg (by rw [hsg7]; decide) gp lf1.1 lf1.2.2.1 (by omega) (fun z1 G1 hz1 W1 F1 _ _ => ?_)
  have C1 := c_V_ch hW.1 F1 (by unfold c_fix; simp)
  rcases hz1 with ⟨ez, sok⟩ | ⟨ez, sok⟩
  rotate_left
  · refine ⟨fun c => absurd ez c, fun _ => q 4 mk G1 (Or.inr ⟨hh, Or.inl ⟨by rw [Int.toNat_natCast]; exact sok, rfl⟩⟩) (Or.inl rfl) W1 C1⟩
  refine ⟨fun _ => ?_, fun c => by omega⟩
  rw [F1.2.2.2.2.1, r1]
  refine ⟨W1.2.1.1, ?_⟩
  intro q41 e41
  rw [e41]
  have gp2 := c_gp_1415 hW.1 gp F1
  have sg2 := c_sg_fr hsg F1 (by simp; omega) (by simp; omega) (by decide)
  refine c_isTagRight (j := l.length - 1) lm bm W1 sg2 (by omega) (by omega) (by omega) etg (by rw [htg2]; decide) gp2 (fun z3 mm G3 hz3 hmm W3 c3' _ _ => ?_)
  have C3 : c_ch [14, 15] H G3 := c_ch_t C1 c3'
  have sok' : w_sok (t_ow (gg_T G') (k : Int).toNat) (t_sk (gg_T G') (k : Int).toNat) sg (w_sli l 0 (l.length - 3) ++ w_cx G') := by rw [Int.toNat_natCast]; exact sok
  rcases hz3 with ⟨ez3, ht⟩ | ⟨ez3, ht⟩
  · exact ⟨fun c => by omega, fun _ => q 0 mm G3 (Or.inr ⟨hh, Or.inr ⟨sok', Or.inr ⟨ht, rfl⟩⟩⟩) hmm W3 C3⟩
  · exact ⟨fun _ => q 5 mm G3 (Or.inr ⟨hh, Or.inr ⟨sok', Or.inl ⟨ht, rfl⟩⟩⟩) hmm W3 C3, fun c => absurd ez3 c⟩
end
