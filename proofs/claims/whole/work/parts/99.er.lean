/-! ===== the class: isTakenIn, to its end ===== -/
noncomputable section
variable {H G Z X : sw_H} {mk mm tl l : List Wt} {ms : List (List Wt)} {nn r ra k o h x y i e mi g : Nat} {K : Wt → Prop} {cn cs : Int} {T T' : w_T} {f : p_L} {Q : sw_H → Prop} {P : Int → sw_H → Prop} {A B : List Nat} {b z src pl : Int} {s : Nat × Nat} {L : List w_Ch} {v : p_C} {hs : Wt}
theorem h_n12 : ¬ (1 : Int) = 2 := by decide
theorem h_n21 : ¬ (2 : Int) = 1 := by decide
theorem h_n31 : ¬ (3 : Int) = 1 := by decide
theorem h_n32 : ¬ (3 : Int) = 2 := by decide
theorem c_isTakenIn (hml : mk.length ≤ 999999999) (hci : c_ci H mk K ms L) (hW : c_W H mk nn K tl cn cs) (hr : c_far H mk ms mi r ra l) (hg : c_gt H mk g T) (he : e ≤ l.length) (hp : p_ct K l (some (i, e)) = some (v, s)) (hpl : 0 ≤ pl ∧ pl < 65536) (hh : hs ≠ [] → hs = w_t 1 [] [] [] l) (q32 : L.length = 32 → P 0 H) (q : ∀ z G, L.length < 32 → ((z = 1 ∧ h_own T (v, pl, hs) ∧ c_ci G mk K ms (L ++ [(v, pl, hs)])) ∨ (z = 0 ∧ ¬ h_own T (v, pl, hs) ∧ c_ci G mk K ms L)) → c_W G mk nn K tl cn cs → c_fa c_Ac H G → P z G) : wm_279 44 r i pl g H P := by
  obtain ⟨c0, c3, c4, c5, c6, c7, c8, c9, c12, ct, c47, c51, c52, clf⟩ := hci.1
  have hlen := hr.2.2.2.2.1
  have r1 := hr.2.2.1
  have r2 := hr.2.2.2.1
  have h84 := hg.2.1
  have g20 := hg.2.2.1.2.1
  have hsg := hr.2.2.2.2.2
  have hvl := c_sg_vl hW.1.1 hsg
  have hok := p_ct_ok hvl he hp
  unfold wm_279
  intro v47 e47 _
  rw [hci.2.1] at e47
  have h32 := hci.2.2.1
  refine ⟨fun c => q32 (by omega), fun c => ?_⟩
  have hl : L.length < 32 := by omega
  refine ⟨fun c => by omega, fun _ => ?_⟩
  obtain ⟨kd, ⟨ik, lf, sg⟩, n⟩ := v
  obtain ⟨x1, x2, hx⟩ := p_ct_ix hp
  have hile := (p_8_in x1).2.1
  obtain ⟨b1, b2, b3⟩ := p_8_sl hvl he x1
  obtain ⟨t1, t2, t3, t4⟩ := c_row_s hsg (k := i) (by omega)
  intro v50 e50 _
  rw [(c_sg_len hsg).1] at e50
  refine ⟨fun _ => ?_, fun c => by omega⟩
  rw [t2]
  refine ⟨t3, ?_⟩
  intro q53 e53
  rw [e53]
  refine ⟨by omega, by omega, ?_⟩
  intro v56 e56 _
  rw [Int.toNat_natCast, c_byte hW.1.1 hsg b1 b2] at e56
  have e56 := e56.symm
  subst e56
  have no : ∀ {G : sw_H}, ¬ h_own T ((kd, (ik, lf, sg), n), pl, hs) → c_W G mk nn K tl cn cs → c_lq H G L.length → wb_279_93 P 44 r i pl kd 0 G := fun {G} hn WG kG => by
    unfold wb_279_93
    exact ⟨fun _ => ⟨Or.inl rfl, q 0 G hl (Or.inr ⟨rfl, hn, c_ci_lq hci kG⟩) WG (c_lq_fa hl kG)⟩, fun c => absurd rfl c⟩
  have yes : ∀ {G : sw_H}, h_own T ((kd, (ik, lf, sg), n), pl, hs) → c_W G mk nn K tl cn cs → c_lq H G L.length → sw_iv G 49 L.length = h_go ((kd, (ik, lf, sg), n), pl, hs) → (kd ≠ 3 → c_Lf G mk (53 + L.length) lf) → wb_279_93 P 44 r i pl kd 1 G := fun {G} hn WG kG vG lG => by
    have rG := c_far_lq hr hl kG
    exact c_ti_93 (v := (kd, (ik, lf, sg), n)) (c_ci_lq hci kG) WG hl rG.1 rG.2.1 he hp hpl hh hok vG lG (fun X cX WX fX => q 1 X hl (Or.inl ⟨rfl, hn, cX⟩) WX (c_fa_t (c_lq_fa hl kG) fX))
  rcases hx with ⟨rfl, es, _, hpk, _⟩ | ⟨rfl, es, hlf, _⟩ | ⟨rfl, es, h16, _⟩
  · -- ADD
    refine ⟨fun c => absurd rfl c, fun _ => ?_⟩
    have e12 : i + 12 ≤ l.length := by rw [es] at x2; exact Nat.le_trans x2 he
    obtain ⟨_, _, _, hik, hlf, _⟩ := p_pk_ix hpk
    intro y105 e105
    rw [sw_w_s (by omega) (by omega), show (i : Int) + 3 = ((i + 3 : Nat) : Int) by omega] at e105
    subst e105
    rw [c9]
    refine ⟨c51.1, ?_⟩
    intro q109 e109 v112 e112 _
    rw [hci.2.1] at e112
    rw [e109, e112]
    refine ⟨by omega, by rw [c51.2]; omega, ?_⟩
    rw [Int.toNat_natCast, (clf L.length hl).1]
    refine ⟨(clf L.length hl).2, ?_⟩
    intro q115 e115
    rw [e115, sw_w_s (z := ((i + 3 : Nat) : Int) + 2) (by omega) (by omega), show ((i + 3 : Nat) : Int) + 2 = ((i + 3 + 2 : Nat) : Int) by omega]
    have fx : ∀ {Y Z : sw_H}, c_W Y mk nn K tl cn cs → c_fr [53 + L.length] Y Z → c_W Z mk nn K tl cn cs := fun hY f => c_W_fr hY f (fun a ha => by simp at ha; unfold c_fix; omega)
    refine c_takeFrom hW.1.1 hsg (by omega) e12 hlf (by omega) (by omega) (fun Y fY => (fx hW fY).1.1) (fun Y lY fY => ?_)
    intro _
    have WY := fx hW fY
    rw [fY.2.2.2.2.1, c7]
    refine ⟨by rw [fY.2.2.1]; exact (ct 49 (by omega)).1, ?_⟩
    intro q126 e126 v129 e129 _ v132 e132 _
    rw [fY.2.2.2.2.2 44 (by simp; omega), hci.2.1] at e129
    rw [lY.1.1] at e132
    rw [e126, e129]
    refine ⟨by omega, by rw [fY.2.2.2.1, (ct 49 (by omega)).2]; omega, ?_⟩
    intro Z eZ
    rw [Int.toNat_natCast, e132] at eZ
    have fZ : c_fr [49] Y Z := by rw [eZ]; exact c_fr_si _ _ _ _
    have WZ : c_W Z mk nn K tl cn cs := c_W_fr WY fZ (fun a ha => by simp at ha; unfold c_fix; omega)
    have kZ : c_lq H Z L.length := c_lq_t (c_lq_o fY) (by rw [eZ]; exact c_lq_9)
    have lZ : c_Lf Z mk (53 + L.length) lf := c_Lf_fr lY fZ (by simp; omega)
    have vZ : sw_iv Z 49 L.length = h_go ((1, (ik, lf, sg), n), pl, hs) := by
      rw [eZ, c_si_eq]; unfold h_go; rw [if_pos rfl]; rfl
    have rZ := c_far_lq hr hl kZ
    intro v138 e138 _
    rw [sw_w_s (z := ((i + 3 : Nat) : Int) + 1) (by omega) (by omega), show ((i + 3 : Nat) : Int) + 1 = ((i + 3 + 1 : Nat) : Int) by omega]
    refine c_s_termAt WZ.1.1.2.1 rZ.2.2.2.2.2 (p_t_sl e12 hik) (by rw [(p_t_in hik).2.2.2.1]; decide) (fun z hz => ?_)
    intro _ _
    have nd := c_L_nd WZ.1.1
    have l1 := lZ.1.2.1
    rw [← e138] at l1
    refine ⟨fun c => ?_, fun c => ?_⟩
    · unfold wb_279_61
      refine no (fun hn => ?_) WZ kZ
      refine (hn.1 rfl).2 ?_
      rw [c] at l1
      exact w_at_fun l1 hz
    · rw [fZ.2.2.2.2.1, fY.2.2.2.2.1, c0]
      refine ⟨WZ.2.1.1, ?_⟩
      intro q146 e146
      rw [e146]
      obtain ⟨m, ky, sk, so, ph, g0⟩ := lf
      have hne : ky ≠ ik := fun cc => by
        subst cc
        exact c (w_at_inj nd l1 hz)
      refine c_isPackageSigned hml WZ rZ.2.2.2.2.2 (by omega) (by omega) (c_sg_vl WZ.1.1 rZ.2.2.2.2.2) e12 hpk lZ.1 lZ.2 (by omega) (fun z X hz WX fX => ?_)
      intro _ _
      have kX := c_lq_t kZ (c_lq_w fX)
      have vX : sw_iv X 49 L.length = h_go ((1, (ik, (m, ky, sk, so, ph, g0), sg), n), pl, hs) := by rw [fX.2.2.2.2.2 49 (by simp)]; exact vZ
      have lX := c_Lf_fr lZ fX (by simp; omega)
      unfold wb_279_61
      rcases hz with ⟨rfl, z2⟩ | ⟨rfl, z2⟩
      · exact ⟨fun c => absurd c (by decide), fun _ => yes ⟨fun _ => ⟨z2, hne⟩, fun c => absurd rfl c, fun c => absurd c h_n12⟩ WX kX vX (fun _ => lX)⟩
      · exact ⟨fun _ => no (fun hn => z2 (hn.1 rfl).1) WX kX, fun c => absurd rfl c⟩
  · -- UPDATE
    refine ⟨fun _ => ⟨fun c => absurd rfl c, fun _ => ?_⟩, fun c => absurd c (by decide)⟩
    have eg : h_go ((2, (ik, lf, sg), n), pl, hs) = pl := by
      unfold h_go; rw [if_neg h_n21, if_pos rfl]
    refine c_isUpdateRight hml hci hW hl hr hg he hlf hpl (fun z X hz WX kX vX lX => ?_)
    intro _ _
    rcases hz with ⟨rfl, z1, z2, z3⟩ | ⟨rfl, z2⟩
    · exact yes ⟨fun c => absurd c h_n21, fun _ => by rw [eg]; exact z1, fun _ => by rw [eg]; exact ⟨z2, z3⟩⟩ WX kX (by rw [eg]; exact vX) (fun _ => lX)
    · refine no (fun hn => z2 ?_) WX kX
      have a1 := hn.2.1 h_n21
      have a2 := hn.2.2 rfl
      rw [eg] at a1 a2
      exact ⟨a1, a2.1, a2.2⟩
  · -- REMOVE
    refine ⟨fun _ => ⟨fun _ => ?_, fun c => absurd c (by decide)⟩, fun c => absurd c (by decide)⟩
    have eg : h_go ((3, (ik, lf, sg), n), pl, hs) = n := by
      unfold h_go; rw [if_neg h_n31, if_neg h_n32]
    rw [c7]
    refine ⟨(ct 49 (by omega)).1, ?_⟩
    intro q62 e62 v65 e65 _
    rw [hci.2.1] at e65
    have i3 := (p_16_sl hvl he h16).2.2.2.2
    rw [sw_s1 (by omega)]
    refine c_u16At hW.1.1 hsg (by omega) he h16 ?_
    intro _ _
    rw [e62, e65]
    refine ⟨by omega, by rw [(ct 49 (by omega)).2]; omega, ?_⟩
    intro Z eZ
    rw [Int.toNat_natCast] at eZ
    have fZ : c_fr [49] H Z := by rw [eZ]; exact c_fr_si _ _ _ _
    have WZ : c_W Z mk nn K tl cn cs := c_W_fr hW fZ (fun a ha => by simp at ha; unfold c_fix; omega)
    have kZ : c_lq H Z L.length := by rw [eZ]; exact c_lq_9
    have vZ : sw_iv Z 49 L.length = n := by rw [eZ, c_si_eq]
    have gZ := c_gt_lq hW.1 hg hl kZ
    rw [gZ.1]
    refine ⟨gZ.2.2.1.2.2.1, ?_⟩
    intro q76 e76
    rw [fZ.2.2.2.2.1, c7]
    refine ⟨by rw [fZ.2.2.1]; exact (ct 49 (by omega)).1, ?_⟩
    intro q79 e79 v82 e82 _
    rw [fZ.2.2.2.2.2 44 (by simp), hci.2.1] at e82
    rw [e79, e82]
    refine ⟨by omega, by rw [fZ.2.2.2.1, (ct 49 (by omega)).2]; omega, ?_⟩
    intro v85 e85 _
    rw [Int.toNat_natCast, vZ] at e85
    rw [e76, e85]
    refine c_hlX WZ.1 gZ (fun z hz => ?_)
    intro _ _
    rcases hz with ⟨rfl, hz⟩ | ⟨rfl, hz⟩
    · exact yes ⟨fun c => absurd c h_n31, fun _ => by rw [eg]; exact hz, fun c => absurd c h_n32⟩ WZ kZ (by rw [eg]; exact vZ) (fun c => absurd rfl c)
    · exact no (fun hn => hz (by have := hn.2.1 h_n31; rw [eg] at this; exact this)) WZ kZ
end
