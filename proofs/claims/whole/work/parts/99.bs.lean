/-! ===== the class: member ===== -/
noncomputable section
theorem w_hc_0 {h : Nat → Wt} {n : Nat} (hz : ∀ x, n ≤ x → h x = []) : ∀ k, w_hc h (n + k) = w_hc h n
  | 0 => rfl
  | k + 1 => by
    have ih := w_hc_0 hz k
    rw [← Nat.add_assoc, w_hc_s, if_neg (by simp [hz (n + k) (by omega)])]
    exact ih
theorem w_hc_cg {h k : Nat → Wt} : ∀ {n : Nat}, (∀ x, x < n → h x = k x) → w_hc h n = w_hc k n
  | 0, _ => rfl
  | n + 1, e => by
    rw [w_hc_s, w_hc_s, w_hc_cg (fun x hx => e x (by omega)), e n (by omega)]
section
variable {H Z X Y : sw_H} {nn nm r ra g m : Nat} {K K' S : Wt → Prop} {tl tl' tp mk mm l : List Wt} {ms : List (List Wt)} {rd : Nat → Int} {a b c x y cn cs cn' cs' N U M wo : Int} {Q : sw_H → Prop} {P : Int → sw_H → Prop} {E : Nat → sw_H → Prop} {A B : List Nat} {w wa wb : Wt} {G PG : w_G}
theorem c_tellL (lm : c_lm cn cs N U M) (bd : c_bl mk tl N U M) (hV : c_V H mk nn K tl cn cs) (hw : w_az mk x w) (k : ∀ Y, c_V Y mk nn K (w_tp tl w).2 cn cs → c_ch [] H Y → P (w_tp tl w).1 Y) : wm_123 3 x H P := by
  have hV' := hV
  obtain ⟨hL, F, qq, fl, ad⟩ := hV
  have hL' := hL
  obtain ⟨hA, h4, h5⟩ := hL
  rcases hw with ⟨e0, ew⟩ | hw
  · have e1 : w_tp tl w = (0, tl) := if_pos ew
    rw [e1] at k
    unfold wm_123
    exact ⟨fun h => absurd e0 h, fun _ => k H hV' (c_ch_refl _ _)⟩
  · have e1 : w_tp tl w = ((((w_tl tl w).idxOf w : Nat) : Int) + 1, w_tl tl w) := if_neg (c_at_ne hL' hw)
    rw [e1] at k
    have xb := w_at_le hw
    have hR : c_R H x.toNat := ⟨by omega, by omega⟩
    have ex : x = ((x.toNat : Nat) : Int) := by omega
    have b1 := c_bl_bd hL' bd
    have rm := c_A_rmN lm qq hA (c_bd_le b1 (by omega) (by omega) (by omega))
    rw [ex]
    refine c_tell hA F qq rm hR (fun Y aY FY qY ft en e4 => ?_)
    rw [w_at_d hw] at aY ⊢
    have ch := c_ft_ch ft
    exact k Y ⟨⟨aY, by rw [en]; exact h4, by rw [e4]; exact h5⟩, FY, qY, c_full_e ft.1 fl, c_ads_ch ch fl ad⟩ ch
theorem c_secretCount (hV : c_V H mk nn K tl cn cs) (hg : c_gp H mk g G) (q : P (w_hc (gg_hd G) (t_w (gg_T G))) H) : wm_131 g H P := by
  obtain ⟨h1, h2, h3, h4, h5, h6, h7, h8, h9, h10, h11⟩ := hg
  have w31 := t_w31 h5.2.1.1
  obtain ⟨g1, g2, g3, g4, g5, g6, g7, g8⟩ := h1
  obtain ⟨hh, ehh⟩ : ∃ hh : Nat → Wt, hh = fun x => if x < t_w (gg_T G) then gg_hd G x else [] := ⟨_, rfl⟩
  have e31 : w_hc hh 31 = w_hc (gg_hd G) (t_w (gg_T G)) := by
    have e1 : w_hc hh (t_w (gg_T G) + (31 - t_w (gg_T G))) = w_hc hh (t_w (gg_T G)) := w_hc_0 (fun x hx => by rw [ehh]; exact if_neg (by omega)) _
    rw [show t_w (gg_T G) + (31 - t_w (gg_T G)) = 31 by omega] at e1
    rw [e1]
    exact w_hc_cg (fun x hx => by rw [ehh]; exact if_pos hx)
  have az : ∀ i, i < 31 → w_az mk (sw_iv H (g + 22) i) (hh i) := fun i hi => by
    rw [ehh]
    show w_az mk _ (if i < t_w (gg_T G) then gg_hd G i else [])
    by_cases c : i < t_w (gg_T G)
    · rw [if_pos c]; exact h10 i c
    · rw [if_neg c]; exact Or.inl ⟨h11 i (by omega) hi, rfl⟩
  have lp : ∀ (n i : Nat), i ≤ 31 → 31 - i < n → wl_131_4 P n g (w_hc hh i) i H := by
    intro n
    induction n with
    | zero => intro i a1 a2; omega
    | succ n ih =>
      intro i a1 a2
      have hc := w_hc_le hh i
      unfold wl_131_4
      refine ⟨fun c => ?_, fun c => ?_⟩
      · have ei : i = 31 := by omega
        rw [ei, e31]; exact q
      · rw [g5]
        refine ⟨g6, ?_⟩
        intro q5 e5
        rw [e5]
        refine ⟨by omega, by rw [g7]; omega, ?_⟩
        intro v8 e8 _
        rw [Int.toNat_natCast] at e8
        have azi := az i (by omega)
        rw [← e8] at azi
        have nx := w_hc_s hh i
        have ih := ih (i + 1) (by omega) (by omega)
        refine ⟨fun c0 => ?_, fun c0 => ?_⟩
        · have e0 : hh i = [] := by
            rcases azi with ⟨_, h⟩ | h
            · exact h
            · have := w_at_le h; omega
          rw [if_neg (by simp [e0])] at nx
          unfold wb_131_13
          intro y1 ey1
          rw [sw_w_s (by omega) (by omega)] at ey1
          rw [ey1, show (i : Int) + 1 = ((i + 1 : Nat) : Int) by omega]
          rw [nx, Nat.add_zero] at ih
          exact ih
        · have e0 : hh i ≠ [] := by
            rcases azi with ⟨h, _⟩ | h
            · exact absurd h c0
            · exact c_at_ne hV.1 h
          rw [if_pos e0] at nx
          intro y11 ey11
          unfold wb_131_13
          intro y1 ey1
          rw [sw_w_s (by omega) (by omega)] at ey11 ey1
          rw [ey11, ey1, show (i : Int) + 1 = ((i + 1 : Nat) : Int) by omega]
          rw [nx] at ih
          exact ih
  exact ⟨32, lp 32 0 (by omega) (by omega)⟩
theorem c_tellGroup (lm : c_lm cn cs N U M) (bd : c_bl mk tl N U M) (hV : c_V H mk nn K tl cn cs) (hO : c_O H) (hg : c_gp H mk g G) (q0 : y < 1 ∨ 7 < y → P (-1) H) (qv : ∀ z, (y = 1 ∧ z = gg_ep G) ∨ (y = 2 ∧ z = gg_lf G) ∨ (y = 3 ∧ z = t_dp (gg_T G)) → P z H) (qt : ∀ w Y, w_mt G y w → c_V Y mk nn K (w_tp tl w).2 cn cs → c_ch [] H Y → P (w_tp tl w).1 Y) : wm_132 2 g y H P := by
  obtain ⟨h1, h2, h3, h4, h5, h6, h7, h8, h9, h10, h11⟩ := hg
  have o0 : sw_rv H 2 0 = 3 := hO.2.1
  have t96 := hV.1.1.1.1.1
  unfold wm_132
  rw [o0]
  refine ⟨q0, fun c => ?_, fun c => ?_, fun c => ?_, fun c => ⟨t96, ?_⟩, fun c => ⟨t96, ?_⟩, fun c => ⟨t96, ?_⟩, fun c => ⟨t96, ?_⟩⟩
  · intro v ev _
    rw [h3] at ev
    exact qv v (Or.inl ⟨c, ev⟩)
  · intro v ev _
    rw [h4] at ev
    exact qv v (Or.inr (Or.inl ⟨c, ev⟩))
  · rw [h1.2.2.2.1]
    refine ⟨h5.1.2.2.1, ?_⟩
    intro q8 e8 v ev _
    rw [e8, h5.2.2.1] at ev
    exact qv v (Or.inr (Or.inr ⟨c, ev⟩))
  · intro q14 e14 v ev _
    rw [e14, ev]
    exact c_tellL lm bd hV (Or.inr h6) (fun Y VY cY _ _ => qt _ Y (Or.inl ⟨c, rfl⟩) VY cY)
  · intro q14 e14 v ev _
    rw [e14, ev]
    exact c_tellL lm bd hV h7 (fun Y VY cY _ _ => qt _ Y (Or.inr (Or.inl ⟨c, rfl⟩)) VY cY)
  · intro q14 e14 v ev _
    rw [e14, ev]
    exact c_tellL lm bd hV (Or.inr h8) (fun Y VY cY _ _ => qt _ Y (Or.inr (Or.inr (Or.inl ⟨c, rfl⟩))) VY cY)
  · intro q14 e14 v ev _
    rw [e14, ev]
    exact c_tellL lm bd hV (Or.inr h9) (fun Y VY cY _ _ => qt _ Y (Or.inr (Or.inr (Or.inr ⟨c, rfl⟩))) VY cY)
theorem c_member {Lk : Nat → List (Nat × Wt × Wt)} {Ga PGa : Nat → w_G} {Ua : Nat → List (Wt × Wt)} {Pa : Nat → List (Wt × Nat)} (lm : c_lm cn cs N U M) (bd : c_bl mk tl N U M) (hV : c_V H mk nn K tl cn cs) (hO : c_O H) (hM : c_MS H mk) (hpk : ∀ m, m < 24 → c_pk H mk ms m (Lk m) ∧ c_up H mk m (Ua m) ∧ sw_iv H (120 + 54 * m) 9 = (Pa m).length) (h01 : ∀ m, m < 24 → sw_iv H (120 + 54 * m) 3 = 0 ∨ (sw_iv H (120 + 54 * m) 3 = 1 ∧ c_gp H mk (sw_rv H (120 + 54 * m) 4) (Ga m))) (q0 : ¬ (0 ≤ x ∧ x < 24 ∧ 0 ≤ y ∧ y ≤ 12) → P (-1) H) (qv : ∀ (m : Nat) z, x = m → m < 24 → w_mv (sw_iv H (120 + 54 * m) 3 = 1) (sw_iv H (120 + 54 * m) 6 ≠ -1) (Pa m).length (Ua m).length (Lk m).length (Ga m) y z → P z H) (qt : ∀ (m : Nat) w Y, x = m → m < 24 → sw_iv H (120 + 54 * m) 3 = 1 → w_mt (Ga m) y w → c_V Y mk nn K (w_tp tl w).2 cn cs → c_ch [] H Y → P (w_tp tl w).1 Y) : wm_38 2 x y H P := by
  have o2 := hO.2.2.2.1
  unfold wm_38 wm_130
  refine ⟨fun c => ?_, fun c => ⟨fun c1 => ?_, fun c1 => ?_⟩⟩
  · intro _ _
    exact ⟨fun h => absurd rfl h, fun _ => q0 (by omega)⟩
  · intro _ _
    exact ⟨fun h => absurd rfl h, fun _ => q0 (by omega)⟩
  intro _ _
  refine ⟨fun _ => ?_, fun h => absurd h (by decide)⟩
  obtain ⟨m, em⟩ : ∃ m : Nat, x = m := ⟨x.toNat, by omega⟩
  subst em
  have hm24 : m < 24 := by omega
  obtain ⟨k1, k2, _⟩ := hM.2.2 m hm24
  have qv := fun z => qv m z rfl hm24
  have qt := fun w Y => qt m w Y rfl hm24
  obtain ⟨pm, um, p9⟩ := hpk m hm24
  have o1 := h01 m hm24
  generalize Lk m = L at *
  generalize Ga m = G at *
  generalize Ua m = UL at *
  generalize Pa m = PL at *
  clear hpk h01
  have u11 := um.1
  have p16 := pm.1
  rw [o2]
  refine ⟨hM.1, ?_⟩
  intro q6 e6
  rw [e6, Int.toNat_natCast, k1]
  refine ⟨by omega, by rw [hM.2.1]; omega, k2, ?_⟩
  intro q9 e9
  rw [e9]
  have body : (1 ≤ y ∧ y ≤ 7) ∨ y < 0 ∨ 12 < y → ∀ v15, v15 = sw_iv H (120 + 54 * m) 3 → sw_c v15 → (v15 = 0 → P (-1) H) ∧ (v15 ≠ 0 → sw_ty H (sw_rv H (120 + 54 * m) 4) = 40 ∧ ∀ q18, q18 = sw_rv H (120 + 54 * m) 4 → wm_132 2 q18 y H (fun z24 H21 => sw_c z24 → sw_ext H H21 → P z24 H21)) := by
    intro hy v15 e15 _
    refine ⟨fun c0 => ?_, fun c0 => ?_⟩
    · by_cases cy : 1 ≤ y ∧ y ≤ 7
      · exact qv (-1) (Or.inr (Or.inr (Or.inr (Or.inr (Or.inr (Or.inr (Or.inl ⟨cy.1, cy.2, by omega, rfl⟩)))))))
      · exact q0 (by omega)
    · rcases o1 with h | ⟨in1, gp⟩
      · omega
      · refine ⟨gp.1.2.2.1, ?_⟩
        intro q18 e18
        rw [e18]
        exact c_tellGroup lm bd hV hO gp (fun h _ _ => q0 (by omega)) (fun z hz _ _ => qv z (Or.inr (Or.inr (Or.inr (Or.inr (Or.inr (Or.inr (Or.inr ⟨in1, hz⟩)))))))) (fun w Y hw VY cY _ _ => qt w Y in1 hw VY cY)
  refine ⟨fun cc => body (by omega), fun cc => ?_, fun cc => body (by omega), fun cc => body (by omega), fun cc => body (by omega), fun cc => body (by omega), fun cc => body (by omega), fun cc => body (by omega), fun cc => body (by omega), fun cc => ?_, fun cc => ?_, fun cc => ?_, fun cc => ?_, fun cc => ?_⟩
  · intro v ev _
    exact ⟨fun c0 => qv 0 (Or.inl ⟨cc, Or.inr ⟨by omega, rfl⟩⟩), fun c0 => qv 1 (Or.inl ⟨cc, Or.inl ⟨by omega, rfl⟩⟩)⟩
  · intro v ev _
    rw [p9] at ev
    exact qv v (Or.inr (Or.inl ⟨cc, ev⟩))
  · intro v ev _
    rw [u11] at ev
    exact qv v (Or.inr (Or.inr (Or.inl ⟨cc, ev⟩)))
  · intro v ev _
    rw [p16] at ev
    exact qv v (Or.inr (Or.inr (Or.inr (Or.inl ⟨cc, ev⟩))))
  · intro v ev _
    exact ⟨fun c0 => qv 1 (Or.inr (Or.inr (Or.inr (Or.inr (Or.inl ⟨cc, Or.inl ⟨by rw [← ev]; exact c0, rfl⟩⟩))))), fun c0 => qv 0 (Or.inr (Or.inr (Or.inr (Or.inr (Or.inl ⟨cc, Or.inr ⟨fun h => h (by rw [← ev]; exact c0), rfl⟩⟩)))))⟩
  · intro v ev _
    refine ⟨fun c0 => qv 0 (Or.inr (Or.inr (Or.inr (Or.inr (Or.inr (Or.inl ⟨cc, Or.inr ⟨by omega, rfl⟩⟩)))))), fun c0 => ?_⟩
    rcases o1 with h | ⟨in1, gp⟩
    · omega
    · refine ⟨gp.1.2.2.1, ?_⟩
      intro q132 e132
      rw [e132]
      exact c_secretCount hV gp (fun _ _ => qv _ (Or.inr (Or.inr (Or.inr (Or.inr (Or.inr (Or.inl ⟨cc, Or.inl ⟨in1, rfl⟩⟩)))))))
end
end
