/-! ===== the class: the simple calls again, with the count of terms and of signs kept ===== -/
noncomputable section
section
variable {H G X Y Z : sw_H} {d e : Nat → Wt} {nn : Nat} {K : Wt → Prop} {tl tp : List Wt} {ms : List (List Wt)} {rd : Nat → Int} {t : Nat} {x y z m cn cs cn' cs' N U M : Int} {Q : sw_H → Prop} {P : Int → sw_H → Prop} {E : Nat → sw_H → Prop} {A B : List Nat}
/-- as many terms and signs -/
def c_nu (H G : sw_H) : Prop := c_n G = c_n H ∧ sw_iv G 3 4 = sw_iv H 3 4
theorem c_nu_refl (H : sw_H) : c_nu H H := ⟨rfl, rfl⟩
theorem c_nu_trans (h : c_nu H G) (k : c_nu G X) : c_nu H X := ⟨k.1.trans h.1, k.2.trans h.2⟩
theorem c_fr_nu (h : c_fr A H G) (h3 : 3 ∉ A) : c_nu H G := by
  have e := h.2.2.2.2.2 3 h3
  exact ⟨by unfold c_n; rw [e], by rw [e]⟩
theorem c_nw_nu (H : sw_H) (F : c_F H) (fl : c_full H) (t l s : Nat) : c_nu H (sw_nw H t l s) := by
  have e := ((c_nw_al H F t l s).2 3 (fl 3 (by decide) (by decide)) (by simp)).1
  exact ⟨by unfold c_n; rw [e], by rw [e]⟩
theorem cc_feed {a b c d' e' : Int} (h : c_I H d nn K tl tp rd ms cn cs) (k : ∀ G, c_I G d nn K tl tp (w_rd a b c d' e') ms cn cs → c_ch [1419] H G → c_nu H G → Q G) : wm_3 2 a b c d' e' H Q := by
  have h' := h
  obtain ⟨A, F, q, fl, ad, O, hP, hY, hM⟩ := h'
  have r6 := O.2.2.2.2.2.2.1
  unfold wm_3
  refine c_readyN (p := 0) r6 hY.1 hY.2.1 (by decide) (fun G1 f1 g1 _ => ?_)
  refine c_readyN (p := 4) (by rw [f1.2.2.2.2.1]; exact r6) (by rw [f1.2.2.1]; exact hY.1) (by rw [f1.2.2.2.1]; exact hY.2.1) (by decide) (fun G2 f2 g2 _ => ?_)
  have f12 := c_fr_t f1 f2
  refine c_readyN (p := 8) (by rw [f12.2.2.2.2.1]; exact r6) (by rw [f12.2.2.1]; exact hY.1) (by rw [f12.2.2.2.1]; exact hY.2.1) (by decide) (fun G3 f3 g3 _ => ?_)
  have f13 := c_fr_t f12 f3
  refine c_readyN (p := 12) (by rw [f13.2.2.2.2.1]; exact r6) (by rw [f13.2.2.1]; exact hY.1) (by rw [f13.2.2.2.1]; exact hY.2.1) (by decide) (fun G4 f4 g4 _ => ?_)
  have f14 := c_fr_t f13 f4
  refine c_readyN (p := 16) (by rw [f14.2.2.2.2.1]; exact r6) (by rw [f14.2.2.1]; exact hY.1) (by rw [f14.2.2.2.1]; exact hY.2.1) (by decide) (fun G5 f5 g5 _ => ?_)
  have f15 := c_fr_t f14 f5
  obtain ⟨y1, y2, y3, y4, y5, y6, y7⟩ := c_I_fr h f15 (by simp)
  refine k G5 ⟨y1, y2, y3, y4, y5, c_O_ch O y6 ad fl (by simp), c_P_ch hP y6 ad (by simp) (by simp) (by omega) (fun _ _ => rfl), ⟨by rw [f15.2.2.1]; exact hY.1, by rw [f15.2.2.2.1]; exact hY.2.1, fun j hj => ?_⟩, c_M_ch hM y6 ad fl (by simp) (by simp) (by simp) (by omega) (fun _ _ => rfl)⟩ y6 (c_fr_nu f15 (by simp))
  have e : sw_iv G5 1419 j = w_rd a b c d' e' j := by
    unfold w_rd
    rw [g5, g4, g3, g2, g1]
    by_cases c16 : 16 ≤ j
    · rw [if_pos (by omega), if_neg (by omega), if_neg (by omega), if_neg (by omega), if_neg (by omega), show j % 4 = j - 16 by omega]
    · rw [if_neg (by omega)]
      by_cases c12 : 12 ≤ j
      · rw [if_pos (by omega), if_neg (by omega), if_neg (by omega), if_neg (by omega), if_pos (by omega), show j % 4 = j - 12 by omega]
      · rw [if_neg (by omega)]
        by_cases c8 : 8 ≤ j
        · rw [if_pos (by omega), if_neg (by omega), if_neg (by omega), if_pos (by omega), show j % 4 = j - 8 by omega]
        · rw [if_neg (by omega)]
          by_cases c4 : 4 ≤ j
          · rw [if_pos (by omega), if_neg (by omega), if_pos (by omega), show j % 4 = j - 4 by omega]
          · rw [if_neg (by omega), if_pos (by omega), if_pos (by omega), show j % 4 = j - 0 by omega]
  refine ⟨e, ?_, ?_⟩
  · unfold w_rd
    omega
  · unfold w_rd
    omega
theorem cc_end (h : c_I H d nn K tl tp rd ms cn cs) (q0 : (x < 0 ∨ 20 < x ∨ 1200 < (tp.length : Int) + x) → P (-1) H) (q1 : ∀ G, 0 ≤ x → x ≤ 20 → (tp.length : Int) + x ≤ 1200 → c_I G d nn K tl (w_end tp rd x.toNat) (fun _ => 0) ms cn cs → c_ch [1417, 1418, 1419] H G → c_nu H G → P ((tp.length : Int) + x) G) : wm_5 2 x H P := by
  have h' := h
  obtain ⟨A, F, q, fl, ad, O, hP, hY, hM⟩ := h'
  obtain ⟨l, p1, p2, p3⟩ := hP.1
  have el : l.length = tp.length := by rw [← p3, List.length_map]
  have r5 := O.2.2.2.2.2.1
  have p5 := p1.2.2.2.2.1
  have pc := hP.2
  unfold wm_5
  refine ⟨fun c => q0 (Or.inl c), fun c => ⟨fun c1 => q0 (Or.inr (Or.inl c1)), fun c1 => ⟨by rw [r5]; exact p1.1, ?_⟩⟩⟩
  intro q34 e34 v37 e37 _
  rw [e34, r5, p1.2.2.2.1] at e37
  subst e37
  rw [sw_w_s (by omega) (by omega)]
  refine ⟨fun c2 => ⟨x.toNat + 1, c_end_l h p1 c1 c2 _ (by omega) c (by omega) (c_fr_refl _ _) (by simpa using p1) (fun X f row z => ?_)⟩, fun c2 => q0 (Or.inr (Or.inr (by omega)))⟩
  obtain ⟨y1, y2, y3, y4, y5, y6, y7⟩ := c_I_fr h f (by simp)
  rw [el]
  refine q1 X c c1 (by omega) ⟨y1, y2, y3, y4, y5, c_O_ch O y6 ad fl (by simp), ⟨⟨_, row, fun s hs => ?_, ?_⟩, by rw [f.2.2.2.1]; exact pc⟩, ⟨by rw [f.2.2.1]; exact hY.1, by rw [f.2.2.2.1]; exact hY.2.1, fun j hj => ⟨z j hj, (by show (0 : Int) ≤ 0; decide), (by show (0 : Int) < 256; decide)⟩⟩, c_M_ch hM y6 ad fl (by simp) (by simp) (by simp) (by omega) (fun _ _ => rfl)⟩ y6 (c_fr_nu f (by simp))
  · rw [y7]
    rw [List.mem_append] at hs
    rcases hs with hs | hs
    · exact p2 s hs
    · rw [List.mem_map] at hs
      obtain ⟨j, j1, j2⟩ := hs
      rw [List.mem_range] at j1
      have := hY.2.2 j (by omega)
      rw [← j2]
      exact ⟨this.2.1, Or.inl this.2.2⟩
  · rw [List.map_append, p3]
    unfold w_end
    rw [List.map_map]
    congr 1
    apply List.map_congr_left
    intro j hj
    rw [List.mem_range] at hj
    exact w_by_sg (hY.2.2 j (by omega)).2.2
theorem cc_place (h : c_I H d nn K tl tp rd ms cn cs) (m1 : sw_n H < sxlim.1) (m2 : sw_s H + 6 ≤ sxlim.2) (q0 : w_no tl x = none → c_I (sw_nw H 112 0 6) d nn K tl tp rd ms (cn + 1) (cs + 6) → c_ch [] H (sw_nw H 112 0 6) → E (sw_n H + 2) (sw_nw H 112 0 6)) (q1 : ∀ w, w_no tl x = some w → tp.length = 1200 → P (-1) H) (q2 : ∀ w G, w_no tl x = some w → tp.length < 1200 → c_I G d nn K tl (tp ++ [w]) rd ms cn cs → c_ch [1417, 1418] H G → c_nu H G → P (tp.length + 1) G) : wm_60 2 x H P E := by
  have h' := h
  obtain ⟨A, F, q, fl, ad, O, hP, hY, hM⟩ := h'
  obtain ⟨l, p1, p2, p3⟩ := hP.1
  have el : l.length = tp.length := by rw [← p3, List.length_map]
  have r5 := O.2.2.2.2.2.1
  have p5 := p1.2.2.2.2.1
  have pc := hP.2
  have S := A.1.1
  unfold wm_60
  refine ⟨by rw [O.2.1]; exact S.1, ?_⟩
  intro q1' e1
  rw [e1, O.2.1]
  refine c_numbered A (fun hno _ _ => ⟨fun h => absurd rfl h, fun _ => ⟨m1, m2, ?_⟩⟩) (fun w t hw ht hd _ _ => ⟨fun _ => ⟨by rw [r5]; exact p1.1, ?_⟩, fun h0 => by have := ht.1; omega⟩)
  · intro H33 e33
    rw [e33]
    have := c_I_throw h 112
    exact q0 hno this.1 this.2
  · intro q12 e12 v15 e15 _
    rw [e12, r5, p1.2.2.2.1] at e15
    subst e15
    refine ⟨fun c => ⟨by rw [r5]; exact p1.1, ?_⟩, fun c => q1 w hw (by omega)⟩
    intro q18 e18
    rw [e18, r5]
    have t2 := A.1.2.2.2.1
    have dl := S.2.2.2.2.2.2.1
    have ht2 := ht.2
    rw [sw_w_s (by omega) (by omega)]
    refine c_put p1 (by omega) (fun G rG fG _ => ?_)
    obtain ⟨y1, y2, y3, y4, y5, y6, y7⟩ := c_I_fr h fG (by simp)
    refine ⟨by rw [fG.2.2.2.2.1, r5]; exact rG.1, ?_⟩
    intro q26 e26 v29 e29 _
    rw [fG.2.2.2.2.1, r5] at e26
    rw [e26, rG.2.2.2.1] at e29
    have e29 : v29 = (tp.length : Int) + 1 := by rw [e29]; simp; omega
    rw [e29]
    obtain ⟨g1, g2⟩ := c_vs_t (d := d) ht
    refine q2 w G hw (by omega) ⟨y1, y2, y3, y4, y5, c_O_ch O y6 ad fl (by simp), ⟨⟨_, rG, fun s hs => ?_, ?_⟩, by rw [fG.2.2.2.1]; exact pc⟩, c_Y_ch hY y6 ad (by simp), c_M_ch hM y6 ad fl (by simp) (by simp) (by simp) (by omega) (fun _ _ => rfl)⟩ y6 (c_fr_nu fG (by simp))
    · rw [y7]
      rw [List.mem_append, List.mem_singleton] at hs
      rcases hs with hs | hs
      · exact p2 s hs
      · rw [hs]; exact g1
    · rw [List.map_append, p3, List.map_singleton, g2, hd]
theorem cc_copy (h : c_I H d nn K tl tp rd ms cn cs) (hz : sw_c z) (q0 : (∀ l, ¬ (0 ≤ x ∧ ms[x.toNat]? = some l ∧ 0 ≤ y ∧ 0 ≤ z ∧ y ≤ l.length ∧ tp.length + (w_cpy l y z).length ≤ 1200)) → P (-1) H) (q1 : ∀ l G, 0 ≤ x → ms[x.toNat]? = some l → 0 ≤ y → 0 ≤ z → y ≤ l.length → tp.length + (w_cpy l y z).length ≤ 1200 → c_I G d nn K tl (tp ++ w_cpy l y z) rd ms cn cs → c_ch [1417, 1418] H G → c_nu H G → P ((tp ++ w_cpy l y z).length : Nat) G) : wm_10 2 x y z H P := by
  have h' := h
  obtain ⟨A, F, q, fl, ad, O, hP, hY, hM⟩ := h'
  obtain ⟨s, p1, p2, p3⟩ := hP.1
  have el : s.length = tp.length := by rw [← p3, List.length_map]
  obtain ⟨o1, o2, o3, o4, o5, r5, o7, o8, o9, o10, o11, o12, o13, o14, o15⟩ := O
  have O := h.2.2.2.2.2.1
  have p5 := p1.2.2.2.2.1
  have pc := hP.2
  have m3 := hM.2.1
  unfold wm_10
  refine c_isMessage hM (fun c _ _ => ⟨fun _ => q0 (fun l ⟨b1, b2, _⟩ => ?_), fun h => absurd rfl h⟩) (fun l h0 h1 hl _ _ => ⟨fun h => absurd h (by decide), fun _ => ⟨fun c => q0 (fun l b => by omega), fun c => ⟨fun c1 => q0 (fun l b => by omega), fun c1 => ⟨by rw [o5]; exact o14, ?_⟩⟩⟩⟩)
  · have := (List.getElem?_eq_some_iff.mp b2).1
    omega
  intro q6 e6
  rw [e6, o5]
  obtain ⟨b, g1, g2, g3, g4, g5, g6⟩ := c_M_at hM h0 hl
  have sl := c_sg_len g6
  have g6' := g6
  obtain ⟨s2, k1, k2, k3⟩ := g6'
  have el2 : s2.length = l.length := by rw [← k3, List.length_map]
  refine ⟨h0, by rw [o15]; omega, k1.1, ?_⟩
  intro q9 e9 v12 e12 _
  rw [e9, sl.1] at e12
  subst e12
  refine ⟨fun c2 => ⟨o14, ?_⟩, fun c2 => q0 (fun l' ⟨b1, b2, b3, b4, b5, b6⟩ => ?_)⟩
  · intro q15 e15
    rw [e15]
    refine ⟨h0, by rw [o15]; omega, k1.1, ?_⟩
    intro q18 e18 v21 e21 _
    rw [e18, sl.1] at e21
    subst e21
    unfold sw_c at hz
    rw [sw_w_s (z := (l.length : Int) - y) (by omega) (by omega)]
    have lw := w_cpy_len (x := y) (y := z) l c c1 c2
    refine c_min ?_
    rw [← lw]
    intro _ _
    refine ⟨by rw [r5]; exact p1.1, ?_⟩
    intro q32 e32 v35 e35 _
    rw [e32, r5, p1.2.2.2.1, el] at e35
    subst e35
    have lw2 : (w_cpy l y z).length ≤ 1200 := by
      have : (w_cpy l y z).length ≤ l.length := by
        unfold w_cpy
        rw [List.length_take, List.length_drop]
        omega
      omega
    rw [sw_w_s (z := (tp.length : Int) + (w_cpy l y z).length) (by omega) (by omega)]
    refine ⟨fun c3 => ⟨by rw [r5]; exact p1.1, ?_⟩, fun c3 => q0 (fun l' ⟨b1, b2, b3, b4, b5, b6⟩ => ?_)⟩
    · intro q38 e38
      refine ⟨by rw [o5]; exact o14, ?_⟩
      intro q41 e41
      rw [e41, e38, r5, o5]
      refine ⟨h0, by rw [o15]; omega, k1.1, ?_⟩
      intro q44 e44
      rw [e44, sw_w_s (by omega) (by omega)]
      have hle : y + (w_cpy l y z).length ≤ (l.length : Int) := by
        rw [lw]
        split <;> omega
      refine c_putAll p1 k1 (by omega) c (by omega) (by rw [el2]; exact hle) (by rw [el, pc]; omega) (fun G rG fG _ => ?_)
      rw [show y + ((w_cpy l y z).length : Int) - y = (w_cpy l y z).length by omega, Int.toNat_natCast] at rG
      obtain ⟨y1, y2, y3, y4, y5, y6, y7⟩ := c_I_fr h fG (by simp)
      have cp : ((s2.drop y.toNat).take (w_cpy l y z).length).map (w_sg d) = w_cpy l y z := by
        rw [List.map_take, List.map_drop, k3]
        unfold w_cpy
        rw [List.length_take, List.length_drop]
        rw [List.take_eq_take_iff, List.length_drop]
        omega
      have ln : (s ++ (s2.drop y.toNat).take (w_cpy l y z).length).length = (tp ++ w_cpy l y z).length := by
        rw [← List.length_map (f := w_sg d), List.map_append, p3, cp]
      refine ⟨by rw [fG.2.2.2.2.1, r5]; exact rG.1, ?_⟩
      intro q52 e52 v55 e55 _
      rw [fG.2.2.2.2.1, r5] at e52
      rw [e52, rG.2.2.2.1, ln] at e55
      rw [e55]
      refine q1 l G h0 hl c c1 c2 (by omega) ⟨y1, y2, y3, y4, y5, c_O_ch O y6 ad fl (by simp), ⟨⟨_, rG, fun u hu => ?_, ?_⟩, by rw [fG.2.2.2.1]; exact pc⟩, c_Y_ch hY y6 ad (by simp), c_M_ch hM y6 ad fl (by simp) (by simp) (by simp) (by omega) (fun _ _ => rfl)⟩ y6 (c_fr_nu fG (by simp))
      · rw [y7]
        rw [List.mem_append] at hu
        rcases hu with hu | hu
        · exact p2 u hu
        · exact k2 u (List.mem_of_mem_drop (List.mem_of_mem_take hu))
      · rw [List.map_append, p3, cp]
    · rw [hl] at b2
      cases b2
      omega
  · rw [hl] at b2
    cases b2
    omega
theorem cc_post (h : c_I H d nn K tl tp rd ms cn cs) (m1 : sw_n H + 2 ≤ sxlim.1) (m2 : sw_s H + 1202 ≤ sxlim.2) (q0 : ms.length = 300 → c_I (sw_nw H 120 0 6) d nn K tl tp rd ms (cn + 1) (cs + 6) → c_ch [] H (sw_nw H 120 0 6) → E (sw_n H + 2) (sw_nw H 120 0 6)) (q1 : ∀ G, ms.length < 300 → c_I G d nn K tl [] rd (ms ++ [tp]) (cn + 2) (cs + 2 + tp.length) → c_ch [2, 1416, 1417] H G → c_nu H G → (∀ i, sw_rv G 1416 i = if i = ms.length then sw_n H + 2 else sw_rv H 1416 i) → sw_rv G (sw_n H + 2) 0 = sw_n H + 3 → P ms.length G) : wm_112 2 H P E := by
  have h' := h
  obtain ⟨A, F, q, fl, ad, O, hP, hY, hM⟩ := h'
  have r5 := O.2.2.2.2.2.1
  have lt := c_sg_len hP.1
  have pc := hP.2
  have ty17 : sw_ty H 1417 = 80 := by
    obtain ⟨s, r, _⟩ := hP.1
    exact r.1
  unfold wm_112
  intro v1 e1 _
  rw [hM.1] at e1
  subst e1
  refine ⟨fun c => ⟨by rw [r5]; exact ty17, ?_⟩, fun c => ⟨by omega, by omega, ?_⟩⟩
  · intro q4 e4
    rw [e4, r5]
    refine c_keep2 h hP.1 (by decide) (by omega) (by omega) m1 (by omega) (fun G hG ch _ i3 nr na _ _ => ?_)
    have O2 := hG.2.2.2.2.2.1
    have hP2 := hG.2.2.2.2.2.2.1
    obtain ⟨s, p1, p2, p3⟩ := hP2.1
    refine ⟨by rw [O2.2.2.2.2.2.1]; exact p1.1, ?_⟩
    intro q15 e15
    rw [e15, O2.2.2.2.2.2.1]
    refine c_clear p1 (fun D rD fD _ => ?_)
    obtain ⟨y1, y2, y3, y4, y5, y6, y7⟩ := c_I_fr hG fD (by simp)
    have ad2 := hG.2.2.2.2.1
    have fl2 := hG.2.2.2.1
    refine q1 D (by omega) ⟨y1, y2, y3, y4, y5, c_O_ch O2 y6 ad2 fl2 (by simp), ⟨⟨[], rD, by simp, rfl⟩, by rw [fD.2.2.2.1]; exact hP2.2⟩, c_Y_ch hG.2.2.2.2.2.2.2.1 y6 ad2 (by simp), c_M_ch hG.2.2.2.2.2.2.2.2 y6 ad2 fl2 (by simp) (by simp) (by simp) (by omega) (fun _ _ => rfl)⟩ (c_ch_sub (c_ch_trans ch y6) (by simp)) (c_nu_trans ⟨by unfold c_n; rw [i3], by rw [i3]⟩ (c_fr_nu fD (by simp))) (fun i => by rw [fD.2.2.2.2.1]; exact nr i) (by rw [fD.2.2.2.2.1]; exact na)
  · intro H23 e23
    rw [e23]
    have := c_I_throw h 120
    exact q0 (by have := hM.2.1; omega) this.1 this.2
theorem cc_tellp (a : c_A H d nn K tl) (F : c_F H) (q : c_q H cn cs) (rm : c_rmN H) (h0 : 0 ≤ x) (h1 : x ≤ c_n H) (k : ∀ Y, c_A Y d nn K (w_tp tl (w_dz d x)).2 → c_F Y → c_q Y cn cs → c_ex H d Y d → c_nu H Y → P (w_tp tl (w_dz d x)).1 Y) : wm_123 3 x H P := by
  by_cases c : x = 0
  · have e1 : w_tp tl (w_dz d x) = (0, tl) := by
      unfold w_tp w_dz
      rw [if_pos c, if_pos rfl]
    rw [e1] at k
    unfold wm_123
    exact ⟨fun h => absurd c h, fun _ => k H a F q (c_ex_refl H d) (c_nu_refl H)⟩
  · have hR : c_R H x.toNat := ⟨by omega, by omega⟩
    have e1 : w_tp tl (w_dz d x) = (((((w_tl tl (d x.toNat)).idxOf (d x.toNat) : Nat)) : Int) + 1, w_tl tl (d x.toNat)) := by
      unfold w_tp
      rw [w_dz_pos (by omega), if_neg]
      obtain ⟨s, l, _, q⟩ := c_d0 a.1 hR
      rw [q]
      intro h
      cases h
    rw [e1] at k
    have ex : x = ((x.toNat : Nat) : Int) := by omega
    rw [ex]
    exact c_tell a F q rm hR (fun Y aY FY qY ft en e4 => k Y aY FY qY (c_ft_ex ft en) ⟨en, e4⟩)
theorem cc_tellSign (h : c_I H d nn K tl tp rd ms cn cs) (rm : c_rmN H) (hv : m_vs (c_n H) x) (k : ∀ Y, c_A Y d nn K (w_ts tl (w_sg d x)).2 → c_F Y → c_q Y cn cs → c_ex H d Y d → c_nu H Y → P (w_ts tl (w_sg d x)).1 Y) : wm_128 2 x H P := by
  obtain ⟨a, F, q, fl, ad, O, hP, hY, hM⟩ := h
  have S := a.1.1
  have hN := a.2.2.2.2.2.2.1
  have nl := S.2.2.2.2.2.2.2.2.2.1
  have n2 := hN.2.1
  have dl := S.2.2.2.2.2.2.1
  have t2 := a.1.2.2.2.1
  have hv' := hv
  unfold m_vs at hv
  unfold wm_128
  refine ⟨fun c => ⟨by rw [O.2.1]; exact S.1, ?_⟩, fun c => ?_⟩
  · intro q1 e1
    rw [e1, O.2.1, sw_w_s (by omega) (by omega)]
    have hR : c_R H (x - 256).toNat := ⟨by omega, by omega⟩
    have e1 : w_sg d x = d (x - 256).toNat := by unfold w_sg; rw [if_neg (by omega)]
    have e2 : w_ts tl (w_sg d x) = ((256 : Int) + (((w_tl tl (d (x - 256).toNat)).idxOf (d (x - 256).toNat) : Nat) + 1), w_tl tl (d (x - 256).toNat)) := by
      rw [e1]
      unfold w_ts
      rw [if_neg (c_head a.1 hR)]
    rw [e2] at k
    have ex : x - 256 = (((x - 256).toNat : Nat) : Int) := by omega
    rw [ex]
    have hlen := (w_tl_len tl (d (x - 256).toNat)).2
    refine c_tell a F q rm hR (fun Y aY FY qY ft en e4 _ _ => ?_)
    rw [sw_w_s (by omega) (by omega)]
    exact k Y aY FY qY (c_ft_ex ft en) ⟨en, e4⟩
  · have e1 : w_sg d x = [1000, x.toNat] := by unfold w_sg; rw [if_pos c]
    have e2 : w_ts tl (w_sg d x) = (x, tl) := by
      rw [e1]
      unfold w_ts
      rw [if_pos (show [1000, x.toNat].head? = some 1000 from rfl)]
      show (((x.toNat : Nat) : Int), tl) = (x, tl)
      rw [Int.toNat_of_nonneg hv.1]
    rw [e2] at k
    exact k H a F q (c_ex_refl H d) (c_nu_refl H)
theorem cc_sign (h : c_I H d nn K tl tp rd ms cn cs) (rm : c_rmN H) (q0 : (∀ l w, ¬ (0 ≤ x ∧ 0 ≤ y ∧ ms[x.toNat]? = some l ∧ l[y.toNat]? = some w)) → P (-1) H) (q1 : ∀ l w Y, 0 ≤ x → 0 ≤ y → ms[x.toNat]? = some l → l[y.toNat]? = some w → c_I Y d nn K (w_ts tl w).2 tp rd ms cn cs → c_ch [] H Y → c_nu H Y → P (w_ts tl w).1 Y) : wm_36 2 x y H P := by
  have h' := h
  obtain ⟨a, F, q, fl, ad, O, hP, hY, hM⟩ := h'
  obtain ⟨o1, o2, o3, o4, o5, o6, o7, o8, o9, o10, o11, o12, o13, o14, o15⟩ := O
  have m3 := hM.2.1
  unfold wm_36
  refine c_isMessage hM (fun c _ _ => ⟨fun _ => q0 (fun l w ⟨b1, b2, b3, b4⟩ => ?_), fun h => absurd rfl h⟩) (fun l h0 h1 hl _ _ => ⟨fun h => absurd h (by decide), fun _ => ⟨fun c => q0 (fun l w b => by omega), fun c => ⟨by rw [o5]; exact o14, ?_⟩⟩⟩)
  · have := (List.getElem?_eq_some_iff.mp b3).1
    omega
  intro q6 e6
  rw [e6, o5]
  obtain ⟨b, g1, g2, g3, g4, g5, g6⟩ := c_M_at hM h0 hl
  have ty : sw_ty H (sw_rv H 1416 x.toNat) = 80 := by
    obtain ⟨s, r, _⟩ := g6
    exact r.1
  refine ⟨h0, by rw [o15]; omega, ty, ?_⟩
  intro q9 e9 v12 e12 _
  rw [e9, (c_sg_len g6).1] at e12
  subst e12
  refine ⟨fun c2 => ⟨o14, ?_⟩, fun c2 => q0 (fun l' w ⟨b1, b2, b3, b4⟩ => ?_)⟩
  · intro q15 e15
    rw [e15]
    refine ⟨h0, by rw [o15]; omega, ty, ?_⟩
    intro q18 e18
    rw [e18]
    obtain ⟨k1, k2, k3, k4, k5, k6⟩ := c_sg_at g6 (List.getElem?_eq_getElem (by omega : y.toNat < l.length))
    refine ⟨by rw [k5]; exact k6, ?_⟩
    intro q21 e21
    rw [e21, k5]
    refine ⟨c, by omega, ?_⟩
    intro v24 e24 _
    rw [e24]
    refine cc_tellSign h rm k2 (fun Y aY FY qY ex nu _ _ => ?_)
    rw [k3] at aY ⊢
    exact q1 l _ Y h0 c hl (List.getElem?_eq_getElem (by omega)) (c_I_ex h aY FY qY ex) (c_ft_ch ex.1) nu
  · rw [hl] at b3
    cases b3
    have := (List.getElem?_eq_some_iff.mp b4).1
    omega
theorem cc_ofTerm (h : c_I H d nn K tl tp rd ms cn cs) (rm : c_rmN H) (q0 : (∀ w t, w_no tl x = some w → c_R H t → d t = w → ¬ (0 ≤ y ∧ y < c_d H t 5)) → P (-1) H) (q1 : ∀ w t s Y, w_no tl x = some w → c_R H t → d t = w → 0 ≤ y → y < c_d H t 5 → (c_sn H t)[y.toNat]? = some s → c_I Y d nn K (w_ts tl (w_sg d s)).2 tp rd ms cn cs → c_ch [] H Y → c_nu H Y → P (w_ts tl (w_sg d s)).1 Y) : wm_32 2 x y H P := by
  have h' := h
  obtain ⟨a, F, q, fl, ad, O, hP, hY, hM⟩ := h'
  obtain ⟨o1, o2, o3, o4, o5, o6, o7, o8, o9, o10, o11, o12, o13, o14, o15⟩ := O
  have s := c_A_sh a
  have S := a.1.1
  have inj := a.1.2.2.2.2.2.2.2.2.2.2.1
  have t3 : sw_ty H (sw_rv H 2 0) = 96 := by rw [o2]; exact S.1
  unfold wm_32
  refine ⟨t3, ?_⟩
  intro q1' e1
  rw [e1, o2]
  refine c_numbered a (fun hno _ _ => ⟨fun _ => q0 (fun w t hw => by rw [hno] at hw; cases hw), fun h => absurd rfl h⟩) (fun w t hw ht hd _ _ => ⟨fun h0 => by have := ht.1; omega, fun _ => ⟨fun c => q0 (fun w t _ _ _ b => by omega), fun c => ⟨t3, ?_⟩⟩⟩)
  intro q12 e12
  rw [e12, o2]
  refine c_lengthOf s ht.2 (fun _ _ => ⟨fun c2 => ⟨t3, ?_⟩, fun c2 => q0 (fun w' t' hw' ht' hd' b => ?_)⟩)
  · intro q20 e20
    rw [e20, o2]
    have r := a.1.2.2.2.2.2.2.2.2.2.1 t ht
    have r4 := r.2.1
    have r5 := r.2.2.1
    have r6 := r.2.2.2.1
    have r7 := r.2.2.2.2.1
    clear r
    have ul := a.1.2.2.2.2.2.1
    have sl := S.2.2.2.2.2.2.2.1
    unfold wm_127
    refine ⟨S.2.2.1, ?_⟩
    intro q1'' e1
    rw [e1]
    refine c_get (k := 4) (Q := fun v7 => 0 ≤ sw_w (v7 + y) ∧ sw_w (v7 + y) < sw_ln H (sw_rv H 3 3) ∧ ∀ v10, v10 = sw_iv H (sw_rv H 3 3) (sw_w (v7 + y)).toNat → sw_c v10 → sw_c v10 → sw_ext H H → wm_128 2 v10 H (fun z31 H28 => sw_c z31 → sw_ext H H28 → P z31 H28)) s ht.2 (by decide) ?_
    rw [sw_w_s (by omega) (by omega)]
    refine ⟨by omega, by omega, ?_⟩
    intro v10 e10 _ _ _
    have hs : (c_sn H t)[y.toNat]? = some v10 := by
      unfold c_sn
      rw [m_sl_at (by omega), e10]
      congr 2
      omega
    have hm := List.mem_of_getElem? hs
    have ht2 := ht.2
    refine cc_tellSign h rm (m_vs_up (by omega) (r7 _ hm)) (fun Y aY FY qY ex nu _ _ => ?_)
    exact q1 w t v10 Y hw ht hd c c2 hs (c_I_ex h aY FY qY ex) (c_ft_ch ex.1) nu
  · rw [hw] at hw'
    cases hw'
    have := inj t t' ht ht' (hd.trans hd'.symm)
    rw [← this] at b
    omega
theorem cc_term (h : c_I H d nn K tl tp rd ms cn cs) (rm : c_rmN H) (q0 : (w_no tl x = none ∨ y < 0 ∨ 4 < y) → P (-1) H) (qs : ∀ w t, w_no tl x = some w → c_R H t → d t = w → y = 0 → P (c_d H t 0) H) (q1 : ∀ w t Y, w_no tl x = some w → c_R H t → d t = w → y = 1 → c_I Y d nn K (w_tp tl (w_dz d (c_d H t 1))).2 tp rd ms cn cs → c_ch [] H Y → c_nu H Y → P (w_tp tl (w_dz d (c_d H t 1))).1 Y) (q2l : ∀ w t, w_no tl x = some w → c_R H t → d t = w → y = 2 → c_d H t 0 = 3 → P (c_d H t 2) H) (q2 : ∀ w t Y, w_no tl x = some w → c_R H t → d t = w → y = 2 → c_d H t 0 ≠ 3 → c_I Y d nn K (w_tp tl (w_dz d (c_d H t 2))).2 tp rd ms cn cs → c_ch [] H Y → c_nu H Y → P (w_tp tl (w_dz d (c_d H t 2))).1 Y) (q3 : ∀ w t Y, w_no tl x = some w → c_R H t → d t = w → y = 3 → c_I Y d nn K (w_tp tl (w_dz d (c_d H t 3))).2 tp rd ms cn cs → c_ch [] H Y → c_nu H Y → P (w_tp tl (w_dz d (c_d H t 3))).1 Y) (q4 : ∀ w t, w_no tl x = some w → c_R H t → d t = w → y = 4 → P (c_d H t 5) H) : wm_30 2 x y H P := by
  have h' := h
  obtain ⟨a, F, q, fl, ad, O, hP, hY, hM⟩ := h'
  obtain ⟨o1, o2, o3, o4, o5, o6, o7, o8, o9, o10, o11, o12, o13, o14, o15⟩ := O
  have s := c_A_sh a
  have S := a.1.1
  have t3 : sw_ty H (sw_rv H 2 0) = 96 := by rw [o2]; exact S.1
  unfold wm_30
  refine ⟨t3, ?_⟩
  intro q29 e29
  rw [e29, o2]
  refine c_numbered a (fun hno _ _ => ⟨fun h => absurd rfl h, fun _ => q0 (Or.inl hno)⟩) (fun w t hw ht hd _ _ => ⟨fun _ => ?_, fun h0 => by have := ht.1; omega⟩)
  have v := (a.1.2.2.2.2.2.2.2.2.2.1 t ht).1
  have v3 := v.2.2.1
  have v4 := v.2.2.2.1
  have v5 := v.2.2.2.2.1
  have v6 := v.2.2.2.2.2.1
  have v7 := v.2.2.2.2.2.2.1
  have v9 := v.2.2.2.2.2.2.2.2.1
  clear v
  have ht2 := ht.2
  refine ⟨fun c => q0 (Or.inr c), fun c => ⟨t3, ?_⟩, fun c => ⟨t3, ?_⟩, fun c => ⟨t3, ?_⟩, fun c => ⟨t3, ?_⟩, fun c => ⟨t3, ?_⟩⟩
  · intro q41 e41
    rw [e41, o2]
    exact c_sortOf s ht.2 (fun _ _ => qs w t hw ht hd c)
  · intro q49 e49
    refine ⟨t3, ?_⟩
    intro q52 e52
    rw [e52, e49, o2]
    refine c_firstOf s ht.2 (fun _ _ => ?_)
    exact cc_tellp a F q rm v3 (by omega) (fun Y aY FY qY ex nu _ _ => q1 w t Y hw ht hd c (c_I_ex h aY FY qY ex) (c_ft_ch ex.1) nu)
  · intro q65 e65
    rw [e65, o2]
    refine c_sortOf s ht.2 (fun _ _ => ⟨fun c3 => ?_, fun c3 => ?_⟩)
    · unfold wb_30_33
      refine ⟨fun _ => ⟨t3, ?_⟩, fun h => absurd rfl h⟩
      intro q4 e4
      refine ⟨t3, ?_⟩
      intro q7 e7
      rw [e7, e4, o2]
      refine c_secondOf s ht.2 (fun _ _ => ?_)
      exact cc_tellp a F q rm v7 (by have := v9 c3; omega) (fun Y aY FY qY ex nu _ _ => q2 w t Y hw ht hd c c3 (c_I_ex h aY FY qY ex) (c_ft_ch ex.1) nu)
    · unfold wb_30_33
      refine ⟨fun h => absurd h (by decide), fun _ => ⟨t3, ?_⟩⟩
      intro q20 e20
      rw [e20, o2]
      exact c_secondOf s ht.2 (fun _ _ => q2l w t hw ht hd c c3)
  · intro q74 e74
    refine ⟨t3, ?_⟩
    intro q77 e77
    rw [e77, e74, o2]
    refine c_thirdOf s ht.2 (fun _ _ => ?_)
    exact cc_tellp a F q rm v5 (by omega) (fun Y aY FY qY ex nu _ _ => q3 w t Y hw ht hd c (c_I_ex h aY FY qY ex) (c_ft_ch ex.1) nu)
  · intro q90 e90
    rw [e90, o2]
    exact c_lengthOf s ht.2 (fun _ _ => q4 w t hw ht hd c)
/-- the terms after one was made -/
def c_one (H : sw_H) (d : Nat → Wt) (w : Wt) (G : sw_H) (e : Nat → Wt) : Prop := (c_nu H G ∧ e = d ∧ ∃ u, c_R H u ∧ d u = w) ∨ (c_n G = c_n H + 1 ∧ sw_iv G 3 4 = sw_iv H 3 4 + w_sz w ∧ (∀ u, c_R H u → d u ≠ w) ∧ e (c_n H + 1).toNat = w)
theorem c_one_nu {w : Wt} (h : c_one H d w G e) (k : c_nu G X) : c_one H d w X e := by
  obtain ⟨k1, k2⟩ := k
  rcases h with ⟨g1, g2⟩ | ⟨g1, g2, g3⟩
  · exact Or.inl ⟨c_nu_trans g1 ⟨k1, k2⟩, g2⟩
  · exact Or.inr ⟨k1.trans g1, k2.trans g2, g3⟩
theorem c_nm_no (A : c_A H d nn K tl) (u : Nat) (u1 : c_R H u) : d u ≠ w_nm nn := by
  intro u2
  obtain ⟨r1, r2, r3, r4, r5, r6, r7⟩ := A.1.2.2.2.2.2.2.2.2.2.1 u u1
  by_cases c0 : c_d H u 0 = 0
  · rcases r7 c0 with ⟨_, g⟩ | ⟨_, i, hi, g⟩
    · rw [u2] at g
      exact absurd (w_mk_inj g).1 (by decide)
    · rw [u2] at g
      have := (w_mk_inj g).2
      simp at this
      omega
  · rw [u2] at r6
    have := (r6 c0).1
    unfold w_tm at this
    have e8 := (w_mk_inj this).1
    have := r1.2.1
    omega
theorem c_one_of {w : Wt} {l : List Int} {s a b c : Int} (ex : c_ex H d X e) (ht : c_R X t) (he : e t = w) (ew : w_tm d s a b c l = w) (hg : (X = H ∧ e = d) ∨ (c_n X = c_n H + 1 ∧ sw_iv X 3 4 = sw_iv H 3 4 + l.length ∧ ∀ t, c_R H t → d t ≠ w_tm d s a b c l)) : c_one H d w X e := by
  rcases hg with ⟨hX, hd⟩ | ⟨nX, uX, hno⟩
  · subst hX hd
    exact Or.inl ⟨c_nu_refl _, rfl, t, ht, he⟩
  · rw [ew] at hno
    have ht1 : (t : Int) = c_n H + 1 := by
      have t2 := ht.2
      rcases Int.lt_or_le (c_n H) t with g | g
      · omega
      · exfalso
        refine hno t ⟨ht.1, g⟩ ?_
        rw [← ex.2.2 t g]
        exact he
    refine Or.inr ⟨nX, by rw [uX, ← ew, w_sz_tm], hno, ?_⟩
    rw [← ht1, Int.toNat_natCast]
    exact he
theorem w_sz_nm (n : Nat) : w_sz (w_nm n) = 0 := by
  unfold w_sz w_nm
  rw [w_pts_mk]
  rfl
theorem cc_makeTerm {s b a' : Int} (lm : c_lm cn cs N U M) (h : c_I H d nn K tl tp rd ms cn cs) (bd : c_bd H tl N U M 1 tp.length 0) (h0 : 0 ≤ s) (h7 : s ≤ 7) (ha0 : 0 ≤ a') (ha1 : a' ≤ c_n H) (hA : 1 < s → 1 ≤ a' ∧ K (d a'.toNat)) (hB : s = 4 ∨ s = 6 → w_has tl K b) (h3 : s = 3 → 0 ≤ b ∧ b ≤ 9) (h6 : s = 6 → c_d H a'.toNat 0 = 5) (k : ∀ w X e nn' (t : Nat), (s = 0 → w = w_nm nn ∧ nn' = nn + 1) → (s ≠ 0 → w = w_mkt s (if 1 < s then d a'.toNat else []) (if s = 3 then [b.toNat] else if s = 4 ∨ s = 6 then w_nz tl b else []) tp ∧ nn' = nn ∧ K w) → c_I X e nn' K tl tp rd ms cn cs → c_ex H d X e → c_R X t → e t = w → c_n X ≤ c_n H + 1 → sw_iv X 3 4 ≤ sw_iv H 3 4 + tp.length → c_one H d w X e → P t X) : wm_242 2 s a' b H P := by
  have h' := h
  obtain ⟨a, F, q, fl, ad, O, hP, hY, hM⟩ := h'
  have hKc := c_K_clo a.2.2.2.2.2.1
  have tt : sw_ty H (sw_rv H 2 0) = 96 := by rw [O.2.1]; exact a.1.1.1
  have o2 := O.2.1
  have r5 := O.2.2.2.2.2.1
  obtain ⟨l, p1, p2, p3⟩ := hP.1
  have el : l.length = tp.length := by rw [← p3, List.length_map]
  have ty5 : sw_ty H (sw_rv H 2 5) = 80 := by rw [r5]; exact p1.1
  have nr : ¬ c_ow H 1417 := c_fx ad (by decide) (by decide) (by decide) (by decide)
  have na : ¬ c_ow H 1418 := c_fx ad (by decide) (by decide) (by decide) (by decide)
  have n4 := a.2.2.1
  have n5 := a.2.2.2.1
  have row0 := a.1.1.2.2.2.2.2.2.2.2.2.2.2.1
  have r30 := a.1.1.2.2.2.2.2.2.2.2.2.2.2.2
  have c1 := a.1.2.2.1
  have dz : 1 < s → w_dz d a' = d a'.toNat := fun hs => w_dz_pos (hA hs).1
  have d0 : w_dz d 0 = [] := if_pos rfl
  -- of the tape
  have tape : ∀ (s' f g : Int), s' = s → (s = 1 ∨ s = 2 ∨ s = 3 ∨ s = 7) → (s = 1 → f = 0) → (s ≠ 1 → f = a') → (s = 3 → g = b) → (s ≠ 3 → g = 0) → wm_145 3 s' f g 0 1417 H (fun z H1 => sw_c z → sw_ext H H1 → P z H1) := by
    intro s' f g es hs f1 f2 g1 g2
    rw [es]
    have f01 : 0 ≤ f ∧ f ≤ c_n H := by
      by_cases c : s = 1
      · have := f1 c; omega
      · have := f2 c; omega
    have fa : s ≠ 1 → 1 ≤ f := fun c => by have := f2 c; have := hA (by omega); omega
    have g0 : 0 ≤ g ∧ (s = 3 → g ≤ 9) ∧ (s ≠ 3 → g = 0) := by
      refine ⟨?_, fun c => by have := g1 c; have := h3 c; omega, g2⟩
      by_cases c : s = 3
      · have := g1 c; have := h3 c; omega
      · have := g2 c; omega
    have fh : s = 1 → f = 0 := f1
    refine c_ofA a F q p1 nr na (c_A_room lm q a (by omega) (by rw [el]; exact bd)) (by omega) ?_ p2 (fun X e t aX FX qX ex ht he hg _ _ => ?_)
    · obtain ⟨g01, g02, g03⟩ := g0
      refine ⟨h0, h7, f01.1, f01.2, by omega, by omega, g01, g02, fun c => by have := g03 c; omega, fun c => ?_, fun c => ?_, fun c => ⟨fa (by omega), rfl⟩, fun c => by omega, fun c => by omega⟩
      · have e1 : s = 1 := by omega
        exact ⟨fh e1, g03 (by omega), rfl⟩
      · exact ⟨fa (by omega), g03 (by omega), rfl⟩
    · have hw : w_tm d s f g 0 l = w_mkt s (if 1 < s then d a'.toNat else []) (if s = 3 then [b.toNat] else if s = 4 ∨ s = 6 then w_nz tl b else []) tp := by
        unfold w_tm w_mkt
        rw [p3, d0, if_pos hs]
        congr 2
        · by_cases c : s = 1
          · rw [f1 c, d0, if_neg (by omega)]
          · rw [f2 c, dz (by omega), if_pos (by omega)]
        · congr 1
          by_cases c : s = 3
          · rw [if_pos c, if_pos c, g1 c]
          · rw [if_neg c, if_neg c, g2 c, d0, if_neg (by omega)]
      have hK : K (w_mkt s (if 1 < s then d a'.toNat else []) (if s = 3 then [b.toNat] else if s = 4 ∨ s = 6 then w_nz tl b else []) tp) := by
        refine (hKc _).1 ⟨s.toNat, _, _, _, _, rfl, ?_⟩
        by_cases c : s = 1
        · exact Or.inr (Or.inl (by omega))
        · refine Or.inr (Or.inr (Or.inl ⟨by omega, ?_⟩))
          rw [if_pos (by omega)]
          exact (hA (by omega)).2
      have hb : c_n X ≤ c_n H + 1 ∧ sw_iv X 3 4 ≤ sw_iv H 3 4 + tp.length := by
        rcases hg with ⟨e1, _⟩ | ⟨e1, e2, _⟩
        · rw [e1]; omega
        · omega
      exact k _ X e nn t (fun c => by omega) (fun _ => ⟨he.trans hw, rfl, by rw [he.trans hw]; exact hK⟩) (c_I_ex h aX FX qX ex) ex ht rfl hb.1 hb.2 (c_one_of ex ht rfl he.symm hg)
  -- of nothing
  have noth : ∀ g : Int, (s = 4 ∨ s = 5 ∨ s = 6) → (s = 5 → g = 0) → (s ≠ 5 → ∃ u : Nat, g = u ∧ c_R H u ∧ d u = w_nz tl b ∧ K (d u)) → wm_145 3 s a' g 0 4 H (fun z H1 => sw_c z → sw_ext H H1 → P z H1) := by
    intro g hs g1 g2
    have hA' := hA (by omega)
    have g0 : 0 ≤ g ∧ g ≤ c_n H ∧ (s ≠ 5 → 1 ≤ g) := by
      by_cases c : s = 5
      · have := g1 c; exact ⟨by omega, by omega, fun h => absurd c h⟩
      · obtain ⟨u, u1, u2, _⟩ := g2 c
        have := u2.1
        have := u2.2
        exact ⟨by omega, by omega, fun _ => by omega⟩
    refine c_ofA (l := []) a F q row0 n4 n5 (c_A_room lm q a (by simp) (c_bd_le bd (by omega) (by simp) (by omega))) (by omega) ?_ (by simp) (fun X e t aX FX qX ex ht he hg _ _ => ?_)
    · obtain ⟨g01, g02, g03⟩ := g0
      clear g2 lm
      exact ⟨h0, h7, ha0, ha1, by omega, by omega, g01, fun c => by omega, fun _ => g02, fun c => by omega, fun c => ⟨hA'.1, g1 (by omega), rfl⟩, fun c => by omega, fun c => ⟨hA'.1, g03 (by omega), rfl⟩, fun c => ⟨hA'.1, h6 c, g03 (by omega)⟩⟩
    · have hgd : s ≠ 5 → w_dz d g = w_nz tl b ∧ K (w_nz tl b) := fun c => by
        obtain ⟨u, u1, u2, u3, u4⟩ := g2 c
        have := u2.1
        rw [u1, w_dz_pos (by omega), Int.toNat_natCast, ← u3]
        exact ⟨rfl, u4⟩
      have hw : w_tm d s a' g 0 [] = w_mkt s (if 1 < s then d a'.toNat else []) (if s = 3 then [b.toNat] else if s = 4 ∨ s = 6 then w_nz tl b else []) tp := by
        unfold w_tm w_mkt
        have n3 : ¬ s = 3 := by clear g2; omega
        have nt : ¬ (s = 1 ∨ s = 2 ∨ s = 3 ∨ s = 7) := by clear g2; omega
        have n1 : 1 < s := by clear g2; omega
        rw [d0, if_neg n3, if_neg n3, if_neg nt, if_pos n1, dz n1]
        by_cases c : s = 5
        · rw [g1 c, d0, if_neg (by omega : ¬ (s = 4 ∨ s = 6))]
          rfl
        · rw [(hgd c).1, if_pos (by clear g2 hgd; omega : s = 4 ∨ s = 6)]
          rfl
      have hK : K (w_mkt s (if 1 < s then d a'.toNat else []) (if s = 3 then [b.toNat] else if s = 4 ∨ s = 6 then w_nz tl b else []) tp) := by
        refine (hKc _).1 ⟨s.toNat, _, _, _, _, rfl, ?_⟩
        have n3 : ¬ s = 3 := by clear g2 hgd hw; omega
        have n1 : 1 < s := by clear g2 hgd hw; omega
        rw [if_pos n1, if_neg n3]
        by_cases c : s = 5
        · exact Or.inr (Or.inr (Or.inl ⟨by clear g2 hgd hw; omega, hA'.2⟩))
        · rw [if_pos (by clear g2 hgd hw; omega : s = 4 ∨ s = 6)]
          rcases hs with c4 | c5 | c6
          · exact Or.inr (Or.inr (Or.inr (Or.inl ⟨by omega, hA'.2, (hgd c).2⟩)))
          · exact absurd c5 c
          · exact Or.inr (Or.inr (Or.inr (Or.inr ⟨by omega, hA'.2, (hgd c).2, Or.inl rfl⟩)))
      have hb : c_n X ≤ c_n H + 1 ∧ sw_iv X 3 4 ≤ sw_iv H 3 4 + tp.length := by
        rcases hg with ⟨e1, _⟩ | ⟨e1, e2, _⟩
        · rw [e1]; omega
        · simp at e2; omega
      exact k _ X e nn t (fun c => by omega) (fun _ => ⟨he.trans hw, rfl, by rw [he.trans hw]; exact hK⟩) (c_I_ex h aX FX qX ex) ex ht rfl hb.1 hb.2 (c_one_of ex ht rfl he.symm hg)
  have second : s = 4 ∨ s = 6 → ∀ R : Int → sw_H → Prop, (∀ u : Nat, c_R H u → d u = w_nz tl b → K (d u) → R u H) → wm_119 3 b H R := fun hs R kR => by
    obtain ⟨w, hw, hk⟩ := hB hs
    refine c_numbered a (fun hno => by rw [hno] at hw; cases hw) (fun w' u hw' hu hd => ?_)
    rw [hw] at hw'
    cases hw'
    have e : w_nz tl b = w := by unfold w_nz; rw [hw]; rfl
    exact kR u hu (by rw [e, hd]) (by rw [hd]; exact hk)
  unfold wm_242
  refine ⟨fun c => ⟨tt, ?_⟩, fun c => ⟨tt, ?_⟩, fun c => ⟨tt, ?_⟩, fun c => ⟨tt, ?_⟩, fun c => ⟨tt, ?_⟩, fun c => ⟨tt, ?_⟩, fun c => ⟨tt, ?_⟩, fun c => ⟨tt, ?_⟩⟩
  · intro q1 e1
    refine ⟨ty5, ?_⟩
    intro q4 e4
    rw [e1, e4, o2, r5]
    exact tape s a' 0 rfl (by omega) (fun _ => by omega) (fun _ => rfl) (fun _ => by omega) (fun _ => rfl)
  · intro q13 e13
    rw [e13, o2]
    refine c_name a F q (c_A_room lm q a (by omega) (c_bd_le bd (by omega) (by omega) (by omega))) (fun X aX FX qX ex nX uX _ _ => ?_)
    have hT : (((c_n H + 1).toNat : Nat) : Int) = c_n H + 1 := by omega
    rw [← hT]
    exact k (w_nm nn) X _ (nn + 1) (c_n H + 1).toNat (fun _ => ⟨rfl, rfl⟩) (fun h => absurd c h) (c_I_ex h aX FX qX ex) ex ⟨by omega, by omega⟩ w_up_eq (by omega) (by omega) (Or.inr ⟨nX, by rw [uX, w_sz_nm]; omega, c_nm_no a, w_up_eq⟩)
  · intro q21 e21
    refine ⟨ty5, ?_⟩
    intro q24 e24
    rw [e21, e24, o2, r5]
    exact tape 1 0 0 c.symm (by omega) (fun _ => rfl) (fun h => absurd c h) (fun _ => by omega) (fun _ => rfl)
  · intro q32 e32
    refine ⟨ty5, ?_⟩
    intro q35 e35
    rw [e32, e35, o2, r5]
    exact tape s a' 0 rfl (by omega) (fun _ => by omega) (fun _ => rfl) (fun _ => by omega) (fun _ => rfl)
  · intro q43 e43
    refine ⟨ty5, ?_⟩
    intro q46 e46
    rw [e43, e46, o2, r5]
    exact tape 3 a' b c.symm (by omega) (fun _ => by omega) (fun _ => rfl) (fun _ => rfl) (fun h => absurd c h)
  · intro q54 e54
    refine ⟨tt, ?_⟩
    intro q57 e57
    rw [e57, e54, o2]
    refine second (by omega) _ (fun u hu hd hk _ _ => ⟨tt, ?_⟩)
    intro q65 e65
    rw [e65, o2]
    refine ⟨by rw [r30]; exact row0.1, ?_⟩
    intro q68 e68
    rw [e68, r30]
    exact noth u (by omega) (fun _ => by omega) (fun _ => ⟨u, rfl, hu, hd, hk⟩)
  · intro q76 e76
    refine ⟨tt, ?_⟩
    intro q79 e79
    rw [e79, e76, o2]
    refine ⟨by rw [r30]; exact row0.1, ?_⟩
    intro q82 e82
    rw [e82, r30]
    have := noth 0 (by omega) (fun _ => rfl) (fun h => absurd c h)
    rw [c] at this
    exact this
  · intro q90 e90
    refine ⟨tt, ?_⟩
    intro q93 e93
    rw [e93, e90, o2]
    refine second (by omega) _ (fun u hu hd hk _ _ => ⟨tt, ?_⟩)
    intro q101 e101
    rw [e101, o2]
    refine ⟨by rw [r30]; exact row0.1, ?_⟩
    intro q104 e104
    rw [e104, r30]
    exact noth u (by omega) (fun _ => by omega) (fun _ => ⟨u, rfl, hu, hd, hk⟩)
theorem cc_make {s a b : Int} (lm : c_lm cn cs N U M) (h : c_I H d nn K tl tp rd ms cn cs) (bd : c_bd H tl N U M 2 tp.length 0) (q1 : w_mk1 tl K s a b → c_I (sw_nw H 112 0 6) d nn K tl tp rd ms (cn + 1) (cs + 6) → c_ch [] H (sw_nw H 112 0 6) → E (sw_n H + 2) (sw_nw H 112 0 6)) (q2 : ¬ w_mk1 tl K s a b → w_mk2 tl tp s a → c_I (sw_nw H 128 0 6) d nn K tl tp rd ms (cn + 1) (cs + 6) → c_ch [] H (sw_nw H 128 0 6) → E (sw_n H + 2) (sw_nw H 128 0 6)) (k : ∀ w G e nn' K', ¬ w_mk1 tl K s a b → ¬ w_mk2 tl tp s a → (s = 0 → w = w_nm nn ∧ nn' = nn + 1 ∧ K' = w_add K w) → (s ≠ 0 → w = w_mkt s (if 1 < s then w_nz tl a else []) (if s = 3 then [b.toNat] else if s = 4 ∨ s = 6 then w_nz tl b else []) tp ∧ nn' = nn ∧ K' = K) → c_I G e nn' K' (w_tl tl w) (if s = 1 ∨ s = 2 ∨ s = 3 ∨ s = 7 then [] else tp) rd ms cn cs → (∀ u : Nat, (u : Int) ≤ c_n H → e u = d u) → c_ch [1417] H G → c_one H d w G e → P (((w_tl tl w).idxOf w : Nat) + 1) G) : wm_114 2 s a b H P E := by
  have h' := h
  obtain ⟨A, F, q, fl, ad, O, hP, hY, hM⟩ := h'
  have hKc := c_K_clo A.2.2.2.2.2.1
  have sm := c_A_sm lm q A (c_bd_le bd (by omega) (by omega) (by omega))
  have tt : sw_ty H (sw_rv H 2 0) = 96 := by rw [O.2.1]; exact A.1.1.1
  have o2 := O.2.1
  have r5 := O.2.2.2.2.2.1
  have ln := c_sg_len hP.1
  have ty5 : sw_ty H (sw_rv H 2 5) = 80 := by
    obtain ⟨l, p1, _⟩ := hP.1
    rw [r5]; exact p1.1
  have s1 := c_A_sh A
  unfold wm_114
  refine c_isMakeable h (fun hm _ _ => ⟨fun e => absurd rfl e, fun _ => ⟨by omega, by omega, ?_⟩⟩) (fun hm _ _ => ⟨fun _ => ⟨tt, ?_⟩, fun e => absurd e (by decide)⟩)
  · intro H79 e79
    rw [e79]
    have := c_I_throw h 112
    exact q1 hm this.1 this.2
  intro q56 e56
  rw [e56, o2]
  have hs0 : 0 ≤ s ∧ s ≤ 7 := by
    unfold w_mk1 at hm
    refine ⟨?_, ?_⟩
    · exact Int.not_lt.mp (fun c => hm (Or.inl c))
    · exact Int.not_lt.mp (fun c => hm (Or.inr (Or.inl c)))
  have hA : 1 < s → w_has tl K a := fun c => Classical.byContradiction (fun g => hm (Or.inr (Or.inr (Or.inl ⟨c, g⟩))))
  have hB : s = 4 ∨ s = 6 → w_has tl K b := fun c => Classical.byContradiction (fun g => hm (Or.inr (Or.inr (Or.inr (Or.inl ⟨c, g⟩)))))
  have h3 : s = 3 → 0 ≤ b ∧ b ≤ 9 := fun c => by
    refine ⟨?_, ?_⟩
    · exact Int.not_lt.mp (fun g => hm (Or.inr (Or.inr (Or.inr (Or.inr ⟨c, Or.inl g⟩)))))
    · exact Int.not_lt.mp (fun g => hm (Or.inr (Or.inr (Or.inr (Or.inr ⟨c, Or.inr g⟩)))))
  -- from the first part on
  have go : ∀ f : Nat, (f : Int) ≤ c_n H → (1 < s → 1 ≤ f ∧ d f = w_nz tl a ∧ K (d f)) → (s = 6 → c_d H f 0 = 5) → (s = 6 → ∀ w, w_no tl a = some w → w.head? = some 5) → wb_114_30 P E 2 s b f H := by
    intro f hf hf1 hf6 hf7
    have last : ∀ z : Int, (z = 1 ∧ (s = 1 ∨ s = 2 ∨ s = 3 ∨ s = 7) ∨ z = 0 ∧ ¬ (s = 1 ∨ s = 2 ∨ s = 3 ∨ s = 7)) → ¬ w_mk2 tl tp s a → wb_114_58 P E 2 s b f z H := by
      intro z hz nm2
      unfold wb_114_58
      refine cc_makeTerm lm h (c_bd_le bd (by omega) (by omega) (by omega)) hs0.1 hs0.2 (by omega) hf (fun c => by
        have := hf1 c
        rw [Int.toNat_natCast]
        exact ⟨by omega, this.2.2⟩) hB h3 (fun c => by rw [Int.toNat_natCast]; exact hf6 c) (fun w X e nn' t w0 w1 IX ex ht he nX uX one _ _ => ?_)
      have fin : ∀ Y, c_I Y e nn' K tl (if s = 1 ∨ s = 2 ∨ s = 3 ∨ s = 7 then [] else tp) rd ms cn cs → c_ch [1417] X Y → c_n Y = c_n X → sw_iv Y 3 4 = sw_iv X 3 4 → wb_114_69 P E 2 t Y := by
        intro Y IY cY nY uY
        have tY : c_R Y t := ⟨ht.1, by rw [nY]; exact ht.2⟩
        refine c_make_t lm IY (c_bd_le (c_bd_ex (n1 := 1) (u1 := tp.length) bd (by omega) (by omega)) (by omega) (by omega) (by omega)) tY he (fun G IG cG nG uG => ?_)
        have ch : c_ch [1417] H G := c_ch_sub (c_ch_trans (c_ft_ch ex.1) (c_ch_trans cY cG)) (by simp)
        by_cases cs0 : s = 0
        · obtain ⟨g1, g2⟩ := w0 cs0
          exact k w G e nn' (w_add K w) hm nm2 (fun _ => ⟨g1, g2, rfl⟩) (fun c => absurd cs0 c) IG ex.2.2 ch (c_one_nu (c_one_nu one ⟨nY, uY⟩) ⟨nG, uG⟩)
        · obtain ⟨g1, g2, g3⟩ := w1 cs0
          have eK : w_add K w = K := w_add_in hKc g3
          rw [eK] at IG
          refine k w G e nn' K hm nm2 (fun c => absurd c cs0) (fun _ => ⟨?_, g2, rfl⟩) IG ex.2.2 ch (c_one_nu (c_one_nu one ⟨nY, uY⟩) ⟨nG, uG⟩)
          rw [g1, Int.toNat_natCast]
          by_cases c1 : 1 < s
          · rw [if_pos c1, if_pos c1, (hf1 c1).2.1]
          · rw [if_neg c1, if_neg c1]
      refine ⟨fun c => ?_, fun c => ⟨?_, ?_⟩⟩
      · have ns : ¬ (s = 1 ∨ s = 2 ∨ s = 3 ∨ s = 7) := by
          rcases hz with g | g
          · omega
          · exact g.2
        refine fin X ?_ (c_ch_sub (c_ft_ch (c_ft_refl X)) (by simp)) rfl rfl
        rw [if_neg ns]
        exact IX
      · have OX := IX.2.2.2.2.2.1
        obtain ⟨l, p1, _⟩ := IX.2.2.2.2.2.2.1.1
        rw [OX.2.2.2.2.2.1]; exact p1.1
      · intro q25 e25
        have OX := IX.2.2.2.2.2.1
        have PX := IX.2.2.2.2.2.2.1
        obtain ⟨l, p1, _⟩ := PX.1
        rw [e25, OX.2.2.2.2.2.1]
        refine c_clear p1 (fun D rD fD _ => ?_)
        have ys : s = 1 ∨ s = 2 ∨ s = 3 ∨ s = 7 := by
          rcases hz with g | g
          · exact g.2
          · exact absurd g.1 c
        obtain ⟨y1, y2, y3, y4, y5, y6, y7⟩ := c_I_fr IX fD (by simp)
        have ad2 := IX.2.2.2.2.1
        have fl2 := IX.2.2.2.1
        refine fin D ?_ y6 y7 (by rw [fD.2.2.2.2.2 3 (by simp)])
        rw [if_pos ys]
        exact ⟨y1, y2, y3, y4, y5, c_O_ch OX y6 ad2 fl2 (by simp), ⟨⟨[], rD, by simp, rfl⟩, by rw [fD.2.2.2.1]; exact PX.2⟩, c_Y_ch IX.2.2.2.2.2.2.2.1 y6 ad2 (by simp), c_M_ch IX.2.2.2.2.2.2.2.2 y6 ad2 fl2 (by simp) (by simp) (by simp) (by omega) (fun _ _ => rfl)⟩
    have mid : ∀ z : Int, (z = 1 ∧ (s = 1 ∨ s = 2 ∨ s = 3 ∨ s = 7) ∨ z = 0 ∧ ¬ (s = 1 ∨ s = 2 ∨ s = 3 ∨ s = 7)) → wb_114_45 P E 2 s b f z H := by
      intro z hz
      have no6 : (s = 1 ∨ s = 2 ∨ s = 3 ∨ s = 7 → tp.length ≤ 300) → ¬ w_mk2 tl tp s a := fun g hm2 => by
        unfold w_mk2 at hm2
        rcases hm2 with ⟨c6, g6⟩ | ⟨g1, g2⟩
        · obtain ⟨w, hw, _⟩ := hA (by omega)
          exact g6 w hw (hf7 c6 w hw)
        · have := g g1; omega
      unfold wb_114_45
      refine ⟨fun c => last z hz (no6 (fun g => ?_)), fun c => ⟨ty5, ?_⟩⟩
      · rcases hz with g' | g'
        · omega
        · exact absurd g g'.2
      · intro q37 e37 v40 e40 _
        rw [e37, r5, ln.1] at e40
        subst e40
        refine ⟨fun c2 => last z hz (no6 (fun _ => by omega)), fun c2 => ⟨by omega, by omega, ?_⟩⟩
        intro H43 e43
        rw [e43]
        have := c_I_throw h 128
        refine q2 hm (Or.inr ⟨?_, by omega⟩) this.1 this.2
        rcases hz with g' | g'
        · exact g'.2
        · exact absurd g'.1 c
    unfold wb_114_30
    exact ⟨fun c => mid 1 (Or.inl ⟨rfl, Or.inl c⟩), fun c1 => ⟨fun c => mid 1 (Or.inl ⟨rfl, Or.inr (Or.inl c)⟩), fun c2 => ⟨fun c => mid 1 (Or.inl ⟨rfl, Or.inr (Or.inr (Or.inl c))⟩), fun c3 => ⟨fun c => mid 0 (Or.inr ⟨rfl, by omega⟩), fun c => mid 1 (Or.inl ⟨rfl, Or.inr (Or.inr (Or.inr c))⟩)⟩⟩⟩⟩
  refine c_numbered A (fun hno _ _ => ⟨fun c6 => ?_, fun c6 => ?_⟩) (fun w f hw hf hd _ _ => ⟨fun c6 => ?_, fun c6 => ⟨tt, ?_⟩⟩)
  · refine go 0 (by have := A.1.2.2.1; omega) (fun c => ?_) (fun c => absurd c c6) (fun c => absurd c c6)
    obtain ⟨w, hw, _⟩ := hA c
    rw [hno] at hw
    cases hw
  · obtain ⟨w, hw, _⟩ := hA (by omega)
    rw [hno] at hw
    cases hw
  · refine go f hf.2 (fun c => ?_) (fun c => absurd c c6) (fun c => absurd c c6)
    obtain ⟨w', hw', hk⟩ := hA c
    rw [hw] at hw'
    cases hw'
    have e : w_nz tl a = w := by unfold w_nz; rw [hw]; rfl
    exact ⟨hf.1, by rw [e, hd], by rw [hd]; exact hk⟩
  · intro q67 e67
    rw [e67, o2]
    have s5 := c_sort5 A.1 hf
    refine c_sortOf s1 hf.2 (fun _ _ => ⟨fun c5 => ?_, fun c5 => ⟨by omega, by omega, ?_⟩⟩)
    · refine go f hf.2 (fun c => ?_) (fun _ => c5) (fun _ w' hw' => ?_)
      · obtain ⟨w', hw', hk⟩ := hA c
        rw [hw] at hw'
        cases hw'
        have e : w_nz tl a = w := by unfold w_nz; rw [hw]; rfl
        exact ⟨hf.1, by rw [e, hd], by rw [hd]; exact hk⟩
      · rw [hw] at hw'
        cases hw'
        rw [← hd]
        exact s5.mp c5
    · intro H75 e75
      rw [e75]
      have := c_I_throw h 128
      refine q2 hm (Or.inl ⟨c6, fun w' hw' hh => ?_⟩) this.1 this.2
      rw [hw] at hw'
      cases hw'
      rw [← hd] at hh
      exact c5 (s5.mpr hh)
end
end
