/-! ===== the class: feed, end, place, copy ===== -/
noncomputable section
section
variable {H G X Y Z : sw_H} {d e : Nat → Wt} {nn : Nat} {K : Wt → Prop} {tl tp : List Wt} {ms : List (List Wt)} {rd : Nat → Int} {t : Nat} {x y m cn cs cn' cs' : Int} {Q : sw_H → Prop} {P : Int → sw_H → Prop} {E : Nat → sw_H → Prop} {A B : List Nat}
theorem c_readyN {p : Nat} (r6 : sw_rv H 2 6 = 1419) (ty : sw_ty H 1419 = 1) (ln : sw_ln H 1419 = 20) (hp : p + 4 ≤ 20) (k : ∀ G, c_fr [1419] H G → (∀ j, sw_iv G 1419 j = if p ≤ j ∧ j < p + 4 then (x / (2 ^ (24 - 8 * (j - p)) : Nat)) % 256 else sw_iv H 1419 j) → Q G) : wm_57 2 p x H Q := by
  unfold wm_57
  refine ⟨by rw [r6]; exact ty, ?_⟩
  intro q1 e1
  rw [r6] at e1
  subst e1
  refine ⟨by omega, by omega, ?_⟩
  intro H4 e4
  rw [Int.toNat_natCast] at e4
  have f4 : c_fr [1419] H H4 := by rw [e4]; exact c_fr_si _ _ _ _
  refine ⟨by rw [f4.2.2.2.2.1, f4.2.2.1, r6]; exact ty, ?_⟩
  intro q7 e7
  rw [f4.2.2.2.2.1, r6] at e7
  subst e7
  rw [sw_w_s (z := (p : Int) + 1) (by omega) (by omega), sw_w_s (z := (p : Int) + 2) (by omega) (by omega), sw_w_s (z := (p : Int) + 3) (by omega) (by omega)]
  refine ⟨by omega, by rw [f4.2.2.2.1]; omega, ?_⟩
  intro H10 e10
  rw [show ((p : Int) + 1).toNat = p + 1 by omega] at e10
  have f10 : c_fr [1419] H H10 := c_fr_t f4 (by rw [e10]; exact c_fr_si _ _ _ _)
  refine ⟨by rw [f10.2.2.2.2.1, f10.2.2.1, r6]; exact ty, ?_⟩
  intro q13 e13
  rw [f10.2.2.2.2.1, r6] at e13
  subst e13
  refine ⟨by omega, by rw [f10.2.2.2.1]; omega, ?_⟩
  intro H16 e16
  rw [show ((p : Int) + 2).toNat = p + 2 by omega] at e16
  have f16 : c_fr [1419] H H16 := c_fr_t f10 (by rw [e16]; exact c_fr_si _ _ _ _)
  refine ⟨by rw [f16.2.2.2.2.1, f16.2.2.1, r6]; exact ty, ?_⟩
  intro q19 e19
  rw [f16.2.2.2.2.1, r6] at e19
  subst e19
  refine ⟨by omega, by rw [f16.2.2.2.1]; omega, ?_⟩
  intro H22 e22
  rw [show ((p : Int) + 3).toNat = p + 3 by omega] at e22
  have f22 : c_fr [1419] H H22 := c_fr_t f16 (by rw [e22]; exact c_fr_si _ _ _ _)
  refine k H22 f22 (fun j => ?_)
  have u24 : sw_ush x 24 = x / 16777216 % 256 := by
    rw [sw_ush_k (k := 24) (by decide) (by decide) (by decide)]
    show x % 4294967296 / 16777216 = _
    omega
  have u16 : sw_and (sw_ush x 16) 255 = x / 65536 % 256 := by
    rw [sw_and_255, sw_ush_k (k := 16) (by decide) (by decide) (by decide)]
    show x % 4294967296 / 65536 % 256 = _
    omega
  rw [u24] at e4
  rw [u16] at e10
  rw [sw_hi] at e16
  rw [sw_and_255] at e22
  rw [e22, sw_iv_si, e16, sw_iv_si, e10, sw_iv_si, e4, sw_iv_si]
  simp only [true_and]
  by_cases c3 : j = p + 3
  · rw [if_pos c3, if_pos (by omega), show j - p = 3 by omega]
    show x % 256 = x / 1 % 256
    omega
  · rw [if_neg c3]
    by_cases c2 : j = p + 2
    · rw [if_pos c2, if_pos (by omega), show j - p = 2 by omega]
      rfl
    · rw [if_neg c2]
      by_cases c1 : j = p + 1
      · rw [if_pos c1, if_pos (by omega), show j - p = 1 by omega]
        rfl
      · rw [if_neg c1]
        by_cases c0 : j = p
        · rw [if_pos c0, if_pos (by omega), show j - p = 0 by omega]
          rfl
        · rw [if_neg c0, if_neg (by omega)]
theorem c_fr_ch (F : c_full H) (h : c_fr A H G) (hA : 3 ∉ A) : c_ch A H G := c_al_ch (c_fr_al h) (F 3 (by decide) (by decide)) hA
/-- the same but for the ints of some cells -/
theorem c_I_fr (h : c_I H d nn K tl tp rd ms cn cs) (k : c_fr A H G) (hA : ∀ a ∈ A, 1 ≤ a ∧ a ≤ 1491 ∧ a ≠ 3 ∧ (a < 4 ∨ 10 < a)) : c_A G d nn K tl ∧ c_F G ∧ c_q G cn cs ∧ c_full G ∧ c_ads G ∧ c_ch A H G ∧ c_n G = c_n H := c_I_al h (c_fr_al k) (c_fr_F k h.2.1) hA (by rw [k.1]; omega) (by rw [k.2.1]; omega)
theorem c_feed {a b c d' e' : Int} (h : c_I H d nn K tl tp rd ms cn cs) (k : ∀ G, c_I G d nn K tl tp (w_rd a b c d' e') ms cn cs → c_ch [1419] H G → Q G) : wm_3 2 a b c d' e' H Q := by
  have h' := h
  obtain ⟨A, F, q, fl, ad, O, hP, hY, hM⟩ := h'
  have r6 := O.2.2.2.2.2.2.1
  unfold wm_3
  refine c_readyN (p := 0) r6 hY.1 hY.2.1 (by decide) (fun G1 f1 g1 _ => ?_)
  refine c_readyN (p := 4) (by rw [f1.2.2.2.2.1]; exact r6) (by rw [f1.2.2.1]; exact hY.1) (by rw [f1.2.2.2.1]; exact hY.2.1) (by decide) (fun G2 f2 g2 _ => ?_)
  have f12 := c_fr_t f1 f2
  refine c_readyN (p := 8) (by rw [f12.2.2.2.2.1]; exact r6) (by rw [f12.2.2.1]; exact hY.1) (by rw [f12.2.2.2.1]; exact hY.2.1) (by decide) (fun G3 f3 g3 _ => ?_)
  have f13 := c_fr_t f12 f3
  refine c_readyN (p := 12) (by rw [f13.2.2.2.2.1]; exact r6) (by rw [f13.2.2.1]; exact hY.1) (by rw [f13.2.2.2.1]; exact hY.2.1) (by decide) (fun G4 f4 g4 _ => ?_)
  have f14 := c_fr_t f13 f4
  refine c_readyN (p := 16) (by rw [f14.2.2.2.2.1]; exact r6) (by rw [f14.2.2.1]; exact hY.1) (by rw [f14.2.2.2.1]; exact hY.2.1) (by decide) (fun G5 f5 g5 _ => ?_)
  have f15 := c_fr_t f14 f5
  obtain ⟨y1, y2, y3, y4, y5, y6, y7⟩ := c_I_fr h f15 (by simp)
  refine k G5 ⟨y1, y2, y3, y4, y5, c_O_ch O y6 ad fl (by simp), c_P_ch hP y6 ad (by simp) (by simp) (by omega) (fun _ _ => rfl), ⟨by rw [f15.2.2.1]; exact hY.1, by rw [f15.2.2.2.1]; exact hY.2.1, fun j hj => ?_⟩, c_M_ch hM y6 ad fl (by simp) (by simp) (by simp) (by omega) (fun _ _ => rfl)⟩ y6
  have e : sw_iv G5 1419 j = w_rd a b c d' e' j := by
    unfold w_rd
    rw [g5, g4, g3, g2, g1]
    by_cases c16 : 16 ≤ j
    · rw [if_pos (by omega), if_neg (by omega), if_neg (by omega), if_neg (by omega), if_neg (by omega), show j % 4 = j - 16 by omega]
    · rw [if_neg (by omega)]
      by_cases c12 : 12 ≤ j
      · rw [if_pos (by omega), if_neg (by omega), if_neg (by omega), if_neg (by omega), if_pos (by omega), show j % 4 = j - 12 by omega]
      · rw [if_neg (by omega)]
        by_cases c8 : 8 ≤ j
        · rw [if_pos (by omega), if_neg (by omega), if_neg (by omega), if_pos (by omega), show j % 4 = j - 8 by omega]
        · rw [if_neg (by omega)]
          by_cases c4 : 4 ≤ j
          · rw [if_pos (by omega), if_neg (by omega), if_pos (by omega), show j % 4 = j - 4 by omega]
          · rw [if_neg (by omega), if_pos (by omega), if_pos (by omega), show j % 4 = j - 0 by omega]
  refine ⟨e, ?_, ?_⟩
  · unfold w_rd
    omega
  · unfold w_rd
    omega
theorem c_fill_l {a : Nat} {v : Int} : ∀ (n : Nat) {x : Int} {H : sw_H}, sw_ln H a ≤ 134217728 → 0 ≤ x → x ≤ sw_ln H a → (sw_ln H a - x).toNat < n → (∀ G, c_fr [a] H G → (∀ j : Nat, sw_iv G a j = if x ≤ j ∧ j < sw_ln H a then v else sw_iv H a j) → Q G) → wl_59_5 Q n a v x (sw_ln H a) H
  | 0, _, _, _, _, _, h, _ => by omega
  | n + 1, x, H, hl, h0, h1, hn, k => by
    unfold wl_59_5
    refine ⟨fun c => k H (c_fr_refl _ _) (fun j => by rw [if_neg (by omega)]), fun c => ⟨h0, by omega, ?_⟩⟩
    intro G eG y ey
    rw [sw_w_s (by omega) (by omega)] at ey
    subst ey
    have fr : c_fr [a] H G := by rw [eG]; exact c_fr_si _ _ _ _
    have el := fr.2.2.2.1 a
    rw [← el]
    refine c_fill_l n (by omega) (by omega) (by omega) (by omega) (fun Z f g => k Z (c_fr_t fr f) (fun j => ?_))
    rw [g, el, eG, sw_iv_si]
    simp only [true_and]
    by_cases cj : (j : Int) = x
    · rw [if_neg (by omega), if_pos (by omega), if_pos (by omega)]
    · by_cases c2 : x ≤ (j : Int) ∧ j < sw_ln H a
      · rw [if_pos (by omega), if_pos c2]
      · rw [if_neg (by omega), if_neg (by omega), if_neg c2]
theorem c_end_l (h : c_I H d nn K tl tp rd ms cn cs) {l : List Int} {n1 : Int} (hr : c_row H 1417 1418 l) (h20 : n1 ≤ 20) (hb : l.length + n1 ≤ 1200) : ∀ (n : Nat) {x : Int} {G : sw_H}, 0 ≤ x → x ≤ n1 → (n1 - x).toNat < n → c_fr [1417, 1418] H G → c_row G 1417 1418 (l ++ (List.range x.toNat).map rd) → (∀ X, c_fr [1417, 1418, 1419] H X → c_row X 1417 1418 (l ++ (List.range n1.toNat).map rd) → (∀ j, j < 20 → sw_iv X 1419 j = 0) → P (l.length + n1) X) → wl_5_16 P n 2 n1 x G
  | 0, _, _, _, _, h, _, _, _ => by omega
  | n + 1, x, G, h0, h1, hn, fr, row, k => by
    have O := h.2.2.2.2.2.1
    have hP := h.2.2.2.2.2.2.1
    have hY := h.2.2.2.2.2.2.2.1
    have rv := fr.2.2.2.2.1
    have r5 : sw_rv G 2 5 = 1417 := by rw [rv]; exact O.2.2.2.2.2.1
    have r6 : sw_rv G 2 6 = 1419 := by rw [rv]; exact O.2.2.2.2.2.2.1
    have y1 : sw_ty G 1419 = 1 := by rw [fr.2.2.1]; exact hY.1
    have y2 : sw_ln G 1419 = 20 := by rw [fr.2.2.2.1]; exact hY.2.1
    unfold wl_5_16
    refine ⟨fun c => ⟨by rw [r6]; exact y1, ?_⟩, fun c => ⟨by rw [r5]; exact row.1, ?_⟩⟩
    · have ex : x = n1 := by omega
      rw [ex] at row
      intro q1 e1
      rw [r6] at e1
      subst e1
      unfold wm_59
      intro v12 e12 _
      subst e12
      refine ⟨21, c_fill_l 21 (by omega) (by omega) (by omega) (by omega) (fun X f g _ => ?_)⟩
      have rX := c_row_fr row f (by simp) (by simp)
      have frX : c_fr [1417, 1418, 1419] H X := c_fr_sub (c_fr_trans fr f) (by simp)
      refine ⟨by rw [f.2.2.2.2.1, r5]; exact rX.1, ?_⟩
      intro q9 e9 v12 e12 _
      rw [f.2.2.2.2.1, r5] at e9
      rw [e9, rX.2.2.2.1] at e12
      have : v12 = (l.length : Int) + n1 := by
        rw [e12]
        simp
        omega
      rw [this]
      exact k X frX rX (fun j hj => by rw [g, if_pos (by omega)])
    · intro q15 e15
      refine ⟨by rw [r6]; exact y1, ?_⟩
      intro q18 e18
      rw [r6] at e18
      rw [r5] at e15
      subst e15 e18
      refine ⟨h0, by omega, ?_⟩
      intro v21 e21 _
      have hrd := hY.2.2 x.toNat (by omega)
      have e21 : v21 = rd x.toNat := by rw [e21, fr.2.2.2.2.2 1419 (by simp)]; exact hrd.1
      have lc : sw_ln G 1418 = 1200 := by rw [fr.2.2.2.1]; exact hP.2
      refine c_put row (by rw [lc]; simp; omega) (fun X rX fX _ => ?_)
      intro y ey
      rw [sw_w_s (by omega) (by omega)] at ey
      subst ey
      refine c_end_l h hr h20 hb n (by omega) (by omega) (by omega) (c_fr_t fr fX) ?_ k
      rw [show (x + 1).toNat = x.toNat + 1 by omega, List.range_succ, List.map_append, ← List.append_assoc]
      rw [e21] at rX
      exact rX
theorem w_by_sg {z : Int} (h1 : z < 256) : w_sg d z = w_by z := if_pos h1
theorem c_end (h : c_I H d nn K tl tp rd ms cn cs) (q0 : (x < 0 ∨ 20 < x ∨ 1200 < (tp.length : Int) + x) → P (-1) H) (q1 : ∀ G, 0 ≤ x → x ≤ 20 → (tp.length : Int) + x ≤ 1200 → c_I G d nn K tl (w_end tp rd x.toNat) (fun _ => 0) ms cn cs → c_ch [1417, 1418, 1419] H G → P ((tp.length : Int) + x) G) : wm_5 2 x H P := by
  have h' := h
  obtain ⟨A, F, q, fl, ad, O, hP, hY, hM⟩ := h'
  obtain ⟨l, p1, p2, p3⟩ := hP.1
  have el : l.length = tp.length := by rw [← p3, List.length_map]
  have r5 := O.2.2.2.2.2.1
  have p5 := p1.2.2.2.2.1
  have pc := hP.2
  unfold wm_5
  refine ⟨fun c => q0 (Or.inl c), fun c => ⟨fun c1 => q0 (Or.inr (Or.inl c1)), fun c1 => ⟨by rw [r5]; exact p1.1, ?_⟩⟩⟩
  intro q34 e34 v37 e37 _
  rw [e34, r5, p1.2.2.2.1] at e37
  subst e37
  rw [sw_w_s (by omega) (by omega)]
  refine ⟨fun c2 => ⟨x.toNat + 1, c_end_l h p1 c1 c2 _ (by omega) c (by omega) (c_fr_refl _ _) (by simpa using p1) (fun X f row z => ?_)⟩, fun c2 => q0 (Or.inr (Or.inr (by omega)))⟩
  obtain ⟨y1, y2, y3, y4, y5, y6, y7⟩ := c_I_fr h f (by simp)
  rw [el]
  refine q1 X c c1 (by omega) ⟨y1, y2, y3, y4, y5, c_O_ch O y6 ad fl (by simp), ⟨⟨_, row, fun s hs => ?_, ?_⟩, by rw [f.2.2.2.1]; exact pc⟩, ⟨by rw [f.2.2.1]; exact hY.1, by rw [f.2.2.2.1]; exact hY.2.1, fun j hj => ⟨z j hj, (by show (0 : Int) ≤ 0; decide), (by show (0 : Int) < 256; decide)⟩⟩, c_M_ch hM y6 ad fl (by simp) (by simp) (by simp) (by omega) (fun _ _ => rfl)⟩ y6
  · rw [y7]
    rw [List.mem_append] at hs
    rcases hs with hs | hs
    · exact p2 s hs
    · rw [List.mem_map] at hs
      obtain ⟨j, j1, j2⟩ := hs
      rw [List.mem_range] at j1
      have := hY.2.2 j (by omega)
      rw [← j2]
      exact ⟨this.2.1, Or.inl this.2.2⟩
  · rw [List.map_append, p3]
    unfold w_end
    rw [List.map_map]
    congr 1
    apply List.map_congr_left
    intro j hj
    rw [List.mem_range] at hj
    exact w_by_sg (hY.2.2 j (by omega)).2.2
/-- a sign that stands for a row -/
theorem c_vs_t (ht : c_R H t) : m_vs (c_n H) (256 + t) ∧ w_sg d (256 + t) = d t := by
  have h1 := ht.1
  have h2 := ht.2
  refine ⟨⟨by omega, Or.inr ⟨by omega, by omega⟩⟩, ?_⟩
  unfold w_sg
  rw [if_neg (by omega)]
  congr 1
  omega
theorem c_place (h : c_I H d nn K tl tp rd ms cn cs) (m1 : sw_n H < sxlim.1) (m2 : sw_s H + 6 ≤ sxlim.2) (q0 : w_no tl x = none → c_I (sw_nw H 112 0 6) d nn K tl tp rd ms (cn + 1) (cs + 6) → c_ch [] H (sw_nw H 112 0 6) → E (sw_n H + 2) (sw_nw H 112 0 6)) (q1 : ∀ w, w_no tl x = some w → tp.length = 1200 → P (-1) H) (q2 : ∀ w G, w_no tl x = some w → tp.length < 1200 → c_I G d nn K tl (tp ++ [w]) rd ms cn cs → c_ch [1417, 1418] H G → P (tp.length + 1) G) : wm_60 2 x H P E := by
  have h' := h
  obtain ⟨A, F, q, fl, ad, O, hP, hY, hM⟩ := h'
  obtain ⟨l, p1, p2, p3⟩ := hP.1
  have el : l.length = tp.length := by rw [← p3, List.length_map]
  have r5 := O.2.2.2.2.2.1
  have p5 := p1.2.2.2.2.1
  have pc := hP.2
  have S := A.1.1
  unfold wm_60
  refine ⟨by rw [O.2.1]; exact S.1, ?_⟩
  intro q1' e1
  rw [e1, O.2.1]
  refine c_numbered A (fun hno _ _ => ⟨fun h => absurd rfl h, fun _ => ⟨m1, m2, ?_⟩⟩) (fun w t hw ht hd _ _ => ⟨fun _ => ⟨by rw [r5]; exact p1.1, ?_⟩, fun h0 => by have := ht.1; omega⟩)
  · intro H33 e33
    rw [e33]
    have := c_I_throw h 112
    exact q0 hno this.1 this.2
  · intro q12 e12 v15 e15 _
    rw [e12, r5, p1.2.2.2.1] at e15
    subst e15
    refine ⟨fun c => ⟨by rw [r5]; exact p1.1, ?_⟩, fun c => q1 w hw (by omega)⟩
    intro q18 e18
    rw [e18, r5]
    have t2 := A.1.2.2.2.1
    have dl := S.2.2.2.2.2.2.1
    have ht2 := ht.2
    rw [sw_w_s (by omega) (by omega)]
    refine c_put p1 (by omega) (fun G rG fG _ => ?_)
    obtain ⟨y1, y2, y3, y4, y5, y6, y7⟩ := c_I_fr h fG (by simp)
    refine ⟨by rw [fG.2.2.2.2.1, r5]; exact rG.1, ?_⟩
    intro q26 e26 v29 e29 _
    rw [fG.2.2.2.2.1, r5] at e26
    rw [e26, rG.2.2.2.1] at e29
    have e29 : v29 = (tp.length : Int) + 1 := by rw [e29]; simp; omega
    rw [e29]
    obtain ⟨g1, g2⟩ := c_vs_t (d := d) ht
    refine q2 w G hw (by omega) ⟨y1, y2, y3, y4, y5, c_O_ch O y6 ad fl (by simp), ⟨⟨_, rG, fun s hs => ?_, ?_⟩, by rw [fG.2.2.2.1]; exact pc⟩, c_Y_ch hY y6 ad (by simp), c_M_ch hM y6 ad fl (by simp) (by simp) (by simp) (by omega) (fun _ _ => rfl)⟩ y6
    · rw [y7]
      rw [List.mem_append, List.mem_singleton] at hs
      rcases hs with hs | hs
      · exact p2 s hs
      · rw [hs]; exact g1
    · rw [List.map_append, p3, List.map_singleton, g2, hd]
end
end
