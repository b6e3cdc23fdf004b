/-! ===== the class: add, up to its writing ===== -/
noncomputable section
section
variable {H G K : sw_H} {r ra nn : Nat} {l : List Int} {x s a b c code : Int} {d : Nat → Wt} {Q : sw_H → Prop} {P : Int → sw_H → Prop}
theorem c_growS (T : c_T H d nn) (Z : c_Z H) (F : c_F H) (hn4 : ¬ c_ow H 4) (hn5 : ¬ c_ow H 5) {G1 : sw_H} (g1 : c_gr H G1 3 x) (hx : (sw_ln H (sw_rv H 3 3) : Int) < x) (hb : x ≤ 134217728) : c_T G1 d nn ∧ c_Z G1 ∧ c_F G1 ∧ c_ft H G1 ∧ c_vw H G1 ∧ sw_ln G1 (sw_rv G1 3 3) = x.toNat ∧ sw_rv G1 3 1 = sw_rv H 3 1 ∧ sw_rv G1 3 5 = sw_rv H 3 5 ∧ sw_ln G1 (sw_rv H 3 1) = sw_ln H (sw_rv H 3 1) ∧ sw_ln G1 (sw_rv H 3 5) = sw_ln H (sw_rv H 3 5) := by
  have T' := T
  obtain ⟨S, D, t1, t2, t3, t4, t5, t6, t7, t8, t9, _⟩ := T'
  obtain ⟨s1, s2, s3, s4, s5, s6, s7, s8, s9, s10, s11, s12, s13⟩ := S
  have free : sw_ty H (sw_n H + 2) = 0 := F _ (Nat.le_refl _)
  have h3 : 3 ≠ sw_n H + 2 := fun e => by rw [e, free] at s1; cases s1
  obtain ⟨ft, F1⟩ := c_gr_ft g1 F h3 (by decide)
  obtain ⟨a1, a2, a3, a4, a5, a6, a7, a8⟩ := g1
  have al : ∀ c : Nat, sw_ty H c ≠ 0 → c ≠ sw_n H + 2 := fun c hc e => hc (by rw [e]; exact free)
  have rk : ∀ k, k ≠ 3 → sw_rv G1 3 k = sw_rv H 3 k := fun k k1 => a6 3 k h3 (fun z => k1 z.2)
  have ivk : ∀ c g, sw_ty H c ≠ 0 → sw_iv G1 c g = sw_iv H c g := fun c g hc => a5 c g (al c hc)
  have tyk : ∀ c, sw_ty H c ≠ 0 → sw_ty G1 c = sw_ty H c := fun c hc => (ft.1.2 c hc).1
  have lnk : ∀ c, sw_ty H c ≠ 0 → sw_ln G1 c = sw_ln H c := fun c hc => (ft.1.2 c hc).2
  have ty3 : sw_ty G1 (sw_n H + 2) = 1 := by rw [a3, if_pos rfl]
  have ln3 : sw_ln G1 (sw_n H + 2) = x.toNat := by rw [a4, if_pos rfl]
  have z3 : sw_ty H 3 ≠ 0 := by rw [s1]; decide
  have q1 : sw_ty H (sw_rv H 3 1) ≠ 0 := by rw [s2]; decide
  have q5 : sw_ty H (sw_rv H 3 5) ≠ 0 := by rw [s4]; decide
  have q6 : sw_ty H (sw_rv H 3 6) ≠ 0 := by rw [s5]; decide
  have q8 : sw_ty H (sw_rv H 3 8) ≠ 0 := by rw [s6]; decide
  have V : c_vw H G1 := by
    refine ⟨fun f => ivk 3 f z3, fun j hj => ?_, fun j hj => ?_, fun j => ?_, ?_, rk 6 (by decide), fun j => ?_⟩
    · rw [rk 1 (by decide)]; exact ivk _ j q1
    · rw [a8, a7, if_pos (by omega)]
    · rw [rk 5 (by decide)]; exact ivk _ j q5
    · rw [rk 5 (by decide)]; exact lnk _ q5
    · rw [rk 6 (by decide)]; exact ivk _ j q6
  have hrow := (c_row_ft s12 ft hn4 hn5).1
  have S2 : c_S G1 := by
    refine ⟨by rw [tyk 3 z3]; exact s1, ?_, by rw [a8]; exact ty3, ?_, ?_, ?_, ?_, by rw [a8, ln3]; omega, ?_, ?_, ?_, hrow, by rw [rk 0 (by decide)]; exact s13⟩
    · rw [rk 1 (by decide), tyk _ q1]; exact s2
    · rw [rk 5 (by decide), tyk _ q5]; exact s4
    · rw [rk 6 (by decide), tyk _ q6]; exact s5
    · rw [rk 8 (by decide), tyk _ q8]; exact s6
    · rw [rk 1 (by decide), lnk _ q1]; exact s7
    · rw [rk 5 (by decide), lnk _ q5]; exact s9
    · rw [rk 6 (by decide), lnk _ q6]; exact s10
    · rw [rk 8 (by decide), lnk _ q8]; exact s11
  have D2 : c_D G1 := by
    unfold c_D at D ⊢
    rw [a8, rk 1 (by decide), rk 5 (by decide), rk 6 (by decide), rk 8 (by decide)]
    exact ⟨al _ q1, D.2.1, D.2.2.1, D.2.2.2.1, (al _ q5).symm, (al _ q6).symm, (al _ q8).symm, D.2.2.2.2.2.2.2.1, D.2.2.2.2.2.2.2.2.1, D.2.2.2.2.2.2.2.2.2⟩
  refine ⟨c_T_vw T V S2 D2 ?_ ?_ ?_, fun j hj hz => ?_, F1, ft, V, by rw [a8]; exact ln3, rk 1 (by decide), rk 5 (by decide), lnk _ q1, lnk _ q5⟩
  · rw [rk 1 (by decide), lnk _ q1]; exact t2
  · rw [a8, ln3]; omega
  · rw [rk 1 (by decide), rk 8 (by decide), lnk _ q1, lnk _ q8]; exact t7
  · have en : c_n G1 = c_n H := V.1 2
    rw [rk 1 (by decide)] at hj ⊢
    rw [lnk _ q1] at hj
    rw [ivk _ j q1]
    rw [en] at hz
    exact Z j hj hz
theorem c_vw_refl (H : sw_H) : c_vw H H := ⟨fun _ => rfl, fun _ _ => rfl, fun _ _ => rfl, fun _ => rfl, rfl, rfl, fun _ => rfl⟩
theorem c_vw_trans (h : c_vw H G) (k : c_vw G K) : c_vw H K := by
  obtain ⟨h1, h2, h3, h4, h5, h6, h7⟩ := h
  obtain ⟨k1, k2, k3, k4, k5, k6, k7⟩ := k
  have en : c_n G = c_n H := h1 2
  refine ⟨fun f => (k1 f).trans (h1 f), fun j hj => (k2 j (by rw [en]; exact hj)).trans (h2 j hj), fun j hj => (k3 j (by rw [h1]; exact hj)).trans (h3 j hj), fun j => (k4 j).trans (h4 j), k5.trans h5, k6.trans h6, fun j => (k7 j).trans (h7 j)⟩
/-- what add takes of the room: for the rows, for the signs, for the heads -/
def c_ra (H : sw_H) : Int := if (sw_ln H (sw_rv H 3 1) : Int) < 14 * (c_n H + 2) then 2 * sw_ln H (sw_rv H 3 1) + 2 * sw_ln H (sw_rv H 3 8) else 0
def c_rb (H : sw_H) (n : Int) : Int := if (sw_ln H (sw_rv H 3 3) : Int) < sw_iv H 3 4 + n then 2 * (sw_iv H 3 4 + n) else 0
def c_rc (H : sw_H) : Int := if (sw_ln H (sw_rv H 3 5) : Int) < c_n H + 1 then 2 * sw_ln H (sw_rv H 3 5) else 0
theorem c_ra_0 (H : sw_H) : 0 ≤ c_ra H := by
  unfold c_ra
  split <;> omega
theorem c_rb_0 (H : sw_H) (n : Int) (h : 0 ≤ sw_iv H 3 4 + n) : 0 ≤ c_rb H n := by
  unfold c_rb
  split <;> omega
theorem c_rc_0 (H : sw_H) : 0 ≤ c_rc H := by
  unfold c_rc
  split <;> omega
/-- what add may take of the room, at the most -/
def c_room (H : sw_H) (n : Int) : Prop := sw_n H + 4 ≤ sxlim.1 ∧ (sw_s H : Int) + c_ra H + c_rb H n + c_rc H ≤ sxlim.2 ∧ 2 * (sw_ln H (sw_rv H 3 1) : Int) ≤ 134217728 ∧ 2 * (sw_iv H 3 4 + n) ≤ 134217728 ∧ 2 * (sw_ln H (sw_rv H 3 5) : Int) ≤ 67108864
/-- what was taken of the room, by the lengths of the arrays (n terms, u signs, m numbers): the rest took cn cells, cs places -/
def c_qr (N Z cn cs l1 l3 l5 l6 l8 n u m : Int) : Prop := 64 * N ≤ 64 * cn + l1 + l3 + l5 + l6 ∧ Z ≤ cs + 2 * (l1 + l3 + l5 + l6 + l8) ∧ 1792 ≤ l1 ∧ (l1 ≤ 1792 ∨ l1 ≤ 28 * n) ∧ 512 ≤ l3 ∧ (l3 ≤ 512 ∨ l3 ≤ 2 * u) ∧ 128 ≤ l5 ∧ (l5 ≤ 128 ∨ l5 ≤ 2 * n) ∧ 128 ≤ l6 ∧ (l6 ≤ 128 ∨ l6 ≤ 2 * m)
/-- the rows of terms are doubled, from 128 on -/
def c_p2 (l : Int) : Prop := l = 1792 ∨ l = 3584 ∨ l = 7168 ∨ l = 14336 ∨ l = 28672 ∨ l = 57344 ∨ l = 114688 ∨ l = 229376 ∨ l = 458752 ∨ l = 917504 ∨ 1835008 ≤ l
theorem c_p2_d {l : Int} (h : c_p2 l) : c_p2 (2 * l) := by unfold c_p2 at *; omega
theorem c_p2_b {l : Int} (h : c_p2 l) (h1 : l < 1835008) : l ≤ 917504 := by unfold c_p2 at h; omega
def c_qq (N Z cn cs l1 l3 l5 l6 l8 n u m : Int) : Prop := c_qr N Z cn cs l1 l3 l5 l6 l8 n u m ∧ c_p2 l1
theorem c_qq_up {N Z cn cs l1 l3 l5 l6 l8 n u m n' u' m' : Int} (q : c_qq N Z cn cs l1 l3 l5 l6 l8 n u m) (hn : n ≤ n') (hu : u ≤ u') (hm : m ≤ m') : c_qq N Z cn cs l1 l3 l5 l6 l8 n' u' m' := ⟨by have q := q.1; unfold c_qr at *; omega, q.2⟩
theorem c_qq_1 {N Z cn cs l1 l3 l5 l6 l8 n u m : Int} (q : c_qq N Z cn cs l1 l3 l5 l6 l8 n u m) (h : l1 < 14 * n) : c_qq (N + 2) (Z + 2 * l1 + 2 * l8) cn cs (2 * l1) l3 l5 l6 (2 * l8) n u m := ⟨by have q := q.1; unfold c_qr at *; omega, c_p2_d q.2⟩
theorem c_qq_3 {N Z cn cs l1 l3 l5 l6 l8 n u m : Int} (q : c_qq N Z cn cs l1 l3 l5 l6 l8 n u m) (h : l3 < u) : c_qq (N + 1) (Z + 2 * u) cn cs l1 (2 * u) l5 l6 l8 n u m := ⟨by have q := q.1; unfold c_qr at *; omega, q.2⟩
theorem c_qq_5 {N Z cn cs l1 l3 l5 l6 l8 n u m : Int} (q : c_qq N Z cn cs l1 l3 l5 l6 l8 n u m) (h : l5 < n) : c_qq (N + 1) (Z + 2 * l5) cn cs l1 l3 (2 * l5) l6 l8 n u m := ⟨by have q := q.1; unfold c_qr at *; omega, q.2⟩
theorem c_qq_6 {N Z cn cs l1 l3 l5 l6 l8 n u m : Int} (q : c_qq N Z cn cs l1 l3 l5 l6 l8 n u m) (h : l6 ≤ m) : c_qq (N + 1) (Z + 2 * l6) cn cs l1 l3 l5 (2 * l6) l8 n u m := ⟨by have q := q.1; unfold c_qr at *; omega, q.2⟩
def c_qb (H : sw_H) (cn cs n u m : Int) : Prop := c_qq (sw_n H) (sw_s H) cn cs (sw_ln H (sw_rv H 3 1)) (sw_ln H (sw_rv H 3 3)) (sw_ln H (sw_rv H 3 5)) (sw_ln H (sw_rv H 3 6)) (sw_ln H (sw_rv H 3 8)) n u m
/-- the room of Terms -/
def c_q (H : sw_H) (cn cs : Int) : Prop := c_qb H cn cs (c_n H + 1) (sw_iv H 3 4) (sw_iv H 3 7)
theorem c_gr_ln {f : Nat} (g : c_gr H G f x) (hF : c_F H) (h3 : 3 ≠ sw_n H + 2) {k : Nat} (hk : k ≠ f) (ht : sw_ty H (sw_rv H 3 k) ≠ 0) : sw_ln G (sw_rv G 3 k) = sw_ln H (sw_rv H 3 k) := by
  obtain ⟨a1, a2, a3, a4, a5, a6, a7, a8⟩ := g
  rw [a6 3 k h3 (fun z => hk z.2), a4, if_neg]
  intro e
  exact ht (by rw [e]; exact hF _ (Nat.le_refl _))
theorem c_add_head {cn cs : Int} (qq : c_q H cn cs) (T : c_T H d nn) (Z : c_Z H) (F : c_F H) (hn4 : ¬ c_ow H 4) (hn5 : ¬ c_ow H 5) (h : c_row H r ra l) (hr : ¬ c_ow H r) (hra : ¬ c_ow H ra) (room : c_room H l.length) (k : ∀ G, c_T G d nn → c_Z G → c_F G → c_ft H G → c_vw H G → c_row G r ra l → ¬ c_ow G r → ¬ c_ow G ra → 14 * (c_n H + 2) ≤ sw_ln G (sw_rv G 3 1) → sw_iv H 3 4 + l.length ≤ sw_ln G (sw_rv G 3 3) → sw_n G ≤ sw_n H + 3 → (sw_s G : Int) ≤ sw_s H + c_ra H + c_rb H l.length → c_qb G cn cs (c_n H + 2) (sw_iv H 3 4 + l.length) (sw_iv H 3 7) → wb_251_55 P 3 s a b c r code (c_n H + 1) G) : wm_251 3 s a b c r code H P := by
  obtain ⟨m1, m2, m3, m4, m5⟩ := room
  have T' := T
  obtain ⟨S, D, t1, t2, t3, t4, t5, t6, t7, t8, t9, _⟩ := T'
  have sl := S.2.2.2.2.2.2.2.1
  have ra0 := c_ra_0 H
  have rb0 := c_rb_0 H (l.length : Int) (by omega)
  have rc0 := c_rc_0 H
  -- the signs
  have second : ∀ G, c_T G d nn → c_Z G → c_F G → c_ft H G → c_vw H G → ¬ c_ow G 4 → ¬ c_ow G 5 → c_row G r ra l → ¬ c_ow G r → ¬ c_ow G ra → 14 * (c_n H + 2) ≤ sw_ln G (sw_rv G 3 1) → sw_n G ≤ sw_n H + 2 → (sw_s G : Int) ≤ sw_s H + c_ra H → sw_ln G (sw_rv G 3 3) = sw_ln H (sw_rv H 3 3) → c_qb G cn cs (c_n H + 2) (sw_iv H 3 4) (sw_iv H 3 7) → wb_251_34 P 3 s a b c r code (c_n H + 1) G := by
    intro G TG ZG FG ftG VG n4 n5 hG hGr hGa g1 g2 g3 g4 g5
    have g6 : c_qb G cn cs (c_n H + 2) (sw_iv H 3 4 + l.length) (sw_iv H 3 7) := c_qq_up g5 (Int.le_refl _) (by omega) (Int.le_refl _)
    have SG := TG.1
    have u4 : sw_iv G 3 4 = sw_iv H 3 4 := VG.1 4
    have hl := hG.2.2.2.1
    unfold wb_251_34
    intro v151 e151 _ v154 e154 _
    rw [u4] at e151
    rw [hl] at e154
    subst e151 e154
    refine ⟨SG.2.2.1, ?_⟩
    intro q157 e157
    subst e157
    intro v160 e160 _
    rw [g4] at e160
    subst e160
    rw [sw_w_s (by omega) (by omega)]
    refine ⟨fun c1 => k G TG ZG FG ftG VG hG hGr hGa g1 (by rw [g4]; exact c1) (by omega) (by omega) g6, fun c1 => ⟨SG.2.2.1, ?_⟩⟩
    intro q163 e163 v166 e166 _ v169 e169 _
    rw [u4] at e166
    rw [hl] at e169
    subst e166 e169
    rw [sw_w_s (z := sw_iv H 3 4 + (l.length : Int)) (by omega) (by omega), sw_w_s (z := (sw_iv H 3 4 + (l.length : Int)) * 2) (by omega) (by omega)]
    have free : sw_ty G (sw_n G + 2) = 0 := FG _ (Nat.le_refl _)
    have h3 : 3 ≠ sw_n G + 2 := fun e => by
      have := SG.1
      rw [e, free] at this
      cases this
    have ty3 : sw_ty G q163 = 1 := by rw [e163]; exact SG.2.2.1
    have erb : c_rb H (l.length : Int) = 2 * (sw_iv H 3 4 + l.length) := if_pos (by omega)
    refine c_copyOf ty3 free (by rw [e163, g4]; omega) (by omega) (by omega) (by omega) (fun W w1 w2 w3 w4 w5 w6 => ?_)
    refine ⟨by rw [w3, if_pos rfl], fun _ _ => ?_⟩
    intro H177 e177
    have gr : c_gr G H177 3 ((sw_iv H 3 4 + (l.length : Int)) * 2) := by
      rw [e177]
      exact c_gr_mk h3 w1 w2 w3 w4 w5 (by rw [← e163]; exact w6)
    obtain ⟨y1, y2, y3, y4, y5, y6, y7, y8, y9, y10⟩ := c_growS TG ZG FG n4 n5 gr (by rw [g4]; omega) (by omega)
    obtain ⟨hx1, hx2, hx3⟩ := c_row_ft hG y4 hGr hGa
    refine k H177 y1 y2 y3 (c_ft_trans ftG y4) (c_vw_trans VG y5) hx1 hx2 hx3 (by rw [y7, y9]; exact g1) (by rw [y6]; omega) ?_ ?_ ?_
    · have := gr.1
      omega
    · have := gr.2.1
      omega
    · have q := c_qq_3 g6 (by rw [g4]; omega)
      have e0 := gr.1
      have e1 := gr.2.1
      unfold c_qb
      rw [y6, c_gr_ln gr FG h3 (by decide : 1 ≠ 3) (by rw [SG.2.1]; decide), c_gr_ln gr FG h3 (by decide : 5 ≠ 3) (by rw [SG.2.2.2.1]; decide), c_gr_ln gr FG h3 (by decide : 6 ≠ 3) (by rw [SG.2.2.2.2.1]; decide), c_gr_ln gr FG h3 (by decide : 8 ≠ 3) (by rw [SG.2.2.2.2.2.1]; decide)]
      rw [show ((sw_n H177 : Nat) : Int) = sw_n G + 1 by omega, show ((sw_s H177 : Nat) : Int) = sw_s G + 2 * (sw_iv H 3 4 + l.length) by omega, show ((((sw_iv H 3 4 + (l.length : Int)) * 2).toNat : Nat) : Int) = 2 * (sw_iv H 3 4 + l.length) by omega]
      exact q
  unfold wm_251
  intro v181 e181 _ y184 e184
  have e181 : v181 = c_n H := e181
  subst e181
  have dl := S.2.2.2.2.2.2.1
  rw [sw_w_s (by omega) (by omega)] at e184
  subst e184
  refine ⟨S.2.1, ?_⟩
  intro q188 e188 v191 e191 _
  rw [e188] at e191
  subst e191
  rw [sw_w_s (z := c_n H + 1 + 1) (by omega) (by omega), sw_w_s (z := (c_n H + 1 + 1) * 14) (by omega) (by omega)]
  refine ⟨fun c1 => second H T Z F (c_ft_refl H) (c_vw_refl H) hn4 hn5 h hr hra (by omega) (by omega) (by omega) rfl (c_qq_up qq (by omega) (Int.le_refl _) (Int.le_refl _)), fun c1 => ⟨S.2.1, ?_⟩⟩
  intro q194 e194
  refine ⟨S.2.1, ?_⟩
  intro q197 e197 v200 e200 _
  rw [e197] at e200
  subst e200
  rw [sw_w_s (z := (sw_ln H (sw_rv H 3 1) : Int) * 2) (by omega) (by omega)]
  have free : sw_ty H (sw_n H + 2) = 0 := F _ (Nat.le_refl _)
  have h3 : 3 ≠ sw_n H + 2 := fun e => by
    have := S.1
    rw [e, free] at this
    cases this
  have n1 : 0 < sw_ln H (sw_rv H 3 1) := by omega
  have era : c_ra H = 2 * sw_ln H (sw_rv H 3 1) + 2 * sw_ln H (sw_rv H 3 8) := if_pos (by omega)
  refine c_copyOf (by rw [e194]; exact S.2.1) free (by rw [e194]; omega) (by omega) (by omega) (by omega) (fun W w1 w2 w3 w4 w5 w6 => ?_)
  refine ⟨by rw [w3, if_pos rfl], fun _ _ => ?_⟩
  intro H208 e208
  have gr : c_gr H H208 1 (2 * sw_ln H (sw_rv H 3 1)) := by
    rw [e208]
    refine c_gr_mk h3 w1 (by rw [w2]; congr 1; omega) w3 (fun c => by rw [w4]; split <;> omega) w5 (by rw [← e194]; exact w6)
  have F1 := (c_gr_ft gr F h3 (by decide)).2
  have ft1 := (c_gr_ft gr F h3 (by decide)).1
  have r8 : sw_rv H208 3 8 = sw_rv H 3 8 := gr.2.2.2.2.2.1 3 8 h3 (by decide)
  have q8 : sw_ty H (sw_rv H 3 8) ≠ 0 := by rw [S.2.2.2.2.2.1]; decide
  have ty8 : sw_ty H208 (sw_rv H208 3 8) = 1 := by rw [r8, (ft1.1.2 _ q8).1]; exact S.2.2.2.2.2.1
  have ln8 : sw_ln H208 (sw_rv H208 3 8) = sw_ln H (sw_rv H 3 8) := by rw [r8, (ft1.1.2 _ q8).2]
  refine ⟨ty8, ?_⟩
  intro q211 e211
  refine ⟨ty8, ?_⟩
  intro q214 e214 v217 e217 _
  rw [e214, ln8] at e217
  subst e217
  rw [sw_w_s (z := (sw_ln H (sw_rv H 3 8) : Int) * 2) (by omega) (by omega)]
  have free1 : sw_ty H208 (sw_n H208 + 2) = 0 := F1 _ (Nat.le_refl _)
  have h31 : 3 ≠ sw_n H208 + 2 := fun e => by
    rw [← e, (ft1.1.2 3 (by rw [S.1]; decide)).1, S.1] at free1
    cases free1
  have nn1 := gr.1
  have ss1 := gr.2.1
  refine c_copyOf (by rw [e211]; exact ty8) free1 (by rw [e211, ln8]; omega) (by omega) (by omega) (by omega) (fun W2 z1 z2 z3 z4 z5 z6 => ?_)
  refine ⟨by rw [z3, if_pos rfl], fun _ _ => ?_⟩
  intro H225 e225
  have gr2 : c_gr H208 H225 8 (2 * sw_ln H (sw_rv H 3 8)) := by
    rw [e225]
    refine c_gr_mk h31 z1 (by rw [z2]; congr 1; omega) z3 (fun c => by rw [z4]; split <;> omega) z5 (by rw [← e211]; exact z6)
  obtain ⟨y1, y2, y3, y4, y5, y6, y7, y8, y9, y10⟩ := c_grow T Z F hn4 hn5 gr gr2 (by omega)
  obtain ⟨hx1, hx2, hx3⟩ := c_row_ft h y4 hr hra
  have s4 := c_row_ft S.2.2.2.2.2.2.2.2.2.2.2.1 y4 hn4 hn5
  refine second H225 y1 y2 y3 y4 y5 s4.2.1 s4.2.2 hx1 hx2 hx3 (by rw [y6]; omega) ?_ ?_ (by rw [y7, y9]) ?_
  · have := gr2.1
    omega
  · have := gr2.2.1
    omega
  · have q := c_qq_1 (c_qq_up qq (by omega : c_n H + 1 ≤ c_n H + 2) (Int.le_refl _) (Int.le_refl _)) (by omega)
    have e0 := gr2.1
    have e1 := gr2.2.1
    have q1 : sw_ty H (sw_rv H 3 1) ≠ 0 := by rw [S.2.1]; decide
    have q5 : sw_ty H (sw_rv H 3 5) ≠ 0 := by rw [S.2.2.2.1]; decide
    have q6 : sw_ty H (sw_rv H 3 6) ≠ 0 := by rw [S.2.2.2.2.1]; decide
    have r6 : sw_rv H208 3 6 = sw_rv H 3 6 := gr.2.2.2.2.2.1 3 6 h3 (by decide)
    have l6 : sw_ln H225 (sw_rv H225 3 6) = sw_ln H (sw_rv H 3 6) := by
      rw [c_gr_ln gr2 F1 h31 (by decide : 6 ≠ 8) (by rw [r6, (ft1.1.2 _ q6).1]; exact q6), c_gr_ln gr F h3 (by decide : 6 ≠ 1) q6]
    have l8 : sw_ln H225 (sw_rv H225 3 8) = 2 * sw_ln H (sw_rv H 3 8) := by
      rw [gr2.2.2.2.2.2.2.2, gr2.2.2.2.1, if_pos rfl]; omega
    unfold c_qb
    rw [y6, y7, y8, y9, y10, l6, l8]
    rw [show ((sw_n H225 : Nat) : Int) = sw_n H + 2 by omega, show ((sw_s H225 : Nat) : Int) = sw_s H + 2 * sw_ln H (sw_rv H 3 1) + 2 * sw_ln H (sw_rv H 3 8) by omega, show ((2 * sw_ln H (sw_rv H 3 1) : Nat) : Int) = 2 * (sw_ln H (sw_rv H 3 1) : Int) by omega, show ((2 * sw_ln H (sw_rv H 3 8) : Nat) : Int) = 2 * (sw_ln H (sw_rv H 3 8) : Int) by omega]
    exact q
end
end
