/-! ===== the class: a COMMIT that is taken, from the secrets on ===== -/
noncomputable section
section
variable {T : w_T} {hv hu : Nat → Wt} {G : w_G} {l k y m : Nat} {f : p_L} {ns : List p_N} {msk : Int} {s : Wt}
theorem d_op_cg : ∀ (ys : List Nat) (ts : List Wt), (∀ y ∈ ys, hv y = hu y) → d_op T hv ys ts = d_op T hu ys ts
  | [], _, _ => rfl
  | _ :: _, [], _ => rfl
  | y :: ys, w :: ts, h => by
    show (if hv y = [] then d_op T hv ys ts else d_sb (t_ky T y) w) = if hu y = [] then d_op T hu ys ts else d_sb (t_ky T y) w
    rw [h y (List.mem_cons_self ..), d_op_cg ys ts (fun x hx => h x (List.mem_cons_of_mem _ hx))]
theorem t_ab_bd : ∀ b : Fin 16, ∀ h : Fin 5, t_ab b.val h.val + 1 ≤ 2 * b.val + 2 ^ h.val ∧ 2 * b.val < t_ab b.val h.val + 2 ^ h.val := by decide +kernel
theorem w_rs_sub (ok : t_ok T) (hi : t_inv T) : ∀ (h x : Nat), w_h x = h → x + 2 ^ h ≤ t_w T → ∀ y ∈ w_rs T h x, x + 1 ≤ y + 2 ^ h ∧ y < x + 2 ^ h := by
  have w31 := t_w_4 ok.1
  have full : ∀ h x, w_h x = h → x + 2 ^ h ≤ t_w T → t_ky T x ≠ [] → ∀ y ∈ x :: w_uml (t_um T x) 16, x + 1 ≤ y + 2 ^ h ∧ y < x + 2 ^ h := fun h x e hx hk y hy => by
    have hp1 : 0 < 2 ^ h := Nat.two_pow_pos _
    rcases List.mem_cons.mp hy with c | c
    · subst c; omega
    · obtain ⟨b, b1, b2, b3⟩ := w_uml_in 16 c
      have i2 := (hi x (by omega) hk b b1 b3).2
      have h5 : h < 5 := by
        rcases Nat.lt_or_ge h 5 with g | g
        · exact g
        · have : 2 ^ 5 ≤ 2 ^ h := Nat.pow_le_pow_right (by decide) g
          omega
      have := t_ab_bd ⟨b, b1⟩ ⟨h, h5⟩
      have : t_ab b h + 1 ≤ 2 * b + 2 ^ h ∧ 2 * b < t_ab b h + 2 ^ h := this
      rw [e] at i2
      omega
  intro h
  induction h with
  | zero =>
    intro x e hx y hy
    have hy : y ∈ (if t_ky T x = [] then [] else x :: w_uml (t_um T x) 16) := hy
    by_cases c : t_ky T x = []
    · rw [if_pos c] at hy; cases hy
    · rw [if_neg c] at hy
      exact full 0 x e hx c y hy
  | succ h ih =>
    intro x e hx y hy
    have hp1 : 0 < 2 ^ h := Nat.two_pow_pos _
    have hp2 : 2 ^ (h + 1) = 2 * 2 ^ h := by rw [Nat.pow_succ]; omega
    have hy : y ∈ (if t_ky T x = [] then w_rs T h (x - 2 ^ h) ++ w_rs T h (x + 2 ^ h) else x :: w_uml (t_um T x) 16) := hy
    by_cases c : t_ky T x = []
    · rw [if_pos c] at hy
      obtain ⟨k1, k2, k3⟩ := w_h_kid (by omega) e
      rcases List.mem_append.mp hy with g | g
      · have := ih _ k2 (by omega) y g
        omega
      · have := ih _ k3 (by omega) y g
        omega
    · rw [if_neg c] at hy
      exact full (h + 1) x e hx c y hy
/-- a node of the other side of a way lies off the way -/
theorem w_rq_off (h1 : t_ok T) (h2 : t_inv T) (hl : l < 2 ^ t_dp T) (hk : k < t_dp T) (hy : y ∈ w_rq T msk l k) : y ≠ 2 * l ∧ ∀ j, j < 4 → y ≠ t_ab l (j + 1) := by
  have h4 := h1.1
  have d16 := t_d_16 h4
  obtain ⟨s1, _, s3, _⟩ := t_si_ok h4 hl hk
  have hy : y ∈ w_rs T k (t_si l k) := (List.mem_filter.mp hy).1
  obtain ⟨y1, y2⟩ := w_rs_sub h1 h2 k _ s1 s3 y hy
  have s31 : t_si l k < 31 := (t_si_k ⟨l, by omega⟩ ⟨k, by omega⟩).2.2.1
  have p8 : 2 ^ k ≤ 8 := by
    have : 2 ^ k ≤ 2 ^ 3 := Nat.pow_le_pow_right (by decide) (by omega)
    omega
  obtain ⟨o1, o2⟩ := t_off_k ⟨l, by omega⟩ ⟨k, by omega⟩ ⟨y, by omega⟩ y1 y2
  exact ⟨o1, fun j hj => o2 ⟨j, hj⟩⟩
theorem t_mf_lt {p : Nat} : ∀ (m j : Nat), (∃ i, j ≤ i ∧ i < j + m ∧ t_cb T l i ≠ 0 ∧ t_ab p (i + 1) = t_ab l (i + 1)) → t_mf T l p j m < j + m
  | 0, j, ⟨i, h1, h2, _⟩ => by omega
  | m + 1, j, ⟨i, h1, h2, h3⟩ => by
    unfold t_mf
    by_cases c : t_cb T l j ≠ 0 ∧ t_ab p (j + 1) = t_ab l (j + 1)
    · rw [if_pos c]; omega
    · rw [if_neg c]
      have ne : i ≠ j := fun e => c (by rw [← e]; exact h3)
      have := t_mf_lt m (j + 1) ⟨i, by omega, by omega, h3⟩
      omega
theorem d_k_lt (h4 : t_dp T ≤ 4) (hl : l < 2 ^ t_dp T) (tis : t_is T (gg_lf G)) (hne : gg_lf G ≠ l) : d_k G T l < t_dp T := by
  obtain ⟨j, j1, j2, j3⟩ := t_meet h4 hl tis hne
  have := t_mf_lt (T := T) (l := l) (p := gg_lf G) (t_dp T) 0 ⟨j, by omega, by omega, j2, j3⟩
  unfold d_k
  omega
/-- what the class holds before it opens, read at the other side, is what the reference holds -/
theorem d_p_cl (h1 : t_ok T) (h2 : t_inv T) (hl : l < 2 ^ t_dp T) (hk : d_k G T l < t_dp T) : d_p G T l msk f ns s = d_op (d_T2 T l f ns) (fun x => if x = 2 * gg_lf G then s else w_hcy G (d_T2 T l f ns) x) (w_rq T msk l (d_k G T l)) (d_tf T l ns (d_k G T l)) := by
  have h4 := h1.1
  have d16 := t_d_16 h4
  unfold d_p
  refine d_op_cg _ _ (fun y hy => ?_)
  obtain ⟨o1, o2⟩ := w_rq_off h1 h2 hl hk hy
  show d_h2 G T l s y = if y = 2 * gg_lf G then s else w_hcy G (d_T2 T l f ns) y
  unfold d_h2
  by_cases c : y = 2 * gg_lf G
  · rw [if_pos c, if_pos c]
  rw [if_neg c, if_neg c]
  have nw : ¬ (y % 2 = 1 ∧ y = t_ab l (w_h y) ∧ w_h y ≤ t_dp T) := fun ⟨a, b, d⟩ => by
    have h0 : w_h y ≠ 0 := fun e => by
      rw [e, t_ab_0] at b
      omega
    exact o2 (w_h y - 1) (by omega) (by rw [show w_h y - 1 + 1 = w_h y by omega]; exact b)
  rw [if_neg nw]
  exact (w_hcy_eq (d_T2_of2 h4 o1 (fun j hj => o2 j (by omega)))).symm
end
variable {H Z X : sw_H} {nn g gm r ra m l : Nat} {K S : Wt → Prop} {tl mk mm lm : List Wt} {cn cs N U M msk ep sd : Int} {P : Int → sw_H → Prop} {T T2 : w_T} {G : w_G} {s cf sg tg : Wt} {A : List Nat} {Ul : List (Wt × Wt)} {f : p_L} {ns : List p_N} {b e1 : Nat} {es : List p_E}
/-- the class while it takes a COMMIT: the spare group g, the member's group gm, the message -/
def c_tcb (H : sw_H) (mk : List Wt) (nn : Nat) (K : Wt → Prop) (tl : List Wt) (cn cs : Int) (m g gm r ra : Nat) (lm : List Wt) (G : w_G) (Ul : List (Wt × Wt)) : Prop := c_W H mk nn K tl cn cs ∧ c_Ta H ∧ sw_rv H 94 6 = g ∧ c_gs H g ∧ sw_iv H g 2 = w_epn G ∧ sw_iv H g 3 = gg_lf G ∧ sw_rv H (120 + 54 * m) 4 = gm ∧ c_gp H mk gm G ∧ c_ma H m ∧ c_up H mk m Ul ∧ c_sg H (w_d mk) r ra lm ∧ (¬ c_ow H r ∧ ¬ c_ow H ra) ∧ sw_ty H 18 = 72
theorem c_tcb_ch (hm : m < 24) (hpl : c_pl g) (hplm : c_pl gm) (hne : g ≠ gm) (hr : 1491 < r ∧ 1491 < ra) (h : c_tcb H mk nn K tl cn cs m g gm r ra lm G Ul) (hW : c_W Z mm nn K tl cn cs) (c : c_ch A H Z) (hl : w_le mk mm) (hg : c_gs Z g) (hA : ∀ a ∈ A, (13 < a ∧ a < 94 ∧ a ≠ 18) ∨ (g < a ∧ a ≤ g + 22)) : c_tcb Z mm nn K tl cn cs m g gm r ra lm G Ul := by
  obtain ⟨h1, h2, h3, h4, h5, h6, h7, h8, h9, h10, h11, h12, h13⟩ := h
  obtain ⟨p1, p2⟩ := c_pl_b hpl
  obtain ⟨p3, p4⟩ := c_pl_b hplm
  have pd := c_pl_d hpl hplm hne
  have pm := c_pl_m hpl hm
  have pa := c_pl_a hpl hm (k := 49) (by decide) (by decide)
  have fl := h1.1.2.2.2.1
  have ad := h1.1.2.2.2.2
  have v94 := c_fx_iv fl ad c (q := 94) (by unfold c_fix; omega) (fun cc => by have := hA _ cc; omega)
  have vg := c_fx_iv fl ad c (q := g) (by unfold c_fix; omega) (fun cc => by have := hA _ cc; omega)
  have nm : 120 + 54 * m ∉ A := fun cc => by have := hA _ cc; omega
  have vm := c_fx_iv fl ad c (q := 120 + 54 * m) (by unfold c_fix; omega) nm
  obtain ⟨s1, s2⟩ := c_sg_far h1 hW h11 c hl h12 ⟨fun cc => by have := hA _ cc; omega, fun cc => by have := hA _ cc; omega⟩
  exact ⟨hW, c_Ta_ch h2 fl ad c (fun cc => by have := hA _ cc; omega), by rw [v94.2]; exact h3, hg, by rw [vg.1]; exact h5, by rw [vg.1]; exact h6, by rw [vm.2]; exact h7, c_gp_ch h8 fl ad c (fun a ha => by have := hA _ ha; omega) hl, c_ma_ch h9 hm fl ad c (fun cc => absurd cc nm), c_up_ch h10 hm fl ad c (fun cc => absurd cc nm) (fun cc => by have := hA _ cc; omega) hl, s1, s2, by rw [(c_fx_ty fl c (q := 18) (by unfold c_fix; omega)).1]; exact h13⟩
/-- the secrets carried over -/
theorem c_carry2 (hm : m < 24) (hpl : c_pl g) (hplm : c_pl gm) (hne : g ≠ gm) (hr : 1491 < r ∧ 1491 < ra) (h : c_tcb H mk nn K tl cn cs m g gm r ra lm G Ul) (ht : c_tr H mk (g + 1) T) (hlf : gg_lf G < 2 ^ t_dp T) (hk : t_ky T (2 * gg_lf G) = w_p5 s) (hs : s ≠ []) (hcar : (∀ u ∈ Ul, u.2 ≠ s) → w_hcy G T (2 * gg_lf G) = s) {Q : sw_H → Prop} (q : ∀ Z, c_tcb Z mk nn K tl cn cs m g gm r ra lm G Ul → c_tr Z mk (g + 1) T → (∀ x, x < t_w T → w_az mk (sw_iv Z (g + 22) x) (if x = 2 * gg_lf G then s else w_hcy G T x)) → (∀ x, t_w T ≤ x → x < 31 → sw_iv Z (g + 22) x = 0) → c_fr [g + 22] H Z → Q Z) : wm_184 (120 + 54 * m) g 3 H Q := by
  obtain ⟨h1, h2, h3, h4, h5, h6, h7, h8, h9, h10, h11, h12, h13⟩ := id h
  obtain ⟨p1, p2⟩ := c_pl_b hpl
  have pd := c_pl_d hpl hplm hne
  have pm := c_pl_m hpl hm
  have pa := c_pl_a hpl hm (k := 49) (by decide) (by decide)
  refine c_carry (g1 := gm) (G' := G) (l := gg_lf G) (s := s) ⟨h8.1, h4, h7, by omega, h9.1, h9.2.2.2.2.2.1.1, h9.2.2.2.2.2.1.2, by omega, by omega⟩ h1.1 h8 ht h6 hlf hk hs h10 (fun Z fZ y1 y2 y3 => ?_)
  have fx : ∀ a ∈ [g + 22], c_fix a ∧ (15 < a ∨ a = 2) := fun a ha => by simp at ha; unfold c_fix; omega
  have WZ := c_W_fr h1 fZ fx
  have cZ := c_V_ch h1.1 fZ (fun a ha => (fx a ha).1)
  refine q Z (c_tcb_ch hm hpl hplm hne hr h WZ cZ (w_le_refl _) (c_gs_fr h4 fZ) (fun a ha => by simp at ha; omega)) (c_tr_fr h1.1 ht fZ (fun a ha => ⟨(fx a ha).1, by simp at ha; omega⟩)) (fun x hx => ?_) y2 fZ
  by_cases c : x = 2 * gg_lf G
  · rw [if_pos c, c]
    rcases y3 with ⟨a, b⟩ | ⟨a, _⟩
    · rw [hcar b] at a
      exact a
    · exact Or.inr a
  · rw [if_neg c]
    exact y1 x hx c
/-- what becomes of the class when another's COMMIT is taken to its end -/
def c_tkn (H : sw_H) (m g gm : Nat) (X : sw_H) (mm : List Wt) (G2 : w_G) (A : List Nat) : Prop := c_gp X mm g G2 ∧ (∀ f, sw_iv X (120 + 54 * m) f = if f = 3 then 1 else if f = 6 then -1 else if f = 9 then 0 else if f = 11 then 0 else sw_iv H (120 + 54 * m) f) ∧ (∀ f, sw_rv X (120 + 54 * m) f = if f = 4 then g else sw_rv H (120 + 54 * m) f) ∧ (∀ f, sw_rv X 94 f = if f = 6 then gm else sw_rv H 94 f) ∧ c_ch ((120 + 54 * m) :: 94 :: A) H X
theorem c_tc_n (hm : m < 24) (lmm : c_lm cn cs N U M) (hb : c_bS S mk tl N U M) (hpl : c_pl g) (hplm : c_pl gm) (hne : g ≠ gm) (hr : 1491 < r ∧ 1491 < ra) (h : c_tcb H mk nn K tl cn cs m g gm r ra lm G Ul) (ht : c_tr H mk (g + 1) T) (hno : sw_iv H 18 11 = -1) (hlf : gg_lf G < 2 ^ t_dp T) (hk : t_ky T (2 * gg_lf G) = w_p5 s) (hs : s ≠ []) (hcar : (∀ u ∈ Ul, u.2 ≠ s) → w_hcy G T (2 * gg_lf G) = s) (hl3 : 3 ≤ lm.length) (hlm : lm.length ≤ 1200) (hcf : lm[lm.length - 2]? = some cf) (hcf2 : cf.head? ≠ some 1000) (hz : w_at mk 1 w_z) (hok : gg_ok (d_G G T w_z lm (d_h0 G T s))) (hS : ∀ v, d_eS G T w_z lm v → S v)
    (q0 : ∀ X mm, d_cm G T w_z lm = cf → w_mo S mk mm → c_bS S mm tl N U M → c_W X mm nn K tl cn cs → c_tkn H m g gm X mm (d_G G T w_z lm (d_h0 G T s)) [14, 15, 16, g, g + 22] → P 0 X)
    (q12 : ∀ X mm, d_cm G T w_z lm ≠ cf → w_mo S mk mm → c_bS S mm tl N U M → c_W X mm nn K tl cn cs → c_gs X g → (∀ f, sw_rv X 94 f = sw_rv H 94 f) → c_ch [14, 15, 16, g, g + 22, 94] H X → P 12 X) : wb_208_75 P 94 (120 + 54 * m) r 0 H := by
  obtain ⟨h1, h2, h3, h4, _⟩ := id h
  obtain ⟨p1, p2⟩ := c_pl_b hpl
  have pd := c_pl_d hpl hplm hne
  have pm := c_pl_m hpl hm
  obtain ⟨t94, r0, r1, r2, r3, r4, _⟩ := id h2
  unfold wb_208_75
  refine ⟨fun c => absurd rfl c, fun _ => ?_⟩
  rw [h3]
  refine ⟨h4.2.2.1, ?_⟩
  intro q7 e7
  rw [r0]
  refine ⟨h1.1.1.1.1.1.1, ?_⟩
  intro q10 e10
  rw [e7, e10]
  refine c_carry2 hm hpl hplm hne hr h ht hlf hk hs hcar (fun Z tZ trZ yh yz fZ => ?_)
  intro _
  obtain ⟨z1, z2, z3, z4, z5, z6, z7, z8, z9, z10, z11, z12, z13⟩ := id tZ
  rw [z3]
  refine ⟨z4.2.2.1, ?_⟩
  intro q18 e18
  rw [e18]
  refine c_openPath0 z2 z13 (by rw [fZ.2.2.2.2.2 18 (by simp <;> omega)]; exact hno) (fun V v7 fV => ?_)
  intro _ _
  have fx94 : ∀ a ∈ [94], c_fix a ∧ (15 < a ∨ a = 2) := fun a ha => by simp at ha; unfold c_fix; omega
  have WV := c_W_fr z1 fV fx94
  have cV := c_V_ch z1.1 fV (fun a ha => (fx94 a ha).1)
  have fl := z1.1.2.2.2.1
  have ad := z1.1.2.2.2.2
  have cZ : c_ch [g + 22] H Z := c_V_ch h1.1 fZ (fun a ha => by simp at ha; unfold c_fix; omega)
  obtain ⟨sgV, oV⟩ := c_sg_far z1 WV z11 cV (w_le_refl _) z12 ⟨by simp <;> omega, by simp <;> omega⟩
  unfold wb_208_89
  refine ⟨fun c => absurd rfl c, fun _ => ?_⟩
  have ivV : ∀ a, a ≠ 94 → sw_iv V a = sw_iv Z a := fun a ha => fV.2.2.2.2.2 a (by simpa using ha)
  have rvm : ∀ f, sw_rv V (120 + 54 * m) f = sw_rv H (120 + 54 * m) f := fun f => by rw [fV.2.2.2.2.1, fZ.2.2.2.2.1]
  have ivm : ∀ f, sw_iv V (120 + 54 * m) f = sw_iv H (120 + 54 * m) f := fun f => by rw [ivV _ (by omega), fZ.2.2.2.2.2 _ (by simp <;> omega)]
  have rv94 : ∀ f, sw_rv V 94 f = sw_rv H 94 f := fun f => by rw [fV.2.2.2.2.1, fZ.2.2.2.2.1]
  refine c_enterNext (G := G) (T := T) (hd := d_h0 G T s) (sc := w_z) (cf := cf) hm lmm hb WV (c_Ta_ch z2 fl ad cV (fun _ f _ => fV.2.2.2.2.1 94 f)) (by rw [rv94]; exact h3) hpl (c_gs_fr z4 fV) (c_tr_fr z1.1 trZ fV (fun a ha => ⟨(fx94 a ha).1, by simp at ha; omega⟩)) (by rw [ivV g (by omega)]; exact z5) (by rw [ivV g (by omega)]; exact z6) (fun x hx => by rw [ivV _ (by omega)]; exact yh x hx) (fun x hx hx2 => by rw [ivV _ (by omega)]; exact yz x hx hx2) (by rw [fV.2.2.2.2.1]; exact z7) hplm (c_gp_fr z1.1 z8 fV (fun a ha => ⟨(fx94 a ha).1, by have := c_pl_b hplm; simp at ha; omega⟩)) hne sgV hr oV hl3 hlm hcf hcf2 (by rw [v7]; exact hz) hok hS (fun X mm y1 y2 y3 y4 y5 y6 y7 y8 y9 => ?_) (fun X mm y1 y2 y3 y4 yg y5 => ?_)
  · intro _ _
    exact q0 X mm y1 y2 y3 y4 ⟨y5, fun f => by rw [y6 f, ivm], fun f => by rw [y7 f, rvm], fun f => by rw [y8 f, rv94], c_ch_sub (c_ch_trans cZ (c_ch_trans cV y9)) (by simp)⟩
  · intro _ _
    refine q12 X mm y1 y2 y3 y4 yg (fun f => ?_) (c_ch_sub (c_ch_trans cZ (c_ch_trans cV y5)) (by simp))
    rw [(c_fx_iv WV.1.2.2.2.1 WV.1.2.2.2.2 y5 (q := 94) (by unfold c_fix; omega) (by simp <;> omega)).2, rv94]
theorem c_tc_p (hm : m < 24) (lmm : c_lm cn cs N U M) (hb : c_bS S mk tl N U M) (hpl : c_pl g) (hplm : c_pl gm) (hne : g ≠ gm) (hr : 1491 < r ∧ 1491 < ra) (h : c_tcb H mk nn K tl cn cs m g gm r ra lm G Ul) (t1 : t_ok T) (t2 : t_inv T) (ht : c_tr H mk (g + 1) (d_T2 T l f ns)) (hT2 : t_ok (d_T2 T l f ns) ∧ t_inv (d_T2 T l f ns) ∧ t_pk (d_T2 T l f ns)) (hl : l < 2 ^ t_dp T) (tis : t_is T (gg_lf G)) (hnl : gg_lf G ≠ l) (hk : t_ky T (2 * gg_lf G) = w_p5 s) (hs : s ≠ []) (hcar : (∀ u ∈ Ul, u.2 ≠ s) → w_hcy G T (2 * gg_lf G) = s) (hPa : c_Pa H) (hRe : c_Re H) (hpk : c_pk2 H T msk l (t_wl T l (t_dp T))) (h88 : ∀ i k : Nat, (t_wl T l (t_dp T))[i]? = some k → w_at mk (sw_iv H 88 i) (d_kf T l ns k)) (hpn : c_pn H mk ns) (hsh : d_sh T msk l ns) (h576 : (w_sq T msk l (t_wl T l (t_dp T))).length ≤ 576) (hcm : p_cm K lm ep sd b e1 es (some (f, ns)) sg cf tg) (n5 : ∀ n ∈ ns, w_i5 n.1) (hl3 : 3 ≤ lm.length) (hlm : lm.length ≤ 1200) (hcf : lm[lm.length - 2]? = some cf) (hcf2 : cf.head? ≠ some 1000) (hok : gg_ok (d_Gp G T l msk f ns s lm)) (hS1 : ∀ v, d_clS T l (d_p G T l msk f ns s) (d_k G T l) v → S v) (hS2 : ∀ v, d_eS G (d_T2 T l f ns) (d_cs G T l msk f ns s) lm v → S v)
    (q10 : ∀ X, d_p G T l msk f ns s = [] → c_W X mk nn K tl cn cs → c_gs X g → (∀ f, sw_rv X 94 f = sw_rv H 94 f) → c_ch [14, 15, 16, 90, 94, g, g + 22] H X → P 10 X)
    (q11 : ∀ X mm, d_p G T l msk f ns s ≠ [] → ¬ d_cok T l (d_p G T l msk f ns s) (d_k G T l) (d_kf T l ns) → w_mo S mk mm → c_bS S mm tl N U M → c_W X mm nn K tl cn cs → c_gs X g → (∀ f, sw_rv X 94 f = sw_rv H 94 f) → c_ch [14, 15, 16, 90, 94, g, g + 22] H X → P 11 X)
    (q0 : ∀ X mm, d_p G T l msk f ns s ≠ [] → d_cok T l (d_p G T l msk f ns s) (d_k G T l) (d_kf T l ns) → d_cm G (d_T2 T l f ns) (d_cs G T l msk f ns s) lm = cf → w_mo S mk mm → c_bS S mm tl N U M → c_W X mm nn K tl cn cs → c_tkn H m g gm X mm (d_Gp G T l msk f ns s lm) [14, 15, 16, 90, g, g + 22] → P 0 X)
    (q12 : ∀ X mm, d_p G T l msk f ns s ≠ [] → d_cok T l (d_p G T l msk f ns s) (d_k G T l) (d_kf T l ns) → d_cm G (d_T2 T l f ns) (d_cs G T l msk f ns s) lm ≠ cf → w_mo S mk mm → c_bS S mm tl N U M → c_W X mm nn K tl cn cs → c_gs X g → (∀ f, sw_rv X 94 f = sw_rv H 94 f) → c_ch [14, 15, 16, 90, 94, g, g + 22] H X → P 12 X) : wb_208_75 P 94 (120 + 54 * m) r 0 H := by
  have h4' := t1.1
  have d16 := t_d_16 h4'
  have w31 := t_w_4 h4'
  have dpe : t_dp (d_T2 T l f ns) = t_dp T := d_T2_dp
  have twe : t_w (d_T2 T l f ns) = t_w T := t_dp_w dpe
  obtain ⟨h1, h2, h3, h4, _⟩ := id h
  obtain ⟨p1, p2⟩ := c_pl_b hpl
  have pd := c_pl_d hpl hplm hne
  have pm := c_pl_m hpl hm
  obtain ⟨t94, r0, r1, r2, r3, r4, _⟩ := id h2
  have lfl := tis.1
  have l16 : l < 16 := by omega
  -- the own leaf is off the way
  have offo : ∀ j, j < t_dp T → 2 * gg_lf G ≠ t_ab l (j + 1) := fun j hj e => by
    have := (d_way l16 (j := j) (by omega)).2
    omega
  have kT2 : t_ky (d_T2 T l f ns) (2 * gg_lf G) = t_ky T (2 * gg_lf G) := d_T2_of2 h4' (by omega) offo
  have cT2 : w_hcy G (d_T2 T l f ns) (2 * gg_lf G) = w_hcy G T (2 * gg_lf G) := w_hcy_eq kT2
  unfold wb_208_75
  refine ⟨fun c => absurd rfl c, fun _ => ?_⟩
  rw [h3]
  refine ⟨h4.2.2.1, ?_⟩
  intro q7 e7
  rw [r0]
  refine ⟨h1.1.1.1.1.1.1, ?_⟩
  intro q10' e10
  rw [e7, e10]
  refine c_carry2 (T := d_T2 T l f ns) (s := s) hm hpl hplm hne hr h ht (by rw [dpe]; exact lfl) (by rw [kT2]; exact hk) hs (fun hu => by rw [cT2]; exact hcar hu) (fun Z tZ trZ yh yz fZ => ?_)
  intro _
  obtain ⟨z1, z2, z3, z4, z5, z6, z7, z8, z9, z10, z11, z12, z13⟩ := id tZ
  rw [z3]
  refine ⟨z4.2.2.1, ?_⟩
  intro q18 e18
  rw [e18]
  have cZ : c_ch [g + 22] H Z := c_V_ch h1.1 fZ (fun a ha => by simp at ha; unfold c_fix; omega)
  have ivZ : ∀ a, a ≠ g + 22 → sw_iv Z a = sw_iv H a := fun a ha => fZ.2.2.2.2.2 a (by simpa using ha)
  have fl := z1.1.2.2.2.1
  have ad := z1.1.2.2.2.2
  have hmf := d_k_lt (G := G) h4' hl tis hnl
  have obZ : c_ob Z mk nn K tl cn cs g T msk l (d_kf T l ns) := ⟨z1, z2, c_Pa_fr hPa fZ, c_pk2_fr hpk fZ (fun a ha => by simp at ha; omega), z4, fun i k hi => by rw [ivZ 88 (by omega)]; exact h88 i k hi⟩
  have pnZ : c_pn Z mk ns := by
    unfold c_pn
    rw [ivZ 18 (by omega), ivZ 19 (by omega), ivZ 20 (by omega), ivZ 21 (by omega)]
    exact hpn
  have rv94Z : ∀ f, sw_rv Z 94 f = sw_rv H 94 f := fun f => fZ.2.2.2.2.1 94 f
  -- what openPath leaves
  have rv94c : ∀ {X : sw_H}, c_ch [90, 94, g + 22] Z X → c_ch [14, 15, 16, 90, 94, g, g + 22] H X := fun {X} c => c_ch_sub (c_ch_trans cZ c) (by simp)
  refine c_openPath (T := T) (T2 := d_T2 T l f ns) (S := S) (hv := fun x => if x = 2 * gg_lf G then s else w_hcy G (d_T2 T l f ns) x) (p := d_p G T l msk f ns s) (k0 := d_k G T l) (pf := gg_lf G) lmm hpl (by omega) h4' hl obZ n5 z13 (c_Re_fr hRe fZ) pnZ hsh z11 (by omega) (by omega) hcm trZ h576 (fun k hk y hy => ?_) yh z6 tis hnl hb rfl (d_p_cl t1 t2 hl hmf) hS1 (fun X y1 y2 y3 y4 => ?_) (fun X mm y1 y2 y3 y4 y5 y6 y7 => ?_) (fun X mm y1 y2 y3 y4 y5 y6 y7 y8 y9 y10 => ?_)
  · have hy2 : y ∈ w_rs (d_T2 T l f ns) k (t_si l k) := by
      rw [d_T2_rs hl h4' hk]
      exact (List.mem_filter.mp hy).1
    obtain ⟨si1, _, si3, _⟩ := t_si_ok h4' hl hk
    have := w_rs_in hT2.1 hT2.2.1 hT2.2.2 k _ si1 (by rw [twe]; exact si3) y hy2
    refine ⟨this.1, fun c => ?_⟩
    rw [c] at this
    cases this.2
  · intro _ _
    unfold wb_208_89
    exact ⟨fun _ => q10 X y1 y2 (c_gs_ch z4 fl ad y4 (fun a ha hn => by simp at ha; omega) (fun cc => by simp at cc; omega)) (fun f => by rw [y3 f, rv94Z]) (rv94c y4), fun c => absurd c (by decide)⟩
  · intro _ _
    unfold wb_208_89
    exact ⟨fun _ => q11 X mm y1 y2 y3 y4 y5 (c_gs_ch z4 fl ad y7 (fun a ha hn => by simp at ha; omega) (fun cc => by simp at cc; omega)) (fun f => by rw [y6 f, rv94Z]) (rv94c y7), fun c => absurd c (by decide)⟩
  · intro _ _
    unfold wb_208_89
    refine ⟨fun c => absurd rfl c, fun _ => ?_⟩
    have lX := y3.1
    have fxm := c_fx_iv fl ad y10 (q := 120 + 54 * m) (by unfold c_fix; omega) (by simp <;> omega)
    have fxg := c_fx_iv fl ad y10 (q := g) (by unfold c_fix; omega) (by simp <;> omega)
    have gsX := c_gs_ch z4 fl ad y10 (fun a ha hn => by simp at ha; omega) (fun cc => by simp at cc; omega)
    have trX := c_tr_ch trZ fl ad y10 (fun a ha => by simp at ha; omega) lX
    have gpX := c_gp_ch z8 fl ad y10 (fun a ha => by have := c_pl_b hplm; simp at ha; omega) lX
    obtain ⟨sgX, oX⟩ := c_sg_far z1 y5 z11 y10 lX z12 ⟨by simp <;> omega, by simp <;> omega⟩
    have rvm : ∀ f, sw_rv X (120 + 54 * m) f = sw_rv H (120 + 54 * m) f := fun f => by rw [fxm.2, fZ.2.2.2.2.1]
    have ivm : ∀ f, sw_iv X (120 + 54 * m) f = sw_iv H (120 + 54 * m) f := fun f => by rw [fxm.1, ivZ _ (by omega)]
    have rv94 : ∀ f, sw_rv X 94 f = sw_rv H 94 f := fun f => by rw [y9 f, rv94Z]
    have TaX : c_Ta X := c_Ta_ch z2 fl ad y10 (fun _ f _ => y9 f)
    refine c_enterNext (G := G) (T := d_T2 T l f ns) (hd := d_hd G T (d_T2 T l f ns) l (d_p G T l msk f ns s) (d_k G T l) s) (sc := d_cs G T l msk f ns s) (cf := cf) hm lmm y4 y5 TaX (by rw [rv94]; exact h3) hpl gsX trX (by rw [fxg.1]; exact z5) (by rw [fxg.1]; exact z6) (fun x hx => ?_) (fun x hx hx2 => ?_) (by rw [rvm]; exact h.2.2.2.2.2.2.1) hplm gpX hne sgX hr oX hl3 hlm hcf hcf2 y6 hok hS2 (fun V mv w1 w2 w3 w4 w5 w6 w7 w8 w9 => ?_) (fun V mv w1 w2 w3 w4 wg w5 => ?_)
    · -- what is held
      unfold d_hd
      by_cases c1 : x = 2 * gg_lf G
      · rw [if_pos c1, y8 x (fun k _ k2 _ e => offo k k2 (by rw [← c1]; exact e))]
        have := yh x hx
        rw [if_pos c1] at this
        exact w_le_az lX this
      rw [if_neg c1]
      by_cases c2 : x % 2 = 1 ∧ x = t_ab l (w_h x) ∧ w_h x ≤ t_dp T ∧ d_k G T l < w_h x ∧ t_cb T l (w_h x - 1) ≠ 0
      · rw [if_pos c2]
        obtain ⟨a, b, c, d, e⟩ := c2
        have := y7 (w_h x - 1) (by omega) (by omega) e
        rw [show w_h x - 1 + 1 = w_h x by omega, ← b] at this
        exact Or.inr this
      · rw [if_neg c2, y8 x (fun k k1 k2 k3 e => c2 ?_)]
        · have := yh x hx
          rw [if_neg c1] at this
          exact w_le_az lX this
        · obtain ⟨a, b⟩ := d_way l16 (j := k) (by omega)
          rw [e, a]
          exact ⟨b, rfl, by omega, by omega, k3⟩
    · rw [y8 x (fun k k1 k2 k3 e => ?_)]
      · exact yz x hx hx2
      · have := t_ab_w (T := T) (k := l) (h := k + 1) h4' hl (by omega)
        rw [twe] at hx
        omega
    · intro _ _
      exact q0 V mv y1 y2 w1 (w_mo_trans y3 w2) w3 w4 ⟨w5, fun f => by rw [w6 f, ivm], fun f => by rw [w7 f, rvm], fun f => by rw [w8 f, rv94], c_ch_sub (c_ch_trans cZ (c_ch_trans y10 w9)) (by simp)⟩
    · intro _ _
      refine q12 V mv y1 y2 w1 (w_mo_trans y3 w2) w3 w4 wg (fun f => ?_) (c_ch_sub (c_ch_trans cZ (c_ch_trans y10 w5)) (by simp))
      rw [(c_fx_iv y5.1.2.2.2.1 y5.1.2.2.2.2 w5 (q := 94) (by unfold c_fix; omega) (by simp <;> omega)).2, rv94]
end
