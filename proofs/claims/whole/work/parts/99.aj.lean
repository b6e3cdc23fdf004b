/-! ===== the class: the search for what follows ===== -/
noncomputable section
section
variable {H G X Y Z : sw_H} {d : Nat → Wt} {nn : Nat} {K : Wt → Prop} {tl : List Wt} {g t : Nat} {wl wm wn : List Nat} {x : Int} {Q : sw_H → Prop} {P : Int → sw_H → Prop}
theorem c_T_cg (T : c_T H d nn) (S : c_S G) (D : c_D G) (en : c_n G = c_n H) (e4 : sw_iv G 3 4 = sw_iv H 3 4) (hd : ∀ t k : Nat, (t : Int) ≤ c_n H → k ≤ 7 → c_d G t k = c_d H t k) (hs : ∀ j : Nat, (j : Int) < sw_iv H 3 4 → sw_iv G (sw_rv G 3 3) j = sw_iv H (sw_rv H 3 3) j) (hb : ∀ j, sw_iv G (sw_rv G 3 5) j = sw_iv H (sw_rv H 3 5) j) (l5 : sw_ln G (sw_rv G 3 5) = sw_ln H (sw_rv H 3 5)) (h1 : 14 * (c_n H + 1) ≤ sw_ln G (sw_rv G 3 1)) (h2 : sw_iv H 3 4 ≤ sw_ln G (sw_rv G 3 3)) (h3 : sw_ln G (sw_rv G 3 1) = 14 * sw_ln G (sw_rv G 3 8)) : c_T G d nn := by
  obtain ⟨S0, D0, t1, t2, t3, t4, t5, t6, t7, t8, t9, ch, c1, c2, c3⟩ := T
  have hsn : ∀ t, c_R H t → c_sn G t = c_sn H t := fun t ht => by
    have r := t8 t ht
    have w1 := r.2.1
    have w2 := r.2.2.1
    have w3 := r.2.2.2.1
    clear r
    have e4 := hd t 4 ht.2 (by decide)
    have e5 := hd t 5 ht.2 (by decide)
    unfold c_sn
    rw [e4, e5]
    exact m_sl_cg (fun k hk => hs _ (by omega))
  have hR : ∀ t, c_R G t ↔ c_R H t := fun t => by unfold c_R; rw [en]
  refine ⟨S, D, by omega, by omega, by rw [e4]; exact t3, by rw [e4]; exact h2, by rw [en, l5]; exact t5, by rw [l5]; exact t6, h3, fun t ht => ?_, fun t u ht hu => t9 t u ((hR t).mp ht) ((hR u).mp hu), ch, fun b hb' => ?_, fun b t h => (hR t).mpr (c2 b t h), fun t ht h0 => ?_⟩
  · have ht := (hR t).mp ht
    have r := t8 t ht
    have ht2 := ht.2
    have r1 := r.1
    unfold c_rw at r ⊢
    rw [hsn t ht, hd t 0 ht2 (by decide), hd t 1 ht2 (by decide), hd t 2 ht2 (by decide), hd t 3 ht2 (by decide), hd t 4 ht2 (by decide), hd t 5 ht2 (by decide), hd t 6 ht2 (by decide), e4]
    refine ⟨?_, r.2⟩
    unfold c_va at r1 ⊢
    obtain ⟨u1, u2, u3, u4, u5, u6, u7, u8, u9, u10, u11, u12, u13, u14⟩ := r1
    refine ⟨u1, u2, u3, u4, u5, u6, u7, u8, u9, u10, u11, u12, u13, fun h => ?_⟩
    obtain ⟨z1, z2, z3⟩ := u14 h
    clear u7 u8 u9 u10 u11 u12 u13 u14
    exact ⟨z1, by rw [hd _ 0 (by omega) (by decide)]; exact z2, z3⟩
  · rw [l5] at hb'
    rw [hb]
    exact c_lk_vw (n := c_n H) (fun t _ ht => hd t 7 ht (by decide)) _ _ (fun t ht => c2 b t ht) (c1 b hb')
  · have ht := (hR t).mp ht
    rw [hd t 0 ht.2 (by decide)] at h0
    have := c3 t ht h0
    unfold c_bk at this ⊢
    rw [hd t 6 ht.2 (by decide), l5]
    exact this
theorem c_lr_T (h : c_lr X Y) (s : c_sh X) (T : c_T X d nn) : c_T Y d nn := by
  have s2 := c_lr_sh h s
  obtain ⟨d1, d2, d3, d4, d5, d6, d7, d8, d9, d10⟩ := s.2.1
  have S := s.1
  have n33 : sw_rv X 3 3 ≠ 3 := fun e => by
    have h1 := S.1
    have h2 := S.2.2.1
    rw [e, h1] at h2
    cases h2
  have n35 : sw_rv X 3 5 ≠ 3 := fun e => by
    have h1 := S.1
    have h2 := S.2.2.2.1
    rw [e, h1] at h2
    cases h2
  have rv := h.1.2.2.2.2.1
  have ln := h.1.2.2.2.1
  have iv := h.1.2.2.2.2.2
  refine c_T_cg T s2.1 s2.2.1 (c_lr_n h) (h.2.1 4 (by decide)) (fun t k _ hk => c_lr_d h (by omega) (Or.inl (by omega))) (fun j _ => ?_) (fun j => ?_) ?_ ?_ ?_ ?_
  · rw [rv, iv (sw_rv X 3 3) (by simp; exact ⟨n33, fun e => d1 e.symm, d7⟩)]
  · rw [rv, iv (sw_rv X 3 5) (by simp; exact ⟨n35, fun e => d2 e.symm, d9⟩)]
  · rw [rv, ln]
  · rw [rv, ln]; exact T.2.2.2.1
  · rw [rv, ln]; exact T.2.2.2.2.2.1
  · rw [rv, rv, ln, ln]; exact T.2.2.2.2.2.2.2.2.1
theorem c_lr_ul (h : c_lr X Y) {x : Int} {L : List Nat} (u : c_ul X x L) : c_ul Y x L := c_ul_cg _ _ (fun k _ => c_lr_d h (by omega) (Or.inl (by omega))) u
theorem c_lr_U (h : c_lr X Y) (U : c_U X) : c_U Y := by
  unfold c_U
  rw [c_lr_n h]
  refine c_UL_cg U (fun p _ _ => c_lr_d h (by decide) (Or.inl (by decide))) (fun k _ => c_lr_d h (by omega) (Or.inl (by omega))) (fun k => ?_) (fun k _ => ?_)
  · unfold c_Lk
    rw [c_lr_n h, c_lr_d h (by decide) (Or.inl (by decide))]
  · unfold c_pt
    rw [c_lr_d h (by omega) (Or.inl (by omega))]
/-- what stands while the search goes on -/
def c_cx (X : sw_H) (d : Nat → Wt) (nn : Nat) (wl : List Nat) : Prop := c_sh X ∧ c_T X d nn ∧ c_01 X ∧ c_wt X wl ∧ (c_un X : Int) + wl.length ≤ c_n X
theorem c_cx_sp (c : c_cx X d nn wl) (h : c_sp g X wl Y wm) : c_cx Y d nn wm := by
  obtain ⟨s, T, h01, hw, hu⟩ := c
  have h' := h
  obtain ⟨h1, h2, h3, h4, h5, h6⟩ := h'
  refine ⟨c_lr_sh h1 s, c_lr_T h1 s T, h2, h3, ?_⟩
  have := c_lr_n h1
  omega
/-- what of t there is to open is known behind it -/
def c_opd (X Y : sw_H) (t : Nat) : Prop := c_d X t 0 = 6 → c_kn X t → c_kn X (c_d X (c_d X t 1).toNat 1).toNat → c_kn Y (c_d X t 2).toNat ∧ (c_d X t 3 ≠ 0 → c_kn Y (c_d X t 3).toNat)
theorem c_opd_r (h : c_opd X Y t) (k : c_sp g Y wm Z wn) : c_opd X Z t := fun a b c => ⟨c_sp_mono k (h a b c).1, fun z => c_sp_mono k ((h a b c).2 z)⟩
theorem c_opd_l (k : c_sp g X wl Y wm) (h : c_opd Y Z t) : c_opd X Z t := fun a b c => by
  have lr := k.1
  unfold c_opd at h
  rw [c_lr_d lr (t := t) (k := 0) (by decide) (Or.inl (by decide)), c_lr_d lr (t := t) (k := 1) (by decide) (Or.inl (by decide)), c_lr_d lr (t := t) (k := 2) (by decide) (Or.inl (by decide)), c_lr_d lr (t := t) (k := 3) (by decide) (Or.inl (by decide)), c_lr_d lr (k := 1) (by decide) (Or.inl (by decide))] at h
  exact h a (c_sp_mono k b) (c_sp_mono k c)
theorem c_openS (c : c_cx X d nn wl) (ht : c_R X t) (k : ∀ Y wm, c_sp g X wl Y wm → c_opd X Y t → Q Y) : wm_338 3 t X Q := by
  have c' := c
  obtain ⟨s, T, h01, hw, hu⟩ := c'
  have none : ¬ (c_d X t 0 = 6 ∧ c_k X t ∧ c_k X (c_d X (c_d X t 1).toNat 1).toNat) → Q X := fun h => k X wl (c_sp_refl h01 hw) (fun a b e => absurd ⟨a, b.2, e.2⟩ h)
  have ht2 := ht.2
  unfold wm_338
  refine c_sortOf s ht2 (fun _ _ => ⟨fun c6 => none (fun h => c6 h.1), fun c6 => ?_⟩)
  obtain ⟨z1, z2, z3, z4, z5, z6, z7, z8, z9⟩ := c_sealed T ht c6
  refine c_knows s h01 ht2 (fun kt _ _ => ⟨fun h => absurd h (by decide), fun _ => ?_⟩) (fun kt _ _ => ⟨fun _ => none (fun h => kt h.2.1), fun h => absurd rfl h⟩)
  refine c_firstOf s ht2 (fun _ _ => ?_)
  have e1 : c_d X t 1 = (((c_d X t 1).toNat : Nat) : Int) := by omega
  rw [e1]
  refine c_firstOf s (by omega) (fun _ _ => ?_)
  have e2 : c_d X (c_d X t 1).toNat 1 = (((c_d X (c_d X t 1).toNat 1).toNat : Nat) : Int) := by omega
  rw [e2]
  refine c_knows s h01 (by omega) (fun kt2 _ _ => ⟨fun h => absurd h (by decide), fun _ => ?_⟩) (fun kt2 _ _ => ⟨fun _ => none (fun h => kt2 h.2.2), fun h => absurd rfl h⟩)
  refine c_secondOf s ht2 (fun _ _ => ?_)
  have knt : c_kn X t := ⟨ht, kt⟩
  have knf : c_kn X (c_d X (c_d X t 1).toNat 1).toNat := ⟨⟨by omega, by omega⟩, kt2⟩
  refine c_reveal (g := g) s h01 hw hu (by omega) (by omega) (fun _ S a _ b => ((a t ht).2.2 c6 (b _ knt) (b _ knf)).1) (fun Y wm sp kY _ => ?_)
  obtain ⟨sY, TY, h01Y, hwY, huY⟩ := c_cx_sp c sp
  have lr := sp.1
  have enY := c_lr_n lr
  refine c_thirdOf sY (by omega) (fun _ _ => ?_)
  have e3 : c_d Y t 3 = c_d X t 3 := c_lr_d lr (by decide) (Or.inl (by decide))
  rw [e3]
  refine c_reveal (g := g) sY h01Y hwY huY (by omega) (by omega) (fun h3 S a _ b => ?_) (fun Z wn sp2 kZ _ => ?_)
  · exact (((c_lr_clo lr S).mp a t ht).2.2 c6 (b _ (c_sp_mono sp knt)) (b _ (c_sp_mono sp knf))).2 h3
  · exact k Z wn (c_sp_trans sp sp2) (fun _ _ _ => ⟨c_sp_mono sp2 (kY (by omega)), fun h => kZ h⟩)
/-- nextLink -/
theorem c_nextLink {m : Nat} (s : c_sh X) (h1 : ((m / 3 : Nat) : Int) ≤ c_n X) (q : P (c_nx X m) X) : wm_340 3 m X P := by
  obtain ⟨S, D, h4, h5, l1, n1, l8, z⟩ := s
  have dl := S.2.2.2.2.2.2.1
  unfold wm_340
  rw [sw_div_3 (by omega) (by omega), sw_rem_3 (by omega) (by omega), sw_w_s (z := (m : Int) / 3 * 14) (by omega) (by omega), sw_w_s (z := (m : Int) / 3 * 14 + 11) (by omega) (by omega), sw_w_s (by omega) (by omega)]
  refine ⟨S.2.1, ?_⟩
  intro q1 e1
  subst e1
  refine ⟨by omega, by omega, ?_⟩
  intro v e _
  have : v = c_nx X m := by
    rw [e]
    unfold c_nx c_d
    congr 1
    omega
  rw [this]
  exact q
theorem c_ul_dec : ∀ (L : List Nat) (x : Int), c_ul X x L → (L.length : Int) ≤ x
  | [], x, e => by
    have e : x = 0 := e
    simp
    omega
  | k :: L, x, e => by
    obtain ⟨e1, e2, e3, e4⟩ := e
    have : L.length ≤ k - 1 := by
      cases L with
      | nil => simp
      | cons m M =>
        have h1 := c_ul_dec (m :: M) _ e4
        have h2 : c_nx X k = m := e4.1
        have h3 := e3 m List.mem_cons_self
        omega
    rw [List.length_cons]
    omega
/-- openSealedFor's loop -/
theorem c_osf_l : ∀ (n : Nat) {L : List Nat} {left : Int} {x : Int} {X : sw_H} {wl : List Nat}, c_cx X d nn wl → c_ul X x L → (∀ m ∈ L, c_R X (m / 3)) → L.length < n → (L.length : Int) ≤ left → left ≤ 1000000000 → (∀ Y wm, c_sp g X wl Y wm → (∀ m ∈ L, c_opd X Y (m / 3)) → Q Y) → wl_339_14 Q n 3 x left X
  | 0, _, _, _, _, _, _, _, _, h, _, _, _ => by omega
  | n + 1, [], left, x, X, wl, c, u, hL, hn, hl, hb, k => by
    have q := k X wl (c_sp_refl c.2.2.1 c.2.2.2.1) (by simp)
    have u : x = 0 := u
    unfold wl_339_14
    exact ⟨fun _ => q, fun _ => ⟨fun _ => q, fun h => absurd u h⟩⟩
  | n + 1, m :: L, left, x, X, wl, c, u, hL, hn, hl, hb, k => by
    obtain ⟨u1, u2, u3, u4⟩ := u
    rw [List.length_cons] at hn hl
    have hm := hL m List.mem_cons_self
    have nm := c.1.2.2.2.2.1
    have dl := c.1.1.2.2.2.2.2.2.1
    have hm2 := hm.2
    unfold wl_339_14
    refine ⟨fun h => by omega, fun _ => ⟨fun h => by omega, fun _ => ?_⟩⟩
    rw [u1, sw_div_3 (by omega) (by omega), show (m : Int) / 3 = ((m / 3 : Nat) : Int) by omega]
    refine c_openS (g := g) c hm (fun Y wm sp op _ => ?_)
    have cY := c_cx_sp c sp
    have en := c_lr_n sp.1
    refine c_nextLink cY.1 (by omega) (fun _ _ => ?_)
    intro y ey
    rw [sw_w_s (by omega) (by omega)] at ey
    subst ey
    have enx : c_nx Y m = c_nx X m := c_lr_d sp.1 (by omega) (Or.inl (by omega))
    rw [enx]
    refine c_osf_l n cY (c_lr_ul sp.1 u4) (fun q hq => (c_lr_R sp.1 _).mpr (hL q (List.mem_cons_of_mem _ hq))) (by omega) (by omega) (by omega) (fun Z wn sp2 op2 => ?_)
    refine k Z wn (c_sp_trans sp sp2) (fun q hq => ?_)
    rcases List.mem_cons.mp hq with e | hq
    · rw [e]; exact c_opd_r op sp2
    · exact c_opd_l sp (op2 q hq)
/-- the users of p -/
def c_us (X : sw_H) (p : Nat) (t : Nat) : Prop := ∃ m, c_Lk X m ∧ c_pt X m = p ∧ m / 3 = t
theorem c_us_ul (U : c_U X) {p : Nat} (hp : c_R X p) : ∃ L, c_ul X (c_d X p 10) L ∧ (∀ m ∈ L, c_R X (m / 3)) ∧ (∀ t, c_us X p t ↔ ∃ m ∈ L, m / 3 = t) ∧ (L.length : Int) ≤ 3 * c_n X := by
  obtain ⟨ul, u⟩ := U
  have h2 := hp.2
  have h1 := hp.1
  obtain ⟨u1, u2⟩ := u p h1 (by omega)
  refine ⟨ul p, u1, fun m hm => ?_, fun t => ?_, ?_⟩
  · have := ((u2 m).mp hm).1
    exact ⟨by have := this.1; omega, this.2.1⟩
  · constructor
    · rintro ⟨m, m1, m2, m3⟩
      exact ⟨m, (u2 m).mpr ⟨m1, m2⟩, m3⟩
    · rintro ⟨m, m1, m2⟩
      exact ⟨m, ((u2 m).mp m1).1, ((u2 m).mp m1).2, m2⟩
  · have hd := c_ul_dec _ _ u1
    cases hl : ul p with
    | nil => simp; omega
    | cons m M =>
      rw [hl] at u1
      have e : c_d X p 10 = m := u1.1
      have hm := ((u2 m).mp (by rw [hl]; exact List.mem_cons_self)).1
      have hlast := u1.2.2.1
      -- all below m, so M has at most m - 3
      have len : ∀ (L : List Nat) (x : Int), c_ul X x L → L ≠ [] → (L.length : Int) + 2 ≤ x := by
        intro L
        induction L with
        | nil => intro x _ h; exact absurd rfl h
        | cons k L ih =>
          intro x hx _
          obtain ⟨e1, e2, e3, e4⟩ := hx
          cases L with
          | nil => simp; omega
          | cons q R =>
            have := ih _ e4 (by simp)
            have h2 : c_nx X k = q := e4.1
            have h3 := e3 q List.mem_cons_self
            rw [List.length_cons]
            omega
      have := len _ _ u1 (by simp)
      have hm2 := hm.2.1
      omega
theorem c_openFor (c : c_cx X d nn wl) (U : c_U X) (ht : c_R X t) (k : ∀ Y wm, c_sp g X wl Y wm → (∀ u, c_us X t u → c_opd X Y u) → Q Y) : wm_339 3 t X Q := by
  obtain ⟨L, l1, l2, l3, l4⟩ := c_us_ul U ht
  have s := c.1
  have nm := s.2.2.2.2.1
  have n1 := s.2.2.2.2.2.1
  have dl := s.1.2.2.2.2.2.2.1
  unfold wm_339
  refine c_get (k := 10) (Q := fun v23 => ∀ v29, v29 = sw_iv X 3 2 → sw_c v29 → ∀ y32, y32 = sw_w (3 * v29) → ∃ n14, wl_339_14 Q n14 3 v23 y32 X) s ht.2 (by decide) ?_
  intro v29 e29 _ y32 e32
  have e29 : v29 = c_n X := e29
  rw [e29, sw_w_s (by omega) (by omega)] at e32
  subst e32
  refine ⟨L.length + 1, c_osf_l _ c l1 l2 (by omega) l4 (by omega) (fun Y wm sp op => k Y wm sp (fun u hu => ?_))⟩
  obtain ⟨m, m1, m2⟩ := (l3 u).mp hu
  rw [← m2]
  exact op m m1
end
end
