/-! ===== the class: count, message, sign, isKnown, term, ofTerm ===== -/
noncomputable section
section
variable {H G X Y Z : sw_H} {d e : Nat → Wt} {nn : Nat} {K : Wt → Prop} {tl tp : List Wt} {ms : List (List Wt)} {rd : Nat → Int} {t : Nat} {x y m cn cs cn' cs' : Int} {Q : sw_H → Prop} {P : Int → sw_H → Prop} {A B : List Nat}
theorem c_ft_ex (h : c_ft H X) (en : c_n X = c_n H) : c_ex H d X d := ⟨h, by omega, fun _ _ => rfl⟩
theorem c_head (T : c_T H d nn) (h : c_R H t) : (d t).head? ≠ some 1000 := by
  obtain ⟨s, l, hs, e⟩ := c_d0 T h
  rw [e, w_mk_head]
  intro h
  have := Option.some.inj h
  omega
theorem c_kn_l (A : c_A H d nn K tl) (q : P (w_cnt K tl) H) : ∀ (n : Nat) {x1 x2 : Int}, 1 ≤ x2 → (tl.length + 1 - x2).toNat < n → x2 ≤ tl.length + 1 → x1 + w_cnt K (tl.drop (x2 - 1).toNat) = w_cnt K tl → 0 ≤ x1 → wl_142_4 P n 3 x1 x2 H
  | 0, _, _, _, h, _, _, _ => by omega
  | n + 1, x1, x2, h2, hn1, hle, hs, h1 => by
    obtain ⟨N1, N2, N3, N4, N5⟩ := A.2.2.2.2.2.2.1
    have s := c_A_sh A
    have S := s.1
    have nl := S.2.2.2.2.2.2.2.2.2.1
    have hcl : w_cnt K tl ≤ tl.length := List.countP_le_length
    unfold wl_142_4
    intro v5 e5 _
    rw [N1] at e5
    subst e5
    refine ⟨fun c => ?_, fun c => ⟨S.2.2.2.2.1, ?_⟩⟩
    · have : tl.drop (x2 - 1).toNat = [] := List.drop_eq_nil_of_le (by omega)
      rw [this] at hs
      have hz : w_cnt K [] = 0 := rfl
      rw [hz] at hs
      have : x1 = w_cnt K tl := by omega
      rw [this]
      exact q
    · intro q8 e8
      subst e8
      refine ⟨by omega, by omega, ?_⟩
      intro v11 e11 _
      have hl : (x2 - 1).toNat < tl.length := by omega
      obtain ⟨t, t1, t2, t3⟩ := N3 _ _ (List.getElem?_eq_getElem hl)
      rw [show (x2 - 1).toNat + 1 = x2.toNat by omega] at t2
      rw [t2] at e11
      subst e11
      have hd : tl.drop (x2 - 1).toNat = d t :: tl.drop (x2 + 1 - 1).toNat := by
        rw [List.drop_eq_getElem_cons hl, show (x2 + 1 - 1).toNat = (x2 - 1).toNat + 1 by omega, t3]
      have hcons : w_cnt K (d t :: tl.drop (x2 + 1 - 1).toNat) = w_cnt K (tl.drop (x2 + 1 - 1).toNat) + (if @decide (K (d t)) (Classical.propDecidable (K (d t))) = true then 1 else 0) := List.countP_cons
      rw [hd, hcons] at hs
      have hk := c_K_row A.1 A.2.2.2.2.2.1 t1
      refine c_knows s A.2.2.2.2.2.1.1 t1.2 (fun k1 _ _ => ⟨fun h => absurd h (by decide), fun _ => ?_⟩) (fun k0 _ _ => ⟨fun _ => ?_, fun h => absurd rfl h⟩)
      · rw [if_pos (@decide_eq_true (K (d t)) (Classical.propDecidable (K (d t))) (hk.mp k1))] at hs
        intro y19 e19
        unfold wb_142_16
        intro y1 ey1
        rw [sw_w_s (by omega) (by omega)] at e19 ey1
        subst e19 ey1
        exact c_kn_l A q n (by omega) (by omega) (by omega) (by omega) (by omega)
      · rw [if_neg (fun h => k0 (hk.mpr (@of_decide_eq_true (K (d t)) (Classical.propDecidable (K (d t))) h)))] at hs
        unfold wb_142_16
        intro y1 ey1
        rw [sw_w_s (by omega) (by omega)] at ey1
        subst ey1
        exact c_kn_l A q n (by omega) (by omega) (by omega) (by omega) (by omega)
theorem c_knownNumbers (A : c_A H d nn K tl) (q : P (w_cnt K tl) H) : wm_142 3 H P := by
  unfold wm_142
  refine ⟨tl.length + 1, c_kn_l A q _ (by omega) (by omega) (by omega) ?_ (by omega)⟩
  simp
theorem c_count (h : c_I H d nn K tl tp rd ms cn cs) (qn : x < 0 ∨ 3 < x → P (-1) H) (q0 : x = 0 → P tl.length H) (q1 : x = 1 → P ms.length H) (q2 : x = 2 → P (w_cnt K tl) H) (q3 : x = 3 → P tp.length H) : wm_42 2 x H P := by
  obtain ⟨a, F, q, fl, ad, O, hP, hY, hM⟩ := h
  obtain ⟨o1, o2, o3, o4, o5, o6, o7, _⟩ := O
  have S := a.1.1
  unfold wm_42
  refine ⟨qn, fun c => ⟨by rw [o2]; exact S.1, ?_⟩, fun c => ?_, fun c => ⟨by rw [o2]; exact S.1, ?_⟩, fun c => ⟨?_, ?_⟩⟩
  · intro q2 e2 v5 e5 _
    rw [e2, o2, a.2.2.2.2.2.2.1.1] at e5
    rw [e5]
    exact q0 c
  · intro v8 e8 _
    rw [hM.1] at e8
    rw [e8]
    exact q1 c
  · intro q11 e11
    rw [e11, o2]
    exact c_knownNumbers a (fun _ _ => q2 c)
  · obtain ⟨s, r, _⟩ := hP.1
    rw [o6]; exact r.1
  · intro q19 e19 v22 e22 _
    rw [e19, o6, (c_sg_len hP.1).1] at e22
    rw [e22]
    exact q3 c
theorem c_isMessage (h : c_M H d ms) (q0 : (x < 0 ∨ (ms.length : Int) ≤ x) → P 0 H) (q1 : ∀ l, 0 ≤ x → x < ms.length → ms[x.toNat]? = some l → P 1 H) : wm_62 2 x H P := by
  unfold wm_62
  refine ⟨fun c => q0 (Or.inl c), fun c => ?_⟩
  intro v1 e1 _
  rw [h.1] at e1
  subst e1
  refine ⟨fun c2 => q0 (Or.inr c2), fun c2 => q1 ms[x.toNat] c c2 (List.getElem?_eq_getElem (by omega))⟩
/-- what is known of message x -/
theorem c_M_at (h : c_M H d ms) {l : List Wt} (h0 : 0 ≤ x) (hl : ms[x.toNat]? = some l) : ∃ a, 1491 < sw_rv H 1416 x.toNat ∧ ¬ c_ow H (sw_rv H 1416 x.toNat) ∧ l.length ≤ 1200 ∧ 1491 < a ∧ ¬ c_ow H a ∧ c_sg H d (sw_rv H 1416 x.toNat) a l := by
  obtain ⟨g1, g2, g3, a, g4, g5, g6⟩ := h.2.2 _ _ hl
  exact ⟨a, g1, g2, g3, g4, g5, g6⟩
theorem c_message (h : c_I H d nn K tl tp rd ms cn cs) (q0 : (x < 0 ∨ (ms.length : Int) ≤ x) → P (-1) H) (q1 : ∀ l, 0 ≤ x → ms[x.toNat]? = some l → P l.length H) : wm_34 2 x H P := by
  obtain ⟨a, F, q, fl, ad, O, hP, hY, hM⟩ := h
  obtain ⟨o1, o2, o3, o4, o5, o6, o7, o8, o9, o10, o11, o12, o13, o14, o15⟩ := O
  unfold wm_34
  refine c_isMessage hM (fun c _ _ => ⟨fun _ => q0 c, fun h => absurd rfl h⟩) (fun l h0 h1 hl _ _ => ⟨fun h => absurd h (by decide), fun _ => ⟨by rw [o5]; exact o14, ?_⟩⟩)
  intro q6 e6
  rw [e6, o5]
  obtain ⟨b, g1, g2, g3, g4, g5, g6⟩ := c_M_at hM h0 hl
  have m3 := hM.2.1
  refine ⟨h0, by rw [o15]; omega, ?_, ?_⟩
  · obtain ⟨s, r, _⟩ := g6
    exact r.1
  · intro q9 e9 v12 e12 _
    rw [e9, (c_sg_len g6).1] at e12
    rw [e12]
    exact q1 l h0 hl
theorem c_isKnown (h : c_I H d nn K tl tp rd ms cn cs) (q0 : ¬ w_has tl K x → P 0 H) (q1 : w_has tl K x → P 1 H) : wm_28 2 x H P := by
  obtain ⟨a, F, q, fl, ad, O, hP, hY, hM⟩ := h
  obtain ⟨o1, o2, o3, o4, o5, o6, o7, o8, o9, o10, o11, o12, o13, o14, o15⟩ := O
  have s := c_A_sh a
  have S := a.1.1
  unfold wm_28
  refine ⟨by rw [o2]; exact S.1, ?_⟩
  intro q1' e1
  refine ⟨by rw [o2]; exact S.1, ?_⟩
  intro q4 e4
  rw [e4, e1, o2]
  refine c_numbered a (fun hno _ _ => ?_) (fun w t hw ht hd _ _ => ?_)
  · refine c_knows (t := 0) s a.2.2.2.2.2.1.1 (by have := a.1.2.2.1; omega) (fun hk => ?_) (fun _ _ _ => ⟨Or.inl rfl, q0 ?_⟩)
    · unfold c_k at hk
      rw [s.2.2.2.2.2.2.2] at hk
      cases hk
    · rintro ⟨w, hw, _⟩
      rw [hno] at hw
      cases hw
  · have hk := c_K_row a.1 a.2.2.2.2.2.1 ht
    rw [hd] at hk
    refine c_knows s a.2.2.2.2.2.1.1 ht.2 (fun k1 _ _ => ⟨Or.inr rfl, q1 ⟨w, hw, hk.mp k1⟩⟩) (fun k0 _ _ => ⟨Or.inl rfl, q0 ?_⟩)
    rintro ⟨w', hw', hk'⟩
    rw [hw] at hw'
    cases hw'
    exact k0 (hk.mpr hk')
theorem c_tellp (a : c_A H d nn K tl) (F : c_F H) (q : c_q H cn cs) (rm : c_rmN H) (h0 : 0 ≤ x) (h1 : x ≤ c_n H) (k : ∀ Y, c_A Y d nn K (w_tp tl (w_dz d x)).2 → c_F Y → c_q Y cn cs → c_ex H d Y d → P (w_tp tl (w_dz d x)).1 Y) : wm_123 3 x H P := by
  by_cases c : x = 0
  · have e1 : w_tp tl (w_dz d x) = (0, tl) := by
      unfold w_tp w_dz
      rw [if_pos c, if_pos rfl]
    rw [e1] at k
    unfold wm_123
    exact ⟨fun h => absurd c h, fun _ => k H a F q (c_ex_refl H d)⟩
  · have hR : c_R H x.toNat := ⟨by omega, by omega⟩
    have e1 : w_tp tl (w_dz d x) = (((((w_tl tl (d x.toNat)).idxOf (d x.toNat) : Nat)) : Int) + 1, w_tl tl (d x.toNat)) := by
      unfold w_tp
      rw [w_dz_pos (by omega), if_neg]
      obtain ⟨s, l, _, q⟩ := c_d0 a.1 hR
      rw [q]
      intro h
      cases h
    rw [e1] at k
    have ex : x = ((x.toNat : Nat) : Int) := by omega
    rw [ex]
    exact c_tell a F q rm hR (fun Y aY FY qY ft en _ => k Y aY FY qY (c_ft_ex ft en))
theorem w_tl_len (tl : List Wt) (w : Wt) : (w_tl tl w).length ≤ tl.length + 1 ∧ (w_tl tl w).idxOf w < tl.length + 1 := by
  have h1 : (w_tl tl w).length ≤ tl.length + 1 := by
    unfold w_tl
    split
    · omega
    · simp
  have hm : w ∈ w_tl tl w := by
    unfold w_tl
    split
    · assumption
    · simp
  have := List.idxOf_lt_length_of_mem hm
  exact ⟨h1, by omega⟩
theorem c_tellSign (h : c_I H d nn K tl tp rd ms cn cs) (rm : c_rmN H) (hv : m_vs (c_n H) x) (k : ∀ Y, c_A Y d nn K (w_ts tl (w_sg d x)).2 → c_F Y → c_q Y cn cs → c_ex H d Y d → P (w_ts tl (w_sg d x)).1 Y) : wm_128 2 x H P := by
  obtain ⟨a, F, q, fl, ad, O, hP, hY, hM⟩ := h
  have S := a.1.1
  have hN := a.2.2.2.2.2.2.1
  have nl := S.2.2.2.2.2.2.2.2.2.1
  have n2 := hN.2.1
  have dl := S.2.2.2.2.2.2.1
  have t2 := a.1.2.2.2.1
  have hv' := hv
  unfold m_vs at hv
  unfold wm_128
  refine ⟨fun c => ⟨by rw [O.2.1]; exact S.1, ?_⟩, fun c => ?_⟩
  · intro q1 e1
    rw [e1, O.2.1, sw_w_s (by omega) (by omega)]
    have hR : c_R H (x - 256).toNat := ⟨by omega, by omega⟩
    have e1 : w_sg d x = d (x - 256).toNat := by unfold w_sg; rw [if_neg (by omega)]
    have e2 : w_ts tl (w_sg d x) = ((256 : Int) + (((w_tl tl (d (x - 256).toNat)).idxOf (d (x - 256).toNat) : Nat) + 1), w_tl tl (d (x - 256).toNat)) := by
      rw [e1]
      unfold w_ts
      rw [if_neg (c_head a.1 hR)]
    rw [e2] at k
    have ex : x - 256 = (((x - 256).toNat : Nat) : Int) := by omega
    rw [ex]
    have hlen := (w_tl_len tl (d (x - 256).toNat)).2
    refine c_tell a F q rm hR (fun Y aY FY qY ft en _ _ _ => ?_)
    rw [sw_w_s (by omega) (by omega)]
    exact k Y aY FY qY (c_ft_ex ft en)
  · have e1 : w_sg d x = [1000, x.toNat] := by unfold w_sg; rw [if_pos c]
    have e2 : w_ts tl (w_sg d x) = (x, tl) := by
      rw [e1]
      unfold w_ts
      rw [if_pos (show [1000, x.toNat].head? = some 1000 from rfl)]
      show (((x.toNat : Nat) : Int), tl) = (x, tl)
      rw [Int.toNat_of_nonneg hv.1]
    rw [e2] at k
    exact k H a F q (c_ex_refl H d)
theorem c_sg_at {r a : Nat} {l : List Wt} (h : c_sg H d r a l) {k : Nat} {w : Wt} (hk : l[k]? = some w) : k < sw_ln H a ∧ m_vs (c_n H) (sw_iv H a k) ∧ w_sg d (sw_iv H a k) = w ∧ sw_ty H r = 80 ∧ sw_rv H r 0 = a ∧ sw_ty H a = 1 := by
  obtain ⟨s, g1, g2, g3⟩ := h
  have hlt : k < l.length := (List.getElem?_eq_some_iff.mp hk).1
  have el : l.length = s.length := by rw [← g3, List.length_map]
  have hs : s[k]? = some (sw_iv H a k) := c_row_at g1 (by omega)
  have hm : sw_iv H a k ∈ s := List.mem_of_getElem? hs
  refine ⟨by have := g1.2.2.2.2.1; omega, g2 _ hm, ?_, g1.1, g1.2.1, g1.2.2.1⟩
  rw [← g3, List.getElem?_map, hs] at hk
  exact Option.some.inj hk
theorem c_sign (h : c_I H d nn K tl tp rd ms cn cs) (rm : c_rmN H) (q0 : (∀ l w, ¬ (0 ≤ x ∧ 0 ≤ y ∧ ms[x.toNat]? = some l ∧ l[y.toNat]? = some w)) → P (-1) H) (q1 : ∀ l w Y, 0 ≤ x → 0 ≤ y → ms[x.toNat]? = some l → l[y.toNat]? = some w → c_I Y d nn K (w_ts tl w).2 tp rd ms cn cs → c_ch [] H Y → P (w_ts tl w).1 Y) : wm_36 2 x y H P := by
  have h' := h
  obtain ⟨a, F, q, fl, ad, O, hP, hY, hM⟩ := h'
  obtain ⟨o1, o2, o3, o4, o5, o6, o7, o8, o9, o10, o11, o12, o13, o14, o15⟩ := O
  have m3 := hM.2.1
  unfold wm_36
  refine c_isMessage hM (fun c _ _ => ⟨fun _ => q0 (fun l w ⟨b1, b2, b3, b4⟩ => ?_), fun h => absurd rfl h⟩) (fun l h0 h1 hl _ _ => ⟨fun h => absurd h (by decide), fun _ => ⟨fun c => q0 (fun l w b => by omega), fun c => ⟨by rw [o5]; exact o14, ?_⟩⟩⟩)
  · have := (List.getElem?_eq_some_iff.mp b3).1
    omega
  intro q6 e6
  rw [e6, o5]
  obtain ⟨b, g1, g2, g3, g4, g5, g6⟩ := c_M_at hM h0 hl
  have ty : sw_ty H (sw_rv H 1416 x.toNat) = 80 := by
    obtain ⟨s, r, _⟩ := g6
    exact r.1
  refine ⟨h0, by rw [o15]; omega, ty, ?_⟩
  intro q9 e9 v12 e12 _
  rw [e9, (c_sg_len g6).1] at e12
  subst e12
  refine ⟨fun c2 => ⟨o14, ?_⟩, fun c2 => q0 (fun l' w ⟨b1, b2, b3, b4⟩ => ?_)⟩
  · intro q15 e15
    rw [e15]
    refine ⟨h0, by rw [o15]; omega, ty, ?_⟩
    intro q18 e18
    rw [e18]
    obtain ⟨k1, k2, k3, k4, k5, k6⟩ := c_sg_at g6 (List.getElem?_eq_getElem (by omega : y.toNat < l.length))
    refine ⟨by rw [k5]; exact k6, ?_⟩
    intro q21 e21
    rw [e21, k5]
    refine ⟨c, by omega, ?_⟩
    intro v24 e24 _
    rw [e24]
    refine c_tellSign h rm k2 (fun Y aY FY qY ex _ _ => ?_)
    rw [k3] at aY ⊢
    exact q1 l _ Y h0 c hl (List.getElem?_eq_getElem (by omega)) (c_I_ex h aY FY qY ex) (c_ft_ch ex.1)
  · rw [hl] at b3
    cases b3
    have := (List.getElem?_eq_some_iff.mp b4).1
    omega
theorem c_lengthOf (s : c_sh X) (h1 : (t : Int) ≤ c_n X) (q : P (c_d X t 5) X) : wm_126 3 t X P := c_get (k := 5) (Q := fun v => P v X) s h1 (by decide) q
theorem c_ofTerm (h : c_I H d nn K tl tp rd ms cn cs) (rm : c_rmN H) (q0 : (∀ w t, w_no tl x = some w → c_R H t → d t = w → ¬ (0 ≤ y ∧ y < c_d H t 5)) → P (-1) H) (q1 : ∀ w t s Y, w_no tl x = some w → c_R H t → d t = w → 0 ≤ y → y < c_d H t 5 → (c_sn H t)[y.toNat]? = some s → c_I Y d nn K (w_ts tl (w_sg d s)).2 tp rd ms cn cs → c_ch [] H Y → P (w_ts tl (w_sg d s)).1 Y) : wm_32 2 x y H P := by
  have h' := h
  obtain ⟨a, F, q, fl, ad, O, hP, hY, hM⟩ := h'
  obtain ⟨o1, o2, o3, o4, o5, o6, o7, o8, o9, o10, o11, o12, o13, o14, o15⟩ := O
  have s := c_A_sh a
  have S := a.1.1
  have inj := a.1.2.2.2.2.2.2.2.2.2.2.1
  have t3 : sw_ty H (sw_rv H 2 0) = 96 := by rw [o2]; exact S.1
  unfold wm_32
  refine ⟨t3, ?_⟩
  intro q1' e1
  rw [e1, o2]
  refine c_numbered a (fun hno _ _ => ⟨fun _ => q0 (fun w t hw => by rw [hno] at hw; cases hw), fun h => absurd rfl h⟩) (fun w t hw ht hd _ _ => ⟨fun h0 => by have := ht.1; omega, fun _ => ⟨fun c => q0 (fun w t _ _ _ b => by omega), fun c => ⟨t3, ?_⟩⟩⟩)
  intro q12 e12
  rw [e12, o2]
  refine c_lengthOf s ht.2 (fun _ _ => ⟨fun c2 => ⟨t3, ?_⟩, fun c2 => q0 (fun w' t' hw' ht' hd' b => ?_)⟩)
  · intro q20 e20
    rw [e20, o2]
    have r := a.1.2.2.2.2.2.2.2.2.2.1 t ht
    have r4 := r.2.1
    have r5 := r.2.2.1
    have r6 := r.2.2.2.1
    have r7 := r.2.2.2.2.1
    clear r
    have ul := a.1.2.2.2.2.2.1
    have sl := S.2.2.2.2.2.2.2.1
    unfold wm_127
    refine ⟨S.2.2.1, ?_⟩
    intro q1'' e1
    rw [e1]
    refine c_get (k := 4) (Q := fun v7 => 0 ≤ sw_w (v7 + y) ∧ sw_w (v7 + y) < sw_ln H (sw_rv H 3 3) ∧ ∀ v10, v10 = sw_iv H (sw_rv H 3 3) (sw_w (v7 + y)).toNat → sw_c v10 → sw_c v10 → sw_ext H H → wm_128 2 v10 H (fun z31 H28 => sw_c z31 → sw_ext H H28 → P z31 H28)) s ht.2 (by decide) ?_
    rw [sw_w_s (by omega) (by omega)]
    refine ⟨by omega, by omega, ?_⟩
    intro v10 e10 _ _ _
    have hs : (c_sn H t)[y.toNat]? = some v10 := by
      unfold c_sn
      rw [m_sl_at (by omega), e10]
      congr 2
      omega
    have hm := List.mem_of_getElem? hs
    have ht2 := ht.2
    refine c_tellSign h rm (m_vs_up (by omega) (r7 _ hm)) (fun Y aY FY qY ex _ _ => ?_)
    exact q1 w t v10 Y hw ht hd c c2 hs (c_I_ex h aY FY qY ex) (c_ft_ch ex.1)
  · rw [hw] at hw'
    cases hw'
    have := inj t t' ht ht' (hd.trans hd'.symm)
    rw [← this] at b
    omega
theorem c_term (h : c_I H d nn K tl tp rd ms cn cs) (rm : c_rmN H) (q0 : (w_no tl x = none ∨ y < 0 ∨ 4 < y) → P (-1) H) (qs : ∀ w t, w_no tl x = some w → c_R H t → d t = w → y = 0 → P (c_d H t 0) H) (q1 : ∀ w t Y, w_no tl x = some w → c_R H t → d t = w → y = 1 → c_I Y d nn K (w_tp tl (w_dz d (c_d H t 1))).2 tp rd ms cn cs → c_ch [] H Y → P (w_tp tl (w_dz d (c_d H t 1))).1 Y) (q2l : ∀ w t, w_no tl x = some w → c_R H t → d t = w → y = 2 → c_d H t 0 = 3 → P (c_d H t 2) H) (q2 : ∀ w t Y, w_no tl x = some w → c_R H t → d t = w → y = 2 → c_d H t 0 ≠ 3 → c_I Y d nn K (w_tp tl (w_dz d (c_d H t 2))).2 tp rd ms cn cs → c_ch [] H Y → P (w_tp tl (w_dz d (c_d H t 2))).1 Y) (q3 : ∀ w t Y, w_no tl x = some w → c_R H t → d t = w → y = 3 → c_I Y d nn K (w_tp tl (w_dz d (c_d H t 3))).2 tp rd ms cn cs → c_ch [] H Y → P (w_tp tl (w_dz d (c_d H t 3))).1 Y) (q4 : ∀ w t, w_no tl x = some w → c_R H t → d t = w → y = 4 → P (c_d H t 5) H) : wm_30 2 x y H P := by
  have h' := h
  obtain ⟨a, F, q, fl, ad, O, hP, hY, hM⟩ := h'
  obtain ⟨o1, o2, o3, o4, o5, o6, o7, o8, o9, o10, o11, o12, o13, o14, o15⟩ := O
  have s := c_A_sh a
  have S := a.1.1
  have t3 : sw_ty H (sw_rv H 2 0) = 96 := by rw [o2]; exact S.1
  unfold wm_30
  refine ⟨t3, ?_⟩
  intro q29 e29
  rw [e29, o2]
  refine c_numbered a (fun hno _ _ => ⟨fun h => absurd rfl h, fun _ => q0 (Or.inl hno)⟩) (fun w t hw ht hd _ _ => ⟨fun _ => ?_, fun h0 => by have := ht.1; omega⟩)
  have v := (a.1.2.2.2.2.2.2.2.2.2.1 t ht).1
  have v3 := v.2.2.1
  have v4 := v.2.2.2.1
  have v5 := v.2.2.2.2.1
  have v6 := v.2.2.2.2.2.1
  have v7 := v.2.2.2.2.2.2.1
  have v9 := v.2.2.2.2.2.2.2.2.1
  clear v
  have ht2 := ht.2
  refine ⟨fun c => q0 (Or.inr c), fun c => ⟨t3, ?_⟩, fun c => ⟨t3, ?_⟩, fun c => ⟨t3, ?_⟩, fun c => ⟨t3, ?_⟩, fun c => ⟨t3, ?_⟩⟩
  · intro q41 e41
    rw [e41, o2]
    exact c_sortOf s ht.2 (fun _ _ => qs w t hw ht hd c)
  · intro q49 e49
    refine ⟨t3, ?_⟩
    intro q52 e52
    rw [e52, e49, o2]
    refine c_firstOf s ht.2 (fun _ _ => ?_)
    exact c_tellp a F q rm v3 (by omega) (fun Y aY FY qY ex _ _ => q1 w t Y hw ht hd c (c_I_ex h aY FY qY ex) (c_ft_ch ex.1))
  · intro q65 e65
    rw [e65, o2]
    refine c_sortOf s ht.2 (fun _ _ => ⟨fun c3 => ?_, fun c3 => ?_⟩)
    · unfold wb_30_33
      refine ⟨fun _ => ⟨t3, ?_⟩, fun h => absurd rfl h⟩
      intro q4 e4
      refine ⟨t3, ?_⟩
      intro q7 e7
      rw [e7, e4, o2]
      refine c_secondOf s ht.2 (fun _ _ => ?_)
      exact c_tellp a F q rm v7 (by have := v9 c3; omega) (fun Y aY FY qY ex _ _ => q2 w t Y hw ht hd c c3 (c_I_ex h aY FY qY ex) (c_ft_ch ex.1))
    · unfold wb_30_33
      refine ⟨fun h => absurd h (by decide), fun _ => ⟨t3, ?_⟩⟩
      intro q20 e20
      rw [e20, o2]
      exact c_secondOf s ht.2 (fun _ _ => q2l w t hw ht hd c c3)
  · intro q74 e74
    refine ⟨t3, ?_⟩
    intro q77 e77
    rw [e77, e74, o2]
    refine c_thirdOf s ht.2 (fun _ _ => ?_)
    exact c_tellp a F q rm v5 (by omega) (fun Y aY FY qY ex _ _ => q3 w t Y hw ht hd c (c_I_ex h aY FY qY ex) (c_ft_ch ex.1))
  · intro q90 e90
    rw [e90, o2]
    exact c_lengthOf s ht.2 (fun _ _ => q4 w t hw ht hd c)
end
end
