/-! ===== the class: copy, keepMessage, post ===== -/
noncomputable section
section
variable {H G X Y Z : sw_H} {d e : Nat → Wt} {nn : Nat} {K : Wt → Prop} {tl tp : List Wt} {ms : List (List Wt)} {rd : Nat → Int} {t : Nat} {x y z m cn cs cn' cs' : Int} {Q : sw_H → Prop} {P : Int → sw_H → Prop} {E : Nat → sw_H → Prop} {A B : List Nat}
theorem w_cpy_len (l : List Wt) (h0 : 0 ≤ x) (h1 : 0 ≤ y) (h2 : x ≤ l.length) : ((w_cpy l x y).length : Int) = if l.length - x < y then l.length - x else y := by
  unfold w_cpy
  rw [List.length_take, List.length_drop]
  split <;> omega
theorem c_copy (h : c_I H d nn K tl tp rd ms cn cs) (hz : sw_c z) (q0 : (∀ l, ¬ (0 ≤ x ∧ ms[x.toNat]? = some l ∧ 0 ≤ y ∧ 0 ≤ z ∧ y ≤ l.length ∧ tp.length + (w_cpy l y z).length ≤ 1200)) → P (-1) H) (q1 : ∀ l G, 0 ≤ x → ms[x.toNat]? = some l → 0 ≤ y → 0 ≤ z → y ≤ l.length → tp.length + (w_cpy l y z).length ≤ 1200 → c_I G d nn K tl (tp ++ w_cpy l y z) rd ms cn cs → c_ch [1417, 1418] H G → P ((tp ++ w_cpy l y z).length : Nat) G) : wm_10 2 x y z H P := by
  have h' := h
  obtain ⟨A, F, q, fl, ad, O, hP, hY, hM⟩ := h'
  obtain ⟨s, p1, p2, p3⟩ := hP.1
  have el : s.length = tp.length := by rw [← p3, List.length_map]
  obtain ⟨o1, o2, o3, o4, o5, r5, o7, o8, o9, o10, o11, o12, o13, o14, o15⟩ := O
  have O := h.2.2.2.2.2.1
  have p5 := p1.2.2.2.2.1
  have pc := hP.2
  have m3 := hM.2.1
  unfold wm_10
  refine c_isMessage hM (fun c _ _ => ⟨fun _ => q0 (fun l ⟨b1, b2, _⟩ => ?_), fun h => absurd rfl h⟩) (fun l h0 h1 hl _ _ => ⟨fun h => absurd h (by decide), fun _ => ⟨fun c => q0 (fun l b => by omega), fun c => ⟨fun c1 => q0 (fun l b => by omega), fun c1 => ⟨by rw [o5]; exact o14, ?_⟩⟩⟩⟩)
  · have := (List.getElem?_eq_some_iff.mp b2).1
    omega
  intro q6 e6
  rw [e6, o5]
  obtain ⟨b, g1, g2, g3, g4, g5, g6⟩ := c_M_at hM h0 hl
  have sl := c_sg_len g6
  have g6' := g6
  obtain ⟨s2, k1, k2, k3⟩ := g6'
  have el2 : s2.length = l.length := by rw [← k3, List.length_map]
  refine ⟨h0, by rw [o15]; omega, k1.1, ?_⟩
  intro q9 e9 v12 e12 _
  rw [e9, sl.1] at e12
  subst e12
  refine ⟨fun c2 => ⟨o14, ?_⟩, fun c2 => q0 (fun l' ⟨b1, b2, b3, b4, b5, b6⟩ => ?_)⟩
  · intro q15 e15
    rw [e15]
    refine ⟨h0, by rw [o15]; omega, k1.1, ?_⟩
    intro q18 e18 v21 e21 _
    rw [e18, sl.1] at e21
    subst e21
    unfold sw_c at hz
    rw [sw_w_s (z := (l.length : Int) - y) (by omega) (by omega)]
    have lw := w_cpy_len (x := y) (y := z) l c c1 c2
    refine c_min ?_
    rw [← lw]
    intro _ _
    refine ⟨by rw [r5]; exact p1.1, ?_⟩
    intro q32 e32 v35 e35 _
    rw [e32, r5, p1.2.2.2.1, el] at e35
    subst e35
    have lw2 : (w_cpy l y z).length ≤ 1200 := by
      have : (w_cpy l y z).length ≤ l.length := by
        unfold w_cpy
        rw [List.length_take, List.length_drop]
        omega
      omega
    rw [sw_w_s (z := (tp.length : Int) + (w_cpy l y z).length) (by omega) (by omega)]
    refine ⟨fun c3 => ⟨by rw [r5]; exact p1.1, ?_⟩, fun c3 => q0 (fun l' ⟨b1, b2, b3, b4, b5, b6⟩ => ?_)⟩
    · intro q38 e38
      refine ⟨by rw [o5]; exact o14, ?_⟩
      intro q41 e41
      rw [e41, e38, r5, o5]
      refine ⟨h0, by rw [o15]; omega, k1.1, ?_⟩
      intro q44 e44
      rw [e44, sw_w_s (by omega) (by omega)]
      have hle : y + (w_cpy l y z).length ≤ (l.length : Int) := by
        rw [lw]
        split <;> omega
      refine c_putAll p1 k1 (by omega) c (by omega) (by rw [el2]; exact hle) (by rw [el, pc]; omega) (fun G rG fG _ => ?_)
      rw [show y + ((w_cpy l y z).length : Int) - y = (w_cpy l y z).length by omega, Int.toNat_natCast] at rG
      obtain ⟨y1, y2, y3, y4, y5, y6, y7⟩ := c_I_fr h fG (by simp)
      have cp : ((s2.drop y.toNat).take (w_cpy l y z).length).map (w_sg d) = w_cpy l y z := by
        rw [List.map_take, List.map_drop, k3]
        unfold w_cpy
        rw [List.length_take, List.length_drop]
        rw [List.take_eq_take_iff, List.length_drop]
        omega
      have ln : (s ++ (s2.drop y.toNat).take (w_cpy l y z).length).length = (tp ++ w_cpy l y z).length := by
        rw [← List.length_map (f := w_sg d), List.map_append, p3, cp]
      refine ⟨by rw [fG.2.2.2.2.1, r5]; exact rG.1, ?_⟩
      intro q52 e52 v55 e55 _
      rw [fG.2.2.2.2.1, r5] at e52
      rw [e52, rG.2.2.2.1, ln] at e55
      rw [e55]
      refine q1 l G h0 hl c c1 c2 (by omega) ⟨y1, y2, y3, y4, y5, c_O_ch O y6 ad fl (by simp), ⟨⟨_, rG, fun u hu => ?_, ?_⟩, by rw [fG.2.2.2.1]; exact pc⟩, c_Y_ch hY y6 ad (by simp), c_M_ch hM y6 ad fl (by simp) (by simp) (by simp) (by omega) (fun _ _ => rfl)⟩ y6
      · rw [y7]
        rw [List.mem_append] at hu
        rcases hu with hu | hu
        · exact p2 u hu
        · exact k2 u (List.mem_of_mem_drop (List.mem_of_mem_take hu))
      · rw [List.map_append, p3, cp]
    · rw [hl] at b2
      cases b2
      omega
  · rw [hl] at b2
    cases b2
    omega
/-- a message is kept: its row is new -/
theorem c_keep {r a : Nat} {l : List Wt} (h : c_I H d nn K tl tp rd ms cn cs) (hr : c_sg H d r a l) (r1 : r ≤ 1491) (hl : l.length ≤ 1200) (h3 : ms.length < 300) (m1 : sw_n H + 2 ≤ sxlim.1) (m2 : sw_s H + 2 + l.length ≤ sxlim.2) (k : ∀ G, c_I G d nn K tl tp rd (ms ++ [l]) (cn + 2) (cs + 2 + l.length) → c_ch [2, 1416] H G → (∀ f, f ≠ 4 → sw_iv G 2 f = sw_iv H 2 f) → (∀ f, sw_iv G 3 f = sw_iv H 3 f) → P ms.length G) : wm_240 2 r H P := by
  have h' := h
  obtain ⟨A, F, q, fl, ad, O, hP, hY, hM⟩ := h'
  obtain ⟨s, p1, p2, p3⟩ := hr
  have el : s.length = l.length := by rw [← p3, List.length_map]
  have ne : ∀ c, sw_ty H c ≠ 0 → c < sw_n H + 2 := fun c hc => by
    rcases Nat.lt_or_ge c (sw_n H + 2) with q | q
    · exact q
    · exact absurd (F c q) hc
  have nr := ne r (by rw [p1.1]; decide)
  have na := ne a (by rw [p1.2.2.1]; decide)
  have n91 := ne 1491 (fl 1491 (by decide) (by decide))
  unfold wm_240
  refine ⟨by omega, by omega, ?_⟩
  intro H1 e1 _ v5 e5 _
  have e5 : v5 = l.length := by
    rw [e5, e1, c_nw_iv, if_neg (by omega), p1.2.2.2.1, el]
  subst e5
  have F1 : c_F H1 := by rw [e1]; exact c_nw_F F _ _ _
  have n1 : sw_n H1 = sw_n H + 1 := by rw [e1]; rfl
  have s1 : sw_s H1 = sw_s H + 2 := by rw [e1]; rfl
  -- the array
  have arr : ∀ (R : sw_H → Prop), (∀ G, sw_n G = sw_n H + 2 → sw_s G = sw_s H + 2 + l.length → (∀ c, sw_ty G c = if c = sw_n H + 3 then 1 else if c = sw_n H + 2 then 80 else sw_ty H c) → (∀ c, sw_ln G c = if c = sw_n H + 3 then l.length else if c = sw_n H + 2 then 2 else sw_ln H c) → (∀ c f, sw_iv G c f = if c = sw_n H + 3 ∨ c = sw_n H + 2 then 0 else sw_iv H c f) → (∀ c f, sw_rv G c f = if c = sw_n H + 2 ∧ f = 0 then sw_n H + 3 else if c = sw_n H + 3 ∨ c = sw_n H + 2 then 0 else sw_rv H c f) → R G) → wm_51 (sw_n H + 2) l.length H1 R := by
    intro R kR
    have go : wb_51_8 R (l.length : Int) (sw_n H + 2) H1 := by
      unfold wb_51_8
      refine ⟨by omega, by omega, by omega, by rw [s1, Int.toNat_natCast]; omega, ?_⟩
      intro H2 e2 _ H5 eH5
      rw [Int.toNat_natCast] at e2
      have n2 : sw_n H1 + 2 = sw_n H + 3 := by omega
      refine kR H5 (by rw [eH5, e2]; show sw_n H1 + 1 = _; omega) (by rw [eH5, e2]; show sw_s H1 + l.length = _; omega) (fun c => ?_) (fun c => ?_) (fun c f => ?_) (fun c f => ?_)
      · rw [eH5, e2]
        show (if c = sw_n H1 + 2 then 1 else sw_ty H1 c) = _
        rw [n2, e1]
        rfl
      · rw [eH5, e2]
        show (if c = sw_n H1 + 2 then l.length else sw_ln H1 c) = _
        rw [n2, e1]
        rfl
      · rw [eH5, e2]
        show (if c = sw_n H1 + 2 then 0 else sw_iv H1 c f) = _
        rw [n2, e1, c_nw_iv]
        by_cases c1 : c = sw_n H + 3
        · rw [if_pos c1, if_pos (Or.inl c1)]
        · rw [if_neg c1]
          by_cases c2 : c = sw_n H + 2
          · rw [if_pos c2, if_pos (Or.inr c2)]
          · rw [if_neg c2, if_neg (by omega)]
      · rw [eH5, e2, sw_rv_sr]
        by_cases c0 : c = sw_n H + 2 ∧ f = 0
        · rw [if_pos c0, if_pos c0, n2]
        · rw [if_neg c0, if_neg c0, c_nw_rv, n2, e1, c_nw_rv]
          by_cases c1 : c = sw_n H + 3
          · rw [if_pos c1, if_pos (Or.inl c1)]
          · rw [if_neg c1]
            by_cases c2 : c = sw_n H + 2
            · rw [if_pos c2, if_pos (Or.inr c2)]
            · rw [if_neg c2, if_neg (by omega)]
    unfold wm_51
    refine ⟨fun c => ?_, fun c => go⟩
    have : (l.length : Int) = 0 := by omega
    rw [this] at go
    exact go
  refine arr _ (fun G nG sG tG lG iG rG _ => ?_)
  intro y13 e13
  subst e13
  clear arr
  have alG : c_al [] H G := by
    refine ⟨⟨by omega, fun c hc => ?_⟩, fun c hc _ => ⟨fun f => ?_, fun f => ?_⟩⟩
    · have := ne c hc
      rw [tG, lG, if_neg (by omega), if_neg (by omega), if_neg (by omega), if_neg (by omega)]
      exact ⟨rfl, rfl⟩
    · have := ne c hc
      rw [iG, if_neg (by omega)]
    · have := ne c hc
      rw [rG, if_neg (by omega), if_neg (by omega)]
  have FG : c_F G := fun c hc => by
    rw [tG, if_neg (by omega), if_neg (by omega)]
    exact F c (by omega)
  have rowG := c_row_al p1 alG (by simp) (by simp)
  have rowN : c_row G (sw_n H + 2) (sw_n H + 3) [] := by
    refine ⟨by rw [tG, if_neg (by omega), if_pos rfl], by rw [rG, if_pos ⟨rfl, rfl⟩], by rw [tG, if_pos rfl], by rw [iG, if_pos (Or.inr rfl)]; rfl, by simp, by rw [lG, if_pos rfl]; omega, rfl⟩
  intro v17 e17 _
  rw [rowG.2.2.2.1] at e17
  subst e17
  have lnN : sw_ln G (sw_n H + 3) = l.length := by rw [lG, if_pos rfl]
  refine c_putAll rowN rowG (by omega) (by omega) (by omega) (by omega) (by rw [lnN]; simp; omega) (fun B rB fB _ => ?_)
  have e0 : ([] : List Int) ++ (s.drop (0 : Int).toNat).take ((s.length : Int) - 0).toNat = s := by
    simp
  rw [e0] at rB
  have alB : c_al [] H B := by
    have q := c_al_trans alG (c_fr_al fB)
    refine ⟨q.1, fun c hc _ => q.2 c hc ?_⟩
    have := ne c hc
    simp
    omega
  have FB := c_fr_F fB FG
  have rvB : ∀ c f, sw_ty H c ≠ 0 → sw_rv B c f = sw_rv H c f := fun c f hc => (alB.2 c hc (by simp)).2 f
  have t2 := fl 2 (by decide) (by decide)
  have t16 := fl 1416 (by decide) (by decide)
  have o5 := O.2.2.2.2.1
  have o14 := O.2.2.2.2.2.2.2.2.2.2.2.2.2.1
  have o15 := O.2.2.2.2.2.2.2.2.2.2.2.2.2.2
  refine ⟨by rw [rvB 2 3 t2, o5, (alB.1.2 1416 t16).1]; exact o14, ?_⟩
  intro q25 e25
  rw [rvB 2 3 t2, o5] at e25
  subst e25
  intro v28 e28 _
  rw [(alB.2 2 t2 (by simp)).1 4, hM.1] at e28
  subst e28
  refine ⟨by omega, by rw [(alB.1.2 1416 t16).2, o15]; omega, ?_⟩
  intro C eC v34 e34 _
  rw [Int.toNat_natCast] at eC
  have i24 : sw_iv C 2 4 = ms.length := by
    rw [eC]
    show sw_iv B 2 4 = _
    rw [(alB.2 2 t2 (by simp)).1 4, hM.1]
  rw [i24] at e34
  subst e34
  rw [sw_w_s (by omega) (by omega)]
  intro D eD v40 e40 _
  have e40 : v40 = (ms.length : Int) + 1 := by rw [e40, eD, c_si_eq]
  rw [e40, sw_w_s (by omega) (by omega), show (ms.length : Int) + 1 - 1 = ms.length by omega]
  -- all together
  have alD : c_al [2, 1416] H D := by
    refine ⟨?_, fun c hc hn => ⟨fun f => ?_, fun f => ?_⟩⟩
    · have : sw_ext B D := by
        rw [eD, eC]
        exact ⟨Nat.le_refl _, fun _ _ => ⟨rfl, rfl⟩⟩
      exact sw_ext_trans alB.1 this
    · simp at hn
      rw [eD, c_si_q hn.1, eC]
      show sw_iv B c f = _
      exact (alB.2 c hc (by simp)).1 f
    · simp at hn
      rw [eD]
      show sw_rv C c f = _
      rw [eC, sw_rv_sr, if_neg (fun e => hn.2 e.1)]
      exact (alB.2 c hc (by simp)).2 f
  have nD : sw_n D = sw_n H + 2 := by
    rw [eD, eC]
    show sw_n B = _
    rw [fB.1, nG]
  have sD : sw_s D = sw_s H + 2 + l.length := by
    rw [eD, eC]
    show sw_s B = _
    rw [fB.2.1, sG]
  have FD : c_F D := fun c hc => by
    have : sw_ty D c = sw_ty B c := by rw [eD, eC]; rfl
    rw [this]
    refine FB c ?_
    have := fB.1
    omega
  have r16 : ∀ i, sw_rv D 1416 i = if i = ms.length then sw_n H + 2 else sw_rv H 1416 i := fun i => by
    have : sw_rv D 1416 i = sw_rv C 1416 i := by rw [eD]; rfl
    rw [this, eC, sw_rv_sr]
    by_cases ci : i = ms.length
    · rw [if_pos ci, if_pos ⟨rfl, ci⟩]
    · rw [if_neg ci, if_neg (fun e => ci e.2)]
      exact rvB 1416 i t16
  have r2 : ∀ f, sw_rv D 2 f = sw_rv H 2 f := fun f => by
    have : sw_rv D 2 f = sw_rv C 2 f := by rw [eD]; rfl
    rw [this, eC, sw_rv_sr, if_neg (fun e => absurd e.1 (by decide))]
    exact rvB 2 f t2
  have i2 : ∀ f, sw_iv D 2 f = if f = 4 then (ms.length : Int) + 1 else sw_iv H 2 f := fun f => by
    rw [eD, sw_iv_si]
    by_cases cf : f = 4
    · rw [if_pos ⟨rfl, cf⟩, if_pos cf]
    · rw [if_neg (fun e => cf e.2), if_neg cf, eC]
      show sw_iv B 2 f = _
      exact (alB.2 2 t2 (by simp)).1 f
  have rowD : c_row D (sw_n H + 2) (sw_n H + 3) s := by
    obtain ⟨a1, a2, a3, a4, a5, a6, a7⟩ := rB
    have tD : ∀ c, sw_ty D c = sw_ty B c := fun c => by rw [eD, eC]; rfl
    have lD : ∀ c, sw_ln D c = sw_ln B c := fun c => by rw [eD, eC]; rfl
    have iD : ∀ c, c ≠ 2 → sw_iv D c = sw_iv B c := fun c hc => by
      funext f
      rw [eD, c_si_q hc, eC]
      rfl
    have rD : ∀ c f, c ≠ 1416 → sw_rv D c f = sw_rv B c f := fun c f hc => by
      have : sw_rv D c f = sw_rv C c f := by rw [eD]; rfl
      rw [this, eC, sw_rv_sr, if_neg (fun e => hc e.1)]
    exact ⟨by rw [tD]; exact a1, by rw [rD _ _ (by omega)]; exact a2, by rw [tD]; exact a3, by rw [iD _ (by omega)]; exact a4, by rw [lD]; exact a5, by rw [lD]; exact a6, by rw [iD _ (by omega)]; exact a7⟩
  clear eD eC
  obtain ⟨y1, y2, y3, y4, y5, y6, y7⟩ := c_I_al (cn' := cn + 2) (cs' := cs + 2 + l.length) h alD FD (by simp) (by omega) (by omega)
  have no : ∀ c, sw_n H + 2 ≤ c → ¬ c_ow D c := fun c hc o => by
    rcases (c_al_ow alD (fl 3 (by decide) (by decide)) (by simp) c).mp o with e | e
    · omega
    · have S := A.1.1
      have key : ∀ f, sw_ty H (sw_rv H 3 f) = 1 → c = sw_rv H 3 f → False := fun f hf e => by
        have := ne (sw_rv H 3 f) (by rw [hf]; decide)
        omega
      rcases e with e | e | e | e | e
      · exact key 1 S.2.1 e
      · exact key 3 S.2.2.1 e
      · exact key 5 S.2.2.2.1 e
      · exact key 6 S.2.2.2.2.1 e
      · exact key 8 S.2.2.2.2.2.1 e
  refine k D ⟨y1, y2, y3, y4, y5, ?_, c_P_ch hP y6 ad (by simp) (by simp) (by omega) (fun _ _ => rfl), c_Y_ch hY y6 ad (by simp), ?_⟩ y6 (fun f hf => by rw [i2, if_neg hf]) (alD.2 3 (fl 3 (by decide) (by decide)) (by simp)).1
  · unfold c_O at O ⊢
    rw [(y6.1.2 2 t2).1, (y6.1.2 1416 t16).1, (y6.1.2 1416 t16).2]
    simp only [r2]
    exact O
  · refine ⟨by rw [i2, if_pos rfl]; simp, by simp; omega, fun i w hw => ?_⟩
    rw [r16]
    by_cases ci : i = ms.length
    · rw [ci, List.getElem?_append_right (Nat.le_refl _), Nat.sub_self] at hw
      have hw : l = w := by simpa using hw
      subst hw
      rw [if_pos ci]
      exact ⟨by omega, no _ (Nat.le_refl _), hl, sw_n H + 3, by omega, no _ (by omega), s, rowD, by rw [y7]; exact p2, p3⟩
    · rw [if_neg ci]
      have hlt : i < (ms ++ [l]).length := (List.getElem?_eq_some_iff.mp hw).1
      rw [List.length_append, List.length_singleton] at hlt
      rw [List.getElem?_append_left (by omega)] at hw
      obtain ⟨g1, g2, g3, b, g4, g5, g6⟩ := hM.2.2 i w hw
      have tr : sw_ty H (sw_rv H 1416 i) ≠ 0 := by
        obtain ⟨s, q, _⟩ := g6
        rw [q.1]; decide
      have ta : sw_ty H b ≠ 0 := by
        obtain ⟨s, q, _⟩ := g6
        rw [q.2.2.1]; decide
      exact ⟨g1, c_ch_no y6 tr g2, g3, b, g4, c_ch_no y6 ta g5, c_sg_ch g6 y6 g2 g5 (by simp; omega) (by simp; omega) (by omega) (fun _ _ => rfl)⟩
theorem c_post (h : c_I H d nn K tl tp rd ms cn cs) (m1 : sw_n H + 2 ≤ sxlim.1) (m2 : sw_s H + 1202 ≤ sxlim.2) (q0 : ms.length = 300 → c_I (sw_nw H 120 0 6) d nn K tl tp rd ms (cn + 1) (cs + 6) → c_ch [] H (sw_nw H 120 0 6) → E (sw_n H + 2) (sw_nw H 120 0 6)) (q1 : ∀ G, ms.length < 300 → c_I G d nn K tl [] rd (ms ++ [tp]) (cn + 2) (cs + 2 + tp.length) → c_ch [2, 1416, 1417] H G → (∀ f, f ≠ 4 → sw_iv G 2 f = sw_iv H 2 f) → P ms.length G) : wm_112 2 H P E := by
  have h' := h
  obtain ⟨A, F, q, fl, ad, O, hP, hY, hM⟩ := h'
  have r5 := O.2.2.2.2.2.1
  have lt := c_sg_len hP.1
  have pc := hP.2
  have ty17 : sw_ty H 1417 = 80 := by
    obtain ⟨s, r, _⟩ := hP.1
    exact r.1
  unfold wm_112
  intro v1 e1 _
  rw [hM.1] at e1
  subst e1
  refine ⟨fun c => ⟨by rw [r5]; exact ty17, ?_⟩, fun c => ⟨by omega, by omega, ?_⟩⟩
  · intro q4 e4
    rw [e4, r5]
    refine c_keep h hP.1 (by decide) (by omega) (by omega) m1 (by omega) (fun G hG ch i2 _ _ _ => ?_)
    have O2 := hG.2.2.2.2.2.1
    have hP2 := hG.2.2.2.2.2.2.1
    obtain ⟨s, p1, p2, p3⟩ := hP2.1
    refine ⟨by rw [O2.2.2.2.2.2.1]; exact p1.1, ?_⟩
    intro q15 e15
    rw [e15, O2.2.2.2.2.2.1]
    refine c_clear p1 (fun D rD fD _ => ?_)
    obtain ⟨y1, y2, y3, y4, y5, y6, y7⟩ := c_I_fr hG fD (by simp)
    have ad2 := hG.2.2.2.2.1
    have fl2 := hG.2.2.2.1
    refine q1 D (by omega) ⟨y1, y2, y3, y4, y5, c_O_ch O2 y6 ad2 fl2 (by simp), ⟨⟨[], rD, by simp, rfl⟩, by rw [fD.2.2.2.1]; exact hP2.2⟩, c_Y_ch hG.2.2.2.2.2.2.2.1 y6 ad2 (by simp), c_M_ch hG.2.2.2.2.2.2.2.2 y6 ad2 fl2 (by simp) (by simp) (by simp) (by omega) (fun _ _ => rfl)⟩ (c_ch_sub (c_ch_trans ch y6) (by simp)) (fun f hf => ?_)
    rw [fD.2.2.2.2.2 2 (by simp)]
    exact i2 f hf
  · intro H23 e23
    rw [e23]
    have := c_I_throw h 120
    exact q0 (by have := hM.2.1; omega) this.1 this.2
end
end
