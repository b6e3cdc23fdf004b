/-! ===== the class: messages kept, once more: where they lie; lengths of ROWs ===== -/
noncomputable section
section
variable {H G X Y Z : sw_H} {d e : Nat → Wt} {nn : Nat} {K : Wt → Prop} {tl tp : List Wt} {ms : List (List Wt)} {rd : Nat → Int} {t : Nat} {x y z m cn cs cn' cs' : Int} {Q : sw_H → Prop} {P : Int → sw_H → Prop} {E : Nat → sw_H → Prop} {A B : List Nat}
theorem c_keep2 {r a : Nat} {l : List Wt} (h : c_I H d nn K tl tp rd ms cn cs) (hr : c_sg H d r a l) (r1 : r ≤ 1491) (hl : l.length ≤ 1200) (h3 : ms.length < 300) (m1 : sw_n H + 2 ≤ sxlim.1) (m2 : sw_s H + 2 + l.length ≤ sxlim.2) (k : ∀ G, c_I G d nn K tl tp rd (ms ++ [l]) (cn + 2) (cs + 2 + l.length) → c_ch [2, 1416] H G → (∀ f, f ≠ 4 → sw_iv G 2 f = sw_iv H 2 f) → (∀ f, sw_iv G 3 f = sw_iv H 3 f) → (∀ i, sw_rv G 1416 i = if i = ms.length then sw_n H + 2 else sw_rv H 1416 i) → sw_rv G (sw_n H + 2) 0 = sw_n H + 3 → P ms.length G) : wm_240 2 r H P := by
  have h' := h
  obtain ⟨A, F, q, fl, ad, O, hP, hY, hM⟩ := h'
  obtain ⟨s, p1, p2, p3⟩ := hr
  have el : s.length = l.length := by rw [← p3, List.length_map]
  have ne : ∀ c, sw_ty H c ≠ 0 → c < sw_n H + 2 := fun c hc => by
    rcases Nat.lt_or_ge c (sw_n H + 2) with q | q
    · exact q
    · exact absurd (F c q) hc
  have nr := ne r (by rw [p1.1]; decide)
  have na := ne a (by rw [p1.2.2.1]; decide)
  have n91 := ne 1491 (fl 1491 (by decide) (by decide))
  unfold wm_240
  refine ⟨by omega, by omega, ?_⟩
  intro H1 e1 _ v5 e5 _
  have e5 : v5 = l.length := by
    rw [e5, e1, c_nw_iv, if_neg (by omega), p1.2.2.2.1, el]
  subst e5
  have F1 : c_F H1 := by rw [e1]; exact c_nw_F F _ _ _
  have n1 : sw_n H1 = sw_n H + 1 := by rw [e1]; rfl
  have s1 : sw_s H1 = sw_s H + 2 := by rw [e1]; rfl
  -- the array
  have arr : ∀ (R : sw_H → Prop), (∀ G, sw_n G = sw_n H + 2 → sw_s G = sw_s H + 2 + l.length → (∀ c, sw_ty G c = if c = sw_n H + 3 then 1 else if c = sw_n H + 2 then 80 else sw_ty H c) → (∀ c, sw_ln G c = if c = sw_n H + 3 then l.length else if c = sw_n H + 2 then 2 else sw_ln H c) → (∀ c f, sw_iv G c f = if c = sw_n H + 3 ∨ c = sw_n H + 2 then 0 else sw_iv H c f) → (∀ c f, sw_rv G c f = if c = sw_n H + 2 ∧ f = 0 then sw_n H + 3 else if c = sw_n H + 3 ∨ c = sw_n H + 2 then 0 else sw_rv H c f) → R G) → wm_51 (sw_n H + 2) l.length H1 R := by
    intro R kR
    have go : wb_51_8 R (l.length : Int) (sw_n H + 2) H1 := by
      unfold wb_51_8
      refine ⟨by omega, by omega, by omega, by rw [s1, Int.toNat_natCast]; omega, ?_⟩
      intro H2 e2 _ H5 eH5
      rw [Int.toNat_natCast] at e2
      have n2 : sw_n H1 + 2 = sw_n H + 3 := by omega
      refine kR H5 (by rw [eH5, e2]; show sw_n H1 + 1 = _; omega) (by rw [eH5, e2]; show sw_s H1 + l.length = _; omega) (fun c => ?_) (fun c => ?_) (fun c f => ?_) (fun c f => ?_)
      · rw [eH5, e2]
        show (if c = sw_n H1 + 2 then 1 else sw_ty H1 c) = _
        rw [n2, e1]
        rfl
      · rw [eH5, e2]
        show (if c = sw_n H1 + 2 then l.length else sw_ln H1 c) = _
        rw [n2, e1]
        rfl
      · rw [eH5, e2]
        show (if c = sw_n H1 + 2 then 0 else sw_iv H1 c f) = _
        rw [n2, e1, c_nw_iv]
        by_cases c1 : c = sw_n H + 3
        · rw [if_pos c1, if_pos (Or.inl c1)]
        · rw [if_neg c1]
          by_cases c2 : c = sw_n H + 2
          · rw [if_pos c2, if_pos (Or.inr c2)]
          · rw [if_neg c2, if_neg (by omega)]
      · rw [eH5, e2, sw_rv_sr]
        by_cases c0 : c = sw_n H + 2 ∧ f = 0
        · rw [if_pos c0, if_pos c0, n2]
        · rw [if_neg c0, if_neg c0, c_nw_rv, n2, e1, c_nw_rv]
          by_cases c1 : c = sw_n H + 3
          · rw [if_pos c1, if_pos (Or.inl c1)]
          · rw [if_neg c1]
            by_cases c2 : c = sw_n H + 2
            · rw [if_pos c2, if_pos (Or.inr c2)]
            · rw [if_neg c2, if_neg (by omega)]
    unfold wm_51
    refine ⟨fun c => ?_, fun c => go⟩
    have : (l.length : Int) = 0 := by omega
    rw [this] at go
    exact go
  refine arr _ (fun G nG sG tG lG iG rG _ => ?_)
  intro y13 e13
  subst e13
  clear arr
  have alG : c_al [] H G := by
    refine ⟨⟨by omega, fun c hc => ?_⟩, fun c hc _ => ⟨fun f => ?_, fun f => ?_⟩⟩
    · have := ne c hc
      rw [tG, lG, if_neg (by omega), if_neg (by omega), if_neg (by omega), if_neg (by omega)]
      exact ⟨rfl, rfl⟩
    · have := ne c hc
      rw [iG, if_neg (by omega)]
    · have := ne c hc
      rw [rG, if_neg (by omega), if_neg (by omega)]
  have FG : c_F G := fun c hc => by
    rw [tG, if_neg (by omega), if_neg (by omega)]
    exact F c (by omega)
  have rowG := c_row_al p1 alG (by simp) (by simp)
  have rowN : c_row G (sw_n H + 2) (sw_n H + 3) [] := by
    refine ⟨by rw [tG, if_neg (by omega), if_pos rfl], by rw [rG, if_pos ⟨rfl, rfl⟩], by rw [tG, if_pos rfl], by rw [iG, if_pos (Or.inr rfl)]; rfl, by simp, by rw [lG, if_pos rfl]; omega, rfl⟩
  intro v17 e17 _
  rw [rowG.2.2.2.1] at e17
  subst e17
  have lnN : sw_ln G (sw_n H + 3) = l.length := by rw [lG, if_pos rfl]
  refine c_putAll rowN rowG (by omega) (by omega) (by omega) (by omega) (by rw [lnN]; simp; omega) (fun B rB fB _ => ?_)
  have e0 : ([] : List Int) ++ (s.drop (0 : Int).toNat).take ((s.length : Int) - 0).toNat = s := by
    simp
  rw [e0] at rB
  have alB : c_al [] H B := by
    have q := c_al_trans alG (c_fr_al fB)
    refine ⟨q.1, fun c hc _ => q.2 c hc ?_⟩
    have := ne c hc
    simp
    omega
  have FB := c_fr_F fB FG
  have rvB : ∀ c f, sw_ty H c ≠ 0 → sw_rv B c f = sw_rv H c f := fun c f hc => (alB.2 c hc (by simp)).2 f
  have t2 := fl 2 (by decide) (by decide)
  have t16 := fl 1416 (by decide) (by decide)
  have o5 := O.2.2.2.2.1
  have o14 := O.2.2.2.2.2.2.2.2.2.2.2.2.2.1
  have o15 := O.2.2.2.2.2.2.2.2.2.2.2.2.2.2
  refine ⟨by rw [rvB 2 3 t2, o5, (alB.1.2 1416 t16).1]; exact o14, ?_⟩
  intro q25 e25
  rw [rvB 2 3 t2, o5] at e25
  subst e25
  intro v28 e28 _
  rw [(alB.2 2 t2 (by simp)).1 4, hM.1] at e28
  subst e28
  refine ⟨by omega, by rw [(alB.1.2 1416 t16).2, o15]; omega, ?_⟩
  intro C eC v34 e34 _
  rw [Int.toNat_natCast] at eC
  have i24 : sw_iv C 2 4 = ms.length := by
    rw [eC]
    show sw_iv B 2 4 = _
    rw [(alB.2 2 t2 (by simp)).1 4, hM.1]
  rw [i24] at e34
  subst e34
  rw [sw_w_s (by omega) (by omega)]
  intro D eD v40 e40 _
  have e40 : v40 = (ms.length : Int) + 1 := by rw [e40, eD, c_si_eq]
  rw [e40, sw_w_s (by omega) (by omega), show (ms.length : Int) + 1 - 1 = ms.length by omega]
  -- all together
  have alD : c_al [2, 1416] H D := by
    refine ⟨?_, fun c hc hn => ⟨fun f => ?_, fun f => ?_⟩⟩
    · have : sw_ext B D := by
        rw [eD, eC]
        exact ⟨Nat.le_refl _, fun _ _ => ⟨rfl, rfl⟩⟩
      exact sw_ext_trans alB.1 this
    · simp at hn
      rw [eD, c_si_q hn.1, eC]
      show sw_iv B c f = _
      exact (alB.2 c hc (by simp)).1 f
    · simp at hn
      rw [eD]
      show sw_rv C c f = _
      rw [eC, sw_rv_sr, if_neg (fun e => hn.2 e.1)]
      exact (alB.2 c hc (by simp)).2 f
  have nD : sw_n D = sw_n H + 2 := by
    rw [eD, eC]
    show sw_n B = _
    rw [fB.1, nG]
  have sD : sw_s D = sw_s H + 2 + l.length := by
    rw [eD, eC]
    show sw_s B = _
    rw [fB.2.1, sG]
  have FD : c_F D := fun c hc => by
    have : sw_ty D c = sw_ty B c := by rw [eD, eC]; rfl
    rw [this]
    refine FB c ?_
    have := fB.1
    omega
  have r16 : ∀ i, sw_rv D 1416 i = if i = ms.length then sw_n H + 2 else sw_rv H 1416 i := fun i => by
    have : sw_rv D 1416 i = sw_rv C 1416 i := by rw [eD]; rfl
    rw [this, eC, sw_rv_sr]
    by_cases ci : i = ms.length
    · rw [if_pos ci, if_pos ⟨rfl, ci⟩]
    · rw [if_neg ci, if_neg (fun e => ci e.2)]
      exact rvB 1416 i t16
  have r2 : ∀ f, sw_rv D 2 f = sw_rv H 2 f := fun f => by
    have : sw_rv D 2 f = sw_rv C 2 f := by rw [eD]; rfl
    rw [this, eC, sw_rv_sr, if_neg (fun e => absurd e.1 (by decide))]
    exact rvB 2 f t2
  have i2 : ∀ f, sw_iv D 2 f = if f = 4 then (ms.length : Int) + 1 else sw_iv H 2 f := fun f => by
    rw [eD, sw_iv_si]
    by_cases cf : f = 4
    · rw [if_pos ⟨rfl, cf⟩, if_pos cf]
    · rw [if_neg (fun e => cf e.2), if_neg cf, eC]
      show sw_iv B 2 f = _
      exact (alB.2 2 t2 (by simp)).1 f
  have rowD : c_row D (sw_n H + 2) (sw_n H + 3) s := by
    obtain ⟨a1, a2, a3, a4, a5, a6, a7⟩ := rB
    have tD : ∀ c, sw_ty D c = sw_ty B c := fun c => by rw [eD, eC]; rfl
    have lD : ∀ c, sw_ln D c = sw_ln B c := fun c => by rw [eD, eC]; rfl
    have iD : ∀ c, c ≠ 2 → sw_iv D c = sw_iv B c := fun c hc => by
      funext f
      rw [eD, c_si_q hc, eC]
      rfl
    have rD : ∀ c f, c ≠ 1416 → sw_rv D c f = sw_rv B c f := fun c f hc => by
      have : sw_rv D c f = sw_rv C c f := by rw [eD]; rfl
      rw [this, eC, sw_rv_sr, if_neg (fun e => hc e.1)]
    exact ⟨by rw [tD]; exact a1, by rw [rD _ _ (by omega)]; exact a2, by rw [tD]; exact a3, by rw [iD _ (by omega)]; exact a4, by rw [lD]; exact a5, by rw [lD]; exact a6, by rw [iD _ (by omega)]; exact a7⟩
  clear eD eC
  obtain ⟨y1, y2, y3, y4, y5, y6, y7⟩ := c_I_al (cn' := cn + 2) (cs' := cs + 2 + l.length) h alD FD (by simp) (by omega) (by omega)
  have no : ∀ c, sw_n H + 2 ≤ c → ¬ c_ow D c := fun c hc o => by
    rcases (c_al_ow alD (fl 3 (by decide) (by decide)) (by simp) c).mp o with e | e
    · omega
    · have S := A.1.1
      have key : ∀ f, sw_ty H (sw_rv H 3 f) = 1 → c = sw_rv H 3 f → False := fun f hf e => by
        have := ne (sw_rv H 3 f) (by rw [hf]; decide)
        omega
      rcases e with e | e | e | e | e
      · exact key 1 S.2.1 e
      · exact key 3 S.2.2.1 e
      · exact key 5 S.2.2.2.1 e
      · exact key 6 S.2.2.2.2.1 e
      · exact key 8 S.2.2.2.2.2.1 e
  refine k D ⟨y1, y2, y3, y4, y5, ?_, c_P_ch hP y6 ad (by simp) (by simp) (by omega) (fun _ _ => rfl), c_Y_ch hY y6 ad (by simp), ?_⟩ y6 (fun f hf => by rw [i2, if_neg hf]) (alD.2 3 (fl 3 (by decide) (by decide)) (by simp)).1 r16 rowD.2.1
  · unfold c_O at O ⊢
    rw [(y6.1.2 2 t2).1, (y6.1.2 1416 t16).1, (y6.1.2 1416 t16).2]
    simp only [r2]
    exact O
  · refine ⟨by rw [i2, if_pos rfl]; simp, by simp; omega, fun i w hw => ?_⟩
    rw [r16]
    by_cases ci : i = ms.length
    · rw [ci, List.getElem?_append_right (Nat.le_refl _), Nat.sub_self] at hw
      have hw : l = w := by simpa using hw
      subst hw
      rw [if_pos ci]
      exact ⟨by omega, no _ (Nat.le_refl _), hl, sw_n H + 3, by omega, no _ (by omega), s, rowD, by rw [y7]; exact p2, p3⟩
    · rw [if_neg ci]
      have hlt : i < (ms ++ [l]).length := (List.getElem?_eq_some_iff.mp hw).1
      rw [List.length_append, List.length_singleton] at hlt
      rw [List.getElem?_append_left (by omega)] at hw
      obtain ⟨g1, g2, g3, b, g4, g5, g6⟩ := hM.2.2 i w hw
      have tr : sw_ty H (sw_rv H 1416 i) ≠ 0 := by
        obtain ⟨s, q, _⟩ := g6
        rw [q.1]; decide
      have ta : sw_ty H b ≠ 0 := by
        obtain ⟨s, q, _⟩ := g6
        rw [q.2.2.1]; decide
      exact ⟨g1, c_ch_no y6 tr g2, g3, b, g4, c_ch_no y6 ta g5, c_sg_ch g6 y6 g2 g5 (by simp; omega) (by simp; omega) (by omega) (fun _ _ => rfl)⟩
end
variable {H G X Y : sw_H} {d e f : Nat → Wt} {nn nm r ra g m : Nat} {K K' : Wt → Prop} {tl tl' tp mk mm l : List Wt} {ms : List (List Wt)} {rd : Nat → Int} {s a b c x cn cs cn' cs' N U M wo : Int} {Q : sw_H → Prop} {P : Int → sw_H → Prop} {E : Nat → sw_H → Prop} {A B : List Nat} {w wa wb : Wt} {T : w_T}
/-- the message n lies in new cells, the others where they were -/
def c_nwm (H G : sw_H) (n : Nat) : Prop := (∀ i, i ≠ n → sw_rv G 1416 i = sw_rv H 1416 i) ∧ sw_ty H (sw_rv G 1416 n) = 0 ∧ sw_ty H (sw_rv G (sw_rv G 1416 n) 0) = 0
theorem c_nwm_of {Z : sw_H} {n : Nat} (hV : c_V H mk nn K tl cn cs) (hZ : c_V Z mk nm K' tl' cn' cs') (c : c_ch [] H Z) (nr : ∀ i, sw_rv G 1416 i = if i = n then sw_n Z + 2 else sw_rv Z 1416 i) (na : sw_rv G (sw_n Z + 2) 0 = sw_n Z + 3) : c_nwm H G n := by
  have un : ∀ a, sw_ty Z a = 0 → sw_ty H a = 0 := fun a h => Decidable.byContradiction (fun g => by
    have := (c.1.2 a g).1
    rw [h] at this
    exact g this.symm)
  have F := hZ.2.1
  refine ⟨fun i hi => ?_, ?_, ?_⟩
  · rw [nr, if_neg hi]
    exact (c_fx_iv hV.2.2.2.1 hV.2.2.2.2 c (q := 1416) (by unfold c_fix; omega) (by simp)).2 i
  · rw [nr, if_pos rfl]
    exact un _ (F _ (Nat.le_refl _))
  · rw [nr n, if_pos rfl, na]
    exact un _ (F _ (by omega))
theorem c_send2 (lm : c_lm cn cs N U M) (bd : c_bl mk tl N U M) (hW : c_W H mk nn K tl cn cs) (hX : c_X H mk tp rd ms) (hr : c_rr H mk 1420 1421 l) (hl : l.length ≤ 1200) (h3 : ms.length < 300) (q : ∀ G, c_W G mk nn (w_lrs K l) tl (cn + 2) (cs + 2 + l.length) → c_X G mk tp rd (ms ++ [l]) → c_rr G mk 1420 1421 l → c_ch [2, 1416] H G → c_nwm H G ms.length → P ms.length G) : wm_163 2 H P := by
  have lp : ∀ (n i : Nat) {Z : sw_H}, i ≤ l.length → l.length - i < n → c_W Z mk nn (w_lrs K (l.take i)) tl cn cs → c_ch [] H Z → wl_163_2 P n 2 i Z := by
    intro n
    induction n with
    | zero => intro i Z h1 h2; omega
    | succ n ih =>
      intro i Z h1 h2 WZ cZ
      have rZ := c_rr_chN hW.1 hr cZ WZ.1 (w_le_refl _) (by simp) (by simp)
      have XZ := c_X_ch hW.1 hX cZ WZ.1 (w_le_refl _) (by simp)
      have rZ' := rZ
      obtain ⟨⟨sg, g1, g2, g3⟩, g4, g5, g6⟩ := rZ
      have O := XZ.1
      have o11 : sw_rv Z 2 11 = 1420 := O.2.2.2.2.2.2.2.2.2.2.2.1
      have o0 : sw_rv Z 2 0 = 3 := O.2.1
      have ln : sg.length = l.length := by rw [← g3, List.length_map]
      unfold wl_163_2
      rw [o11, o0]
      refine ⟨g1.1, ?_⟩
      intro q5 e5 v8 e8 _
      rw [e5, g1.2.2.2.1, ln] at e8
      refine ⟨fun c => ⟨g1.1, ?_⟩, fun c => ⟨g1.1, ?_⟩⟩
      · intro q11 e11
        have ei : i = l.length := by omega
        rw [ei, List.take_length] at WZ
        rw [e11]
        have b1 := c_bl_bd WZ.1.1 bd
        have sm := c_A_sm lm WZ.1.2.2.1 WZ.1.1.1 (c_bd_le b1 (by omega) (by omega) (by omega))
        have IZ : c_I Z (w_d mk) nn (w_lrs K l) tl tp rd ms cn cs := ⟨WZ.1.1.1, WZ.1.2.1, WZ.1.2.2.1, WZ.1.2.2.2.1, WZ.1.2.2.2.2, XZ.1, XZ.2.1, XZ.2.2.1, XZ.2.2.2⟩
        refine c_keep2 IZ ⟨sg, g1, g2, g3⟩ (by omega) hl h3 (by omega) (by omega) (fun G IG cG i2 i3 nr na _ _ => ?_)
        obtain ⟨y1, y2, y3, y4, y5, y6, y7, y8, y9⟩ := IG
        have VG : c_V G mk nn (w_lrs K l) tl (cn + 2) (cs + 2 + l.length) := ⟨⟨y1, by unfold c_n; rw [i3]; exact WZ.1.1.2.1, by rw [i3]; exact WZ.1.1.2.2⟩, y2, y3, y4, y5⟩
        exact q G (c_W_chN WZ VG cG (by simp) (w_le_refl _)) ⟨y6, y7, y8, y9⟩ (c_rr_chN WZ.1 rZ' cG VG (w_le_refl _) (by simp) (by simp)) (c_ch_sub (c_ch_trans cZ cG) (by simp)) (c_nwm_of hW.1 WZ.1 cZ nr na)
      · have hi : i < l.length := by omega
        intro q19 e19
        rw [e19, g1.2.1]
        refine ⟨g1.2.2.1, ?_⟩
        intro q22 e22
        rw [e22]
        have lna := g1.2.2.2.2.1
        refine ⟨by omega, by omega, ?_⟩
        intro v25 e25 _
        rw [Int.toNat_natCast] at e25
        have sat := c_row_at g1 (k := i) (by omega)
        rw [← e25] at sat
        have smem : v25 ∈ sg := List.mem_of_getElem? sat
        have vs := g2 v25 smem
        obtain ⟨w, ew⟩ : ∃ w, l[i]? = some w := ⟨l[i], List.getElem?_eq_getElem hi⟩
        have wsg : w_sg (w_d mk) v25 = w := by
          have : l[i]? = some (w_sg (w_d mk) v25) := by rw [← g3, List.getElem?_map, sat]; rfl
          rw [ew] at this
          exact (Option.some.inj this).symm
        have nxt := w_lrs_s (K := K) ew
        rw [g6] at vs
        refine ⟨fun c1 => ?_, fun c1 => ⟨WZ.1.1.1.1.1.1, ?_⟩⟩
        · have hd : w.head? = some 1000 := by rw [← wsg]; exact w_by_head v25 _ c1
          rw [if_pos hd] at nxt
          unfold wb_163_24
          intro y1 e1
          rw [sw_w_s (by omega) (by omega)] at e1
          rw [e1, show (i : Int) + 1 = ((i + 1 : Nat) : Int) by omega]
          exact ih (i + 1) (by omega) (by omega) (by rw [nxt]; exact WZ) cZ
        · intro q28 e28
          rw [e28]
          refine ⟨g1.1, ?_⟩
          intro q31 e31
          rw [e31, g1.2.1]
          refine ⟨g1.2.2.1, ?_⟩
          intro q34 e34
          rw [e34]
          refine ⟨by omega, by omega, ?_⟩
          intro v37 e37 _
          rw [Int.toNat_natCast, ← e25] at e37
          subst e37
          have vsb : 256 ≤ v37 ∧ v37 - 256 ≤ mk.length ∧ 1 ≤ v37 - 256 := by
            unfold m_vs at vs
            omega
          have n9 := c_W_len lm bd
          rw [sw_w_s (by omega) (by omega)]
          have hat : w_at mk (v37 - 256) w := by
            have := w_at_of (mk := mk) (x := v37 - 256) (by omega) (by omega)
            unfold w_sg at wsg
            rw [if_neg (by omega)] at wsg
            rw [wsg] at this
            exact this
          have hd := c_at_head WZ.1.1 hat
          rw [if_neg hd] at nxt
          refine c_learnL WZ.1 (Or.inr hat) (fun Y VY cY _ => ?_)
          unfold w_lz at VY
          rw [if_neg (c_at_ne WZ.1.1 hat), ← nxt] at VY
          have WY := c_W_ch WZ VY cY (by simp) (w_le_refl _)
          unfold wb_163_24
          intro y1 e1
          rw [sw_w_s (by omega) (by omega)] at e1
          rw [e1, show (i : Int) + 1 = ((i + 1 : Nat) : Int) by omega]
          exact ih (i + 1) (by omega) (by omega) WY (c_ch_sub (c_ch_trans cZ cY) (by simp))
  exact ⟨l.length + 1, lp (l.length + 1) 0 (by omega) (by omega) hW (c_ch_refl _ _)⟩
theorem c_beginRow (h : c_rr H mk r ra l) (hc : l.length + 2 ≤ sw_ln H ra) (k : ∀ G, c_rr G mk r ra (l ++ w_b16 0) → c_fr [r, ra] H G → P ((l.length + 2 : Nat) : Int) G) : wm_271 r H P := by
  unfold wm_271
  refine c_s_b16 h hc (fun G R F _ => ?_)
  intro v6 e6 _
  rw [(c_rr_len R).1, List.length_append] at e6
  rw [e6]
  exact k G R F
theorem c_endRow {l1 l2 : List Wt} {x0 : Int} (h : c_rr H mk r ra (l1 ++ w_b16 x0 ++ l2)) (h16 : l2.length < 65536) (hx : x = ((l1.length + 2 : Nat) : Int)) (k : ∀ G, c_rr G mk r ra (l1 ++ w_b16 l2.length ++ l2) → c_fr [r, ra] H G → Q G) : wm_272 r x H Q := by
  have hlen := c_rr_len h
  have tot : (l1 ++ w_b16 x0 ++ l2).length = l1.length + 2 + l2.length := by rw [List.length_append, List.length_append]; rfl
  rw [tot] at hlen
  obtain ⟨⟨s, hs, hv, hm⟩, f1, f2, hn⟩ := h
  obtain ⟨t1, t2, t3, t4, t5, t6, t7⟩ := hs
  have sl : s.length = l1.length + 2 + l2.length := by rw [← tot, ← hm, List.length_map]
  have ne : r ≠ ra := c_row_ne ⟨t1, t2, t3, t4, t5, t6, t7⟩
  unfold wm_272
  refine ⟨fun c => by omega, fun c => ?_⟩
  intro v1 e1 _
  rw [hlen.1] at e1
  refine ⟨fun c1 => by omega, fun c1 => ⟨by rw [t2]; exact t3, ?_⟩⟩
  intro q4 e4 v7 e7 _
  rw [hlen.1] at e7
  rw [e4, t2, e7, hx, sw_w_s (z := ((l1.length + 2 : Nat) : Int) - 2) (by omega) (by omega)]
  refine ⟨by omega, by omega, ?_⟩
  intro H10 e10
  have iv10 : ∀ p, p ≠ ra → sw_iv H10 p = sw_iv H p := fun p hp => by funext f; rw [e10, c_si_q hp]
  refine ⟨by rw [e10]; show sw_ty H (sw_rv H r 0) = 1; rw [t2]; exact t3, ?_⟩
  intro q13 e13 v16 e16 _
  have e13 : q13 = ra := by rw [e13, e10]; exact t2
  rw [iv10 r ne, hlen.1] at e16
  rw [e13, e16, sw_w_s (z := ((l1.length + 2 : Nat) : Int) - 1) (by omega) (by omega)]
  refine ⟨by omega, by rw [e10]; show _ < ((sw_ln H ra : Nat) : Int); omega, ?_⟩
  intro H19 e19
  rw [sw_w_s (by omega) (by omega)] at e19 e10
  rw [sw_and_255] at e19
  rw [sw_hi] at e10
  have d2 : (((l1.length + 2 + l2.length : Nat) : Int) - ((l1.length + 2 : Nat) : Int)) = (l2.length : Int) := by omega
  rw [d2] at e19 e10
  have p1 : (((l1.length + 2 : Nat) : Int) - 2).toNat = l1.length := by omega
  have p2 : (((l1.length + 2 : Nat) : Int) - 1).toNat = l1.length + 1 := by omega
  rw [p2] at e19
  rw [p1] at e10
  have fra : c_fr [ra] H H10 := by rw [e10]; exact c_fr_si _ _ _ _
  have frb : c_fr [ra] H10 H19 := by rw [e19]; exact c_fr_si _ _ _ _
  have fr : c_fr [r, ra] H H19 := c_fr_sub (c_fr_t fra frb) (by simp)
  have r3 : r ≠ 3 ∧ ra ≠ 3 := by unfold c_fix at f1 f2; omega
  have n19 : c_n H19 = c_n H := by unfold c_n; rw [fr.2.2.2.2.2 3 (by simp; omega)]
  have iv : ∀ j, sw_iv H19 ra j = if j = l1.length + 1 then (l2.length : Int) % 256 else if j = l1.length then (l2.length : Int) / 256 % 256 else sw_iv H ra j := fun j => by
    rw [e19, sw_iv_si]
    by_cases c1 : j = l1.length + 1
    · rw [if_pos ⟨rfl, c1⟩, if_pos c1]
    · rw [if_neg (fun e => c1 e.2), if_neg c1, e10, sw_iv_si]
      by_cases c2 : j = l1.length
      · rw [if_pos ⟨rfl, c2⟩, if_pos c2]
      · rw [if_neg (fun e => c2 e.2), if_neg c2]
  have lnew : (l1 ++ w_b16 l2.length ++ l2).length = l1.length + 2 + l2.length := by rw [List.length_append, List.length_append]; rfl
  have smap : ∀ j, j < s.length → (l1 ++ w_b16 x0 ++ l2)[j]? = some (w_sg (w_d mk) (sw_iv H ra j)) ∧ m_vs (c_n H) (sw_iv H ra j) := fun j hj => by
    have a1 := c_row_at (H := H) (r := r) (a := ra) (l := s) ⟨t1, t2, t3, t4, t5, t6, t7⟩ hj
    refine ⟨by rw [← hm, List.getElem?_map, a1]; rfl, hv _ (List.mem_of_getElem? a1)⟩
  have smap2 : ∀ j, j < s.length → (l1 ++ w_b16 l2.length ++ l2)[j]? = some (w_sg (w_d mk) (sw_iv H19 ra j)) ∧ m_vs (c_n H) (sw_iv H19 ra j) := fun j hj => by
    rw [iv]
    by_cases c1 : j = l1.length + 1
    · rw [if_pos c1, c1, List.append_assoc, List.getElem?_append_right (by omega), Nat.add_sub_cancel_left]
      refine ⟨?_, by unfold m_vs; omega⟩
      unfold w_sg
      rw [if_pos (by omega)]
      rfl
    · rw [if_neg c1]
      by_cases c2 : j = l1.length
      · rw [if_pos c2, c2, List.append_assoc, List.getElem?_append_right (by omega), Nat.sub_self]
        refine ⟨?_, by unfold m_vs; omega⟩
        unfold w_sg
        rw [if_pos (by omega)]
        rfl
      · rw [if_neg c2]
        obtain ⟨a1, a2⟩ := smap j hj
        refine ⟨?_, a2⟩
        rw [← a1, List.append_assoc, List.append_assoc]
        by_cases c3 : j < l1.length
        · rw [List.getElem?_append_left c3, List.getElem?_append_left c3]
        · have R : ∀ y, (l1 ++ (w_b16 y ++ l2))[j]? = l2[j - l1.length - 2]? := fun y => by
            have g2 : (w_b16 y).length ≤ j - l1.length := (show 2 ≤ j - l1.length by omega)
            rw [List.getElem?_append_right (by omega), List.getElem?_append_right g2]
            rfl
          rw [R, R]
  refine k H19 ⟨⟨m_sl (sw_iv H19 ra) 0 s.length, ⟨by rw [fr.2.2.1]; exact t1, by rw [fr.2.2.2.2.1]; exact t2, by rw [fr.2.2.1]; exact t3, ?_, ?_, by rw [fr.2.2.2.1]; exact t6, by rw [m_sl_len]⟩, ?_, ?_⟩, f1, f2, by rw [n19, hn]⟩ fr
  · rw [e19, c_si_q ne, iv10 r ne, m_sl_len]; exact t4
  · rw [fr.2.2.2.1, m_sl_len]; exact t5
  · intro y hy
    obtain ⟨j, hj⟩ := List.getElem?_of_mem hy
    have hlt := (List.getElem?_eq_some_iff.mp hj).1
    rw [m_sl_len] at hlt
    rw [m_sl_at hlt, Nat.zero_add] at hj
    rw [← Option.some.inj hj, n19]
    exact (smap2 j hlt).2
  · refine List.ext_getElem? (fun j => ?_)
    by_cases c : j < s.length
    · rw [(smap2 j c).1, List.getElem?_map, m_sl_at c, Nat.zero_add]
      rfl
    · rw [List.getElem?_eq_none (by rw [List.length_map, m_sl_len]; omega), List.getElem?_eq_none (by omega)]
end
