/-! ===== the class: readChanges ===== -/
noncomputable section
section
variable {K : Wt → Prop} {lm p : List Wt} {ms : List (List Wt)} {Lk : List (Wt × Nat)} {C L L2 : List w_Ch} {c : w_Ch} {e : p_E} {h : Wt} {i k l : Nat} {ep sd lf x4 z : Int} {v : p_C} {sg tg cf : Wt} {b e1 : Nat} {es es1 : List p_E} {pt : Option p_P} {T : w_T}
theorem w_kc_at (hkc : w_kc K ms Lk C) (hc : c ∈ C) : ∃ (i k : Nat), ∃ p ep lf v sg tg h, Lk[i]? = some (h, k) ∧ ms[k]? = some p ∧ p_pr K p ep lf v sg tg ∧ c = (v, lf, h) := by
  obtain ⟨i, hi⟩ := List.getElem?_of_mem hc
  have il := (List.getElem?_eq_some_iff.mp hi).1
  obtain ⟨⟨h, k⟩, hk⟩ : ∃ u, Lk[i]? = some u := ⟨_, List.getElem?_eq_getElem (by rw [← hkc.1]; exact il)⟩
  obtain ⟨p, ep, lf, v, sg, tg, h1, h2, h3⟩ := hkc.2 i k h hk
  exact ⟨i, k, p, ep, lf, v, sg, tg, h, hk, h1, h2, Option.some.inj (hi.symm.trans h3)⟩
theorem p_pr_fun {ep' lf' : Int} {v' : p_C} {sg' tg' : Wt} (h : p_pr K p ep lf v sg tg) (g : p_pr K p ep' lf' v' sg' tg') : v' = v ∧ lf' = lf := by
  have a := h.2.2.2.1.symm.trans g.2.2.2.1
  have b := h.2.2.2.2.1.symm.trans g.2.2.2.2.1
  have a := Option.some.inj a
  have b := Option.some.inj b
  rw [Prod.mk.injEq] at a b
  exact ⟨b.1.symm, a.1.symm⟩
/-- a HASH of what is kept: the change -/
theorem d_get_kc (hkc : w_kc K ms Lk C) (hkh : w_kh ms Lk) (hi : Lk[i]? = some (h, k)) (hp : ms[k]? = some p) (hr : p_pr K p ep lf v sg tg) (he : e.2.1 = h) (hne : h ≠ []) : d_get C sd e = (v, lf, h) := by
  obtain ⟨p1, ep1, lf1, v1, sg1, tg1, a1, a2, a3⟩ := hkc.2 i k h hi
  have ex : p1 = p := Option.some.inj (a1.symm.trans hp)
  subst ex
  obtain ⟨e1, e2⟩ := p_pr_fun hr a2
  rw [e1, e2] at a3
  unfold d_get
  rw [he, if_neg hne]
  obtain ⟨o, eo⟩ : ∃ o, C.find? (fun c => decide (c.2.2 = h)) = o := ⟨_, rfl⟩
  rw [eo]
  cases o with
  | none =>
    exfalso
    have := List.find?_eq_none.mp eo _ (List.mem_of_getElem? a3)
    exact this (by rw [decide_eq_true_iff])
  | some d =>
    have d1 := List.mem_of_find?_eq_some eo
    have d2 := List.find?_some eo
    rw [decide_eq_true_iff] at d2
    obtain ⟨i', k', p', ep', lf', v', sg', tg', h', b1, b2, b3, rfl⟩ := w_kc_at hkc d1
    have d2 : h' = h := d2
    subst d2
    obtain ⟨x1, y1, y2⟩ := hkh i k h' hi
    obtain ⟨x2, y3, y4⟩ := hkh i' k' h' b1
    have f1 : x1 = p1 := Option.some.inj (y1.symm.trans hp)
    have f2 : x2 = p' := Option.some.inj (y3.symm.trans b2)
    rw [f1] at y2
    rw [f2] at y4
    have := (w_t_inj (y2.symm.trans y4)).2.2.2.2
    subst this
    obtain ⟨g1, g2⟩ := p_pr_fun hr b3
    rw [g1, g2]
    rfl
theorem d_L_ok (hvl : w_vl lm) (hC : ∀ c ∈ C, p_cok c.1) (hcm : p_cm K lm ep sd b e1 es pt sg cf tg) (hn : ¬ d_un C es) : ∀ c ∈ d_L C sd es, p_cok c.1 := fun c hc => by
  rcases d_L_in hn hc with ⟨⟨pl, h, v⟩, hx, e, rfl⟩ | h
  · have e : h = [] := e
    subst e
    obtain ⟨e2, s, he, hct⟩ := p_cm_ct hcm hx
    exact p_ct_ok hvl he hct
  · exact hC c h
theorem p_en_many {fu i e : Nat} {es2 : List p_E} {s : Nat × Nat} (h : p_many (p_en K lm) fu (some (i, e)) = some (es2, s)) : (e ≤ i ∧ es2 = []) ∨ (i < e ∧ ∃ fu' x s1 es3, es2 = x :: es3 ∧ p_en K lm (some (i, e)) = some (x, s1) ∧ p_many (p_en K lm) fu' (some (s1.1, e)) = some (es3, s) ∧ s1.2 = e ∧ i < s1.1 ∧ s1.1 ≤ e) := by
  by_cases c : i < e
  · refine Or.inr ⟨c, ?_⟩
    cases fu with
    | zero =>
      rw [show p_many (p_en K lm) 0 (some (i, e)) = none from if_pos c] at h
      cases h
    | succ fu =>
      rw [p_many_s c, Option.bind_eq_some_iff] at h
      obtain ⟨⟨a, i', e'⟩, eo, h⟩ := h
      obtain ⟨b1, b2, b3⟩ := p_en_fw.2 i e a _ eo
      have b3 : e' = e := b3
      subst b3
      rw [Option.map_eq_some_iff] at h
      obtain ⟨⟨r', s'⟩, h1, h2⟩ := h
      rw [Prod.mk.injEq] at h2
      obtain ⟨h2, h3⟩ := h2
      have h3 : s' = s := h3
      subst h3
      exact ⟨fu, a, (i', e'), r', h2.symm, eo, h1, rfl, b1, b2⟩
  · rw [p_many_e (by omega)] at h
    have h := Option.some.inj h
    rw [Prod.mk.injEq] at h
    exact Or.inl ⟨by omega, h.1.symm⟩
/-- the flag, and the list so far -/
def d_rc (T : w_T) (C : List w_Ch) (l : Nat) (x4 : Int) (es1 : List p_E) (L : List w_Ch) : Prop := (x4 = 1 ∧ L = d_L C l es1 ∧ ∀ c ∈ d_L C l es1, h_own T c) ∨ (x4 = 0 ∧ ((∃ c ∈ d_L C l es1, ¬ h_own T c) ∨ 32 < es1.length))
theorem d_rc_st (hL : d_rc T C l x4 es1 L) (ec : d_get C l e = c) (hz : (z = 1 ∧ h_own T c ∧ L2 = L ++ [c]) ∨ (z = 0 ∧ (¬ h_own T c ∨ L.length = 32))) : d_rc T C l (sw_and x4 z) (es1 ++ [e]) L2 := by
  have ed : d_L C l (es1 ++ [e]) = d_L C l es1 ++ [c] := by
    unfold d_L
    rw [List.map_append, List.map_singleton, ec]
  have len : (es1 ++ [e]).length = es1.length + 1 := by rw [List.length_append, List.length_singleton]
  have a11 : sw_and 1 1 = 1 := by decide
  have a10 : sw_and 1 0 = 0 := by decide
  have a01 : sw_and 0 1 = 0 := by decide
  have a00 : sw_and 0 0 = 0 := by decide
  unfold d_rc
  rw [ed, len]
  rcases hL with ⟨rfl, rfl, ho⟩ | ⟨rfl, hr⟩
  · rcases hz with ⟨rfl, h1, rfl⟩ | ⟨rfl, h1⟩
    · refine Or.inl ⟨a11, rfl, fun d hd => ?_⟩
      rcases List.mem_append.mp hd with x | x
      · exact ho d x
      · rw [List.mem_singleton] at x; rw [x]; exact h1
    · refine Or.inr ⟨a10, ?_⟩
      rcases h1 with h1 | h1
      · exact Or.inl ⟨c, List.mem_append.mpr (Or.inr (List.mem_singleton.mpr rfl)), h1⟩
      · rw [d_L_len] at h1
        exact Or.inr (by omega)
  · refine Or.inr ⟨?_, ?_⟩
    · rcases hz with ⟨rfl, _⟩ | ⟨rfl, _⟩
      · exact a01
      · exact a00
    · rcases hr with ⟨d, d1, d2⟩ | hr
      · exact Or.inl ⟨d, List.mem_append.mpr (Or.inl d1), d2⟩
      · exact Or.inr (by omega)
end
variable {H G Z X Y : sw_H} {mk mm tl tp lm : List Wt} {ms : List (List Wt)} {rd : Nat → Int} {nn r l g m mi : Nat} {K : Wt → Prop} {cn cs N U M ep : Int} {P : Int → sw_H → Prop} {G' : w_G} {La : Nat → List (Wt × Nat)} {C : List w_Ch} {es : List p_E} {pt : Option p_P} {sg cf tg : Wt} {b e1 : Nat}
theorem c_rc_end (hm : m < 24) (hkc : w_kc K ms (La m) C) (hvl : ∀ p ∈ ms, w_vl p) (hlv : gg_lv G') (hpl : c_pl g) (hH : c_BS H mk nn K tl cn cs tp rd ms La) (hgH : c_gp H mk g G') (r4 : sw_rv H (120 + 54 * m) 4 = g) (t44 : sw_ty H 44 = 24) (hTa : c_Ta H) (h18 : sw_ty H 18 = 72) (hmi : ms[mi]? = some lm) (hcm : p_cm K lm ep (l : Int) b e1 es pt sg cf tg) (h7 : sw_iv H 18 7 = (l : Nat)) (hl16 : l < 16)
    (q7 : ∀ J, ¬ d_un C es → ¬ h_done (gg_T G') (d_L C l es) l → c_BS J mk nn K tl cn cs tp rd ms La → c_Ch J → c_ch c_Ag H J → P 7 J)
    (q0 : ∀ J, ¬ d_un C es → h_done (gg_T G') (d_L C l es) l → c_BS J mk nn K tl cn cs tp rd ms La → c_ci J mk K ms (d_L C l es) → sw_iv J 44 2 = (h_nad (d_L C l es) : Nat) → b_is (sw_iv J 44 11) (fun j => h_rm (d_L C l es) (j : Int)) → c_ch c_Ag H J → P 0 J)
    {x4 : Int} {L : List w_Ch} (hB : c_BS G mk nn K tl cn cs tp rd ms La) (cG : c_ch c_Ag H G) (hci : c_ci G mk K ms L) (hrc : d_rc (gg_T G') C l x4 es L) (hun : ¬ d_un C es) : wb_303_91 P 94 (120 + 54 * m) x4 G := by
  obtain ⟨W0, X0, MS0, KS0⟩ := id hH
  have fl0 := W0.1.2.2.2.1
  have ad0 := W0.1.2.2.2.2
  obtain ⟨b1, b2⟩ := c_pl_b hpl
  have b3 := c_pl_m hpl hm
  have nAg : ∀ a, a = 120 + 54 * m ∨ (g ≤ a ∧ a ≤ g + 22) ∨ a = 2 ∨ a = 94 ∨ a = 18 → a ∉ c_Ag := fun a ha cc => by rw [c_Ag_m] at cc; omega
  have gG := c_gp_ch hgH fl0 ad0 cG (fun a ha => by rw [c_Ag_m] at ha; omega) (w_le_refl _)
  have tr := gG.2.2.2.2.1
  have h4 := tr.2.1.1
  have vlm := hvl lm (List.mem_of_getElem? hmi)
  have hok := d_L_ok vlm (w_kc_ok hvl hkc) hcm hun
  have how : ∀ l, t_is (gg_T G') l → 0 ≤ t_ow (gg_T G') l ∧ t_ow (gg_T G') l < 24 := fun l hl => by
    have hw : 2 * l < t_w (gg_T G') := by have := hl.1; rw [t_w_e]; omega
    exact ⟨(tr.2.1.2.2 l hw hl.2).1, (hlv l hw hl.2).1⟩
  unfold wb_303_91
  refine ⟨fun c => q7 G hun (fun hd => ?_) hB hci.1 cG, fun c => ?_⟩
  · rcases hrc with ⟨e, _⟩ | ⟨_, ⟨d, d1, d2⟩ | hr⟩
    · omega
    · exact d2 (h_all_own hd.1 hok d d1)
    · have := h_len h4 hok hd
      rw [d_L_len] at this
      omega
  obtain ⟨eL, hown⟩ : L = d_L C l es ∧ ∀ c ∈ d_L C l es, h_own (gg_T G') c := by
    rcases hrc with ⟨_, h1, h2⟩ | ⟨e, _⟩
    · exact ⟨h1, h2⟩
    · exact absurd e c
  subst eL
  have v94 := c_fx_iv fl0 ad0 cG (q := 94) (by unfold c_fix; omega) (nAg _ (by omega))
  have v18 := c_fx_iv fl0 ad0 cG (q := 18) (by unfold c_fix; omega) (nAg _ (by omega))
  have vm := c_fx_iv fl0 ad0 cG (q := 120 + 54 * m) (by unfold c_fix; omega) (nAg _ (by omega))
  obtain ⟨t94, r0, r1, r2, r3, _⟩ := id hTa
  rw [v94.2 3, r3]
  refine ⟨by rw [(c_fx_ty fl0 cG (q := 44) (by unfold c_fix; omega)).1]; exact t44, ?_⟩
  intro q1 e1
  rw [vm.2 4, r4]
  refine ⟨gG.1.2.2.1, ?_⟩
  intro q4 e4
  rw [e4, gG.1.2.2.2.1]
  refine ⟨tr.1.2.2.1, ?_⟩
  intro q7' e7
  rw [v94.2 2, r2]
  refine ⟨by rw [(c_fx_ty fl0 cG (q := 18) (by unfold c_fix; omega)).1]; exact h18, ?_⟩
  intro q10 e10 v13 e13 _
  rw [e10, v18.1 7, h7] at e13
  rw [e1, e7, e13]
  refine c_areRight (cm := l) (by omega) hB.1 hci tr (fun c hc => h_own_24 h4 (hok c hc) (hown c hc)) how (by omega) (fun z Z hz ciZ WZ fZ adz => ?_)
  intro _ _
  have cZ := c_fr_ch hB.1.1.2.2.2.1 fZ (by simp)
  have BZ := c_BS_ch hB WZ cZ (w_le_refl _) (fun a ha => by simp at ha; unfold c_hl; omega)
  have cHZ : c_ch c_Ag H Z := c_ch_t cG (c_ch_sub cZ (fun a ha => by simp at ha; rw [c_Ag_m]; omega))
  have iff := h_C_done (com := (l : Int)) h4 hown hok (fun l hl => (how l hl).1)
  rcases hz with ⟨ez, hC⟩ | ⟨ez, hC⟩
  · have hd := iff.mp hC
    obtain ⟨y1, y2⟩ := adz (h_all_di hd.1)
    exact ⟨fun c => by omega, fun _ => q0 Z hun hd BZ ciZ y1 y2 cHZ⟩
  · exact ⟨fun _ => q7 Z hun (fun h => hC (iff.mpr h)) BZ ciZ.1 cHZ, fun c => absurd ez c⟩
theorem c_rc_12 (hm : m < 24) (lmm : c_lm cn cs N U M) (bd : c_bl mk tl N U M) (hkc : w_kc K ms (La m) C) (hkh : w_kh ms (La m)) (hvl : ∀ p ∈ ms, w_vl p) (hlv : gg_lv G') (hpl : c_pl g) (hH : c_BS H mk nn K tl cn cs tp rd ms La) (hgH : c_gp H mk g G') (r4 : sw_rv H (120 + 54 * m) 4 = g) (t44 : sw_ty H 44 = 24) (hTa : c_Ta H) (h18 : sw_ty H 18 = 72) (hmi : ms[mi]? = some lm) (hr : r = sw_rv H 1416 mi) (hcm : p_cm K lm ep (l : Int) b e1 es pt sg cf tg) (h7 : sw_iv H 18 7 = (l : Nat)) (h10 : sw_iv H 18 10 = (e1 : Nat)) (he1 : e1 ≤ lm.length) (hl16 : l < 16)
    (q6 : ∀ J, d_un C es → c_BS J mk nn K tl cn cs tp rd ms La → c_Ch J → c_ch c_Ag H J → P 6 J)
    (q7 : ∀ J, ¬ d_un C es → ¬ h_done (gg_T G') (d_L C l es) l → c_BS J mk nn K tl cn cs tp rd ms La → c_Ch J → c_ch c_Ag H J → P 7 J)
    (q0 : ∀ J, ¬ d_un C es → h_done (gg_T G') (d_L C l es) l → c_BS J mk nn K tl cn cs tp rd ms La → c_ci J mk K ms (d_L C l es) → sw_iv J 44 2 = (h_nad (d_L C l es) : Nat) → b_is (sw_iv J 44 11) (fun j => h_rm (d_L C l es) (j : Int)) → c_ch c_Ag H J → P 0 J) :
    ∀ (n i f6 fu : Nat) {G : sw_H} {x4 : Int} {es1 es2 : List p_E} {L : List w_Ch} {s : Nat × Nat}, c_BS G mk nn K tl cn cs tp rd ms La → c_ch c_Ag H G → c_ci G mk K ms L → d_rc (gg_T G') C l x4 es1 L → es1 ++ es2 = es → p_many (p_en K lm) fu (some (i, e1)) = some (es2, s) → (∀ e ∈ es1, e.2.1 ≠ [] → ∃ c ∈ C, c.2.2 = e.2.1) → e1 - i ≤ f6 → f6 < n → f6 ≤ 1200 → i ≤ 1300 → wl_303_12 P n 94 (120 + 54 * m) 1416 r x4 i f6 G
  | 0, _, _, _, _, _, _, _, _, _, _, _, _, _, _, _, _, _, h, _, _ => by omega
  | n + 1, i, f6, fu, G, x4, es1, es2, L, s, hB, cG, hci, hrc, hes, hpm, hkn, hf6, hn, hf12, hi13 => by
    obtain ⟨W0, X0, MS0, KS0⟩ := id hH
    have fl0 := W0.1.2.2.2.1
    have ad0 := W0.1.2.2.2.2
    obtain ⟨W, Xx, MS, KS⟩ := id hB
    have fl := W.1.2.2.2.1
    have ad := W.1.2.2.2.2
    obtain ⟨b1, b2⟩ := c_pl_b hpl
    have b3 := c_pl_m hpl hm
    have ml := c_W_len lmm bd
    have nAg : ∀ a, a = 120 + 54 * m ∨ (g ≤ a ∧ a ≤ g + 22) ∨ a = 2 ∨ a = 94 ∨ a = 18 ∨ a = 1416 → a ∉ c_Ag := fun a ha cc => by rw [c_Ag_m] at cc; omega
    have gG := c_gp_ch hgH fl0 ad0 cG (fun a ha => by rw [c_Ag_m] at ha; omega) (w_le_refl _)
    have tr := gG.2.2.2.2.1
    have gs := gG.1
    have v94 := c_fx_iv fl0 ad0 cG (q := 94) (by unfold c_fix; omega) (nAg _ (by omega))
    have v18 := c_fx_iv fl0 ad0 cG (q := 18) (by unfold c_fix; omega) (nAg _ (by omega))
    have vm := c_fx_iv fl0 ad0 cG (q := 120 + 54 * m) (by unfold c_fix; omega) (nAg _ (by omega))
    have v1416 := c_fx_iv fl0 ad0 cG (q := 1416) (by unfold c_fix; omega) (nAg _ (by omega))
    have t18G : sw_ty G 18 = 72 := by rw [(c_fx_ty fl0 cG (q := 18) (by unfold c_fix; omega)).1]; exact h18
    have t44G : sw_ty G 44 = 24 := by rw [(c_fx_ty fl0 cG (q := 44) (by unfold c_fix; omega)).1]; exact t44
    obtain ⟨t94, r0, r1, r2, r3, _⟩ := id hTa
    have vlm := hvl lm (List.mem_of_getElem? hmi)
    obtain ⟨M1, M2, M3⟩ := Xx.2.2.2
    have erG : sw_rv G 1416 mi = r := by rw [v1416.2, hr]
    obtain ⟨x1, x2, x3, ra, x5, x6, sgG⟩ := M3 mi lm hmi
    rw [erG] at x1 x2 sgG
    have en : es2 = [] → wb_303_91 P 94 (120 + 54 * m) x4 G := fun h => by
      have e : es1 = es := by rw [← hes, h, List.append_nil]
      subst e
      exact c_rc_end hm hkc hvl hlv hpl hH hgH r4 t44 hTa h18 hmi hcm h7 hl16 q7 q0 hB cG hci hrc (fun ⟨e, he, h1, h2⟩ => by
        obtain ⟨c, c1, c2⟩ := hkn e he h1
        exact h2 c c1 c2)
    have key := p_en_many hpm
    unfold wl_303_12
    refine ⟨fun c => en ?_, fun c => ?_⟩
    · rcases key with h | h
      · exact h.2
      · omega
    rw [v94.2 2, r2]
    refine ⟨t18G, ?_⟩
    intro q27 e27 v30 e30 _
    rw [e27, v18.1 10, h10] at e30
    rw [sw_s1 (by omega)]
    refine ⟨fun c1 => en ?_, fun c1 => ?_⟩
    · rcases key with h | ⟨h1, fu', ⟨pl, hh, cc⟩, s1, es3, h2, h3, _⟩
      · exact h.2
      · obtain ⟨_, p2, p3, _⟩ := p_en_ix h3
        omega
    obtain ⟨hie, fu', ⟨pl, hh, cc⟩, s1, es3, he2, hen, hpm2, s12, s1a, s1b⟩ : i < e1 ∧ ∃ fu' x s1 es3, es2 = x :: es3 ∧ p_en K lm (some (i, e1)) = some (x, s1) ∧ p_many (p_en K lm) fu' (some (s1.1, e1)) = some (es3, s) ∧ s1.2 = e1 ∧ i < s1.1 ∧ s1.1 ≤ e1 := by
      rcases key with h | h
      · omega
      · exact h
    obtain ⟨p1, p2, p3, p4, p5⟩ := p_en_ix hen
    have row := sgG.choose_spec.1
    have ln := c_sg_len sgG
    have hcons : es1 ++ [((pl, hh, cc) : p_E)] ++ es3 = es := by rw [List.append_assoc, ← hes, he2]; rfl
    have emem : ((pl, hh, cc) : p_E) ∈ es := by rw [← hes, he2]; exact List.mem_append.mpr (Or.inr (List.mem_cons_self ..))
    -- one more
    have nxt : ∀ {Z : sw_H} {x : Int} {L2 : List w_Ch} (y : Int), y = (s1.1 : Nat) → c_BS Z mk nn K tl cn cs tp rd ms La → c_ch c_Ag G Z → c_ci Z mk K ms L2 → d_rc (gg_T G') C l x (es1 ++ [((pl, hh, cc) : p_E)]) L2 → (hh ≠ [] → ∃ c ∈ C, c.2.2 = hh) → wb_303_89 P (wl_303_12 P n) 94 (120 + 54 * m) 1416 r x y f6 Z := fun {Z x L2} y ey a1 a2 a3 a4 a5 => by
      unfold wb_303_89
      intro y23 e23
      obtain ⟨f7, ef⟩ : ∃ f7, f6 = f7 + 1 := ⟨f6 - 1, by omega⟩
      rw [ef] at e23
      rw [sw_w_s (by omega) (by omega), show ((f7 + 1 : Nat) : Int) + -1 = (f7 : Int) by omega] at e23
      rw [e23, ey]
      refine c_rc_12 hm lmm bd hkc hkh hvl hlv hpl hH hgH r4 t44 hTa h18 hmi hr hcm h7 h10 he1 hl16 q6 q7 q0 n s1.1 f7 fu' a1 (c_ch_t cG a2) a3 a4 hcons hpm2 (fun e he hne => ?_) (by omega) (by omega) (by omega) (by omega)
      rcases List.mem_append.mp he with h | h
      · exact hkn e h hne
      · rw [List.mem_singleton] at h
        rw [h] at hne ⊢
        exact a5 hne
    have lml : lm.length ≤ 1200 := x3
    rw [row.2.1]
    refine ⟨row.2.2.1, ?_⟩
    intro q33 e33
    rw [e33]
    refine ⟨by omega, by omega, ?_⟩
    intro v36 e36 _
    rw [Int.toNat_natCast] at e36
    have cZup : ∀ {Z : sw_H}, c_fa c_Ac G Z → c_ch c_Ag G Z := fun {Z} f => c_ch_sub (c_al_ch f.1 (fl 3 (by decide) (by decide)) (fun cc => by rw [c_Ac_m] at cc; omega)) (fun a ha => List.mem_append.mpr (Or.inl ha))
    rcases p5 with ⟨u1, u2, u3⟩ | ⟨u1, u2, u3⟩
    · -- a HASH
      have by1 := p_8_sl vlm he1 u1
      have ev : v36 = 1 := by rw [e36]; exact c_byte W.1.1 sgG by1.1 by1.2.1
      refine ⟨fun c2 => absurd ev c2, fun _ => ?_⟩
      obtain ⟨t1, t2, t3, t4, t5⟩ := p_t_in u2
      have hhne : hh ≠ [] := fun e => by rw [e] at t4; cases t4
      refine c_s_termAt W.1.1.2.1 sgG (p_t_sl he1 u2) (by rw [t4]; decide) (fun z78 a78 => ?_)
      intro _ _
      obtain ⟨kp, pp⟩ := KS.1 m hm
      refine c_indexOf (c_L_nd W.1.1) kp pp a78 (fun i' k hik => ?_) (fun hno => ?_)
      · intro _ _
        refine ⟨fun _ => ?_, fun c2 => by omega⟩
        obtain ⟨pm, ep', lf, v, sg', tg', hp, hpr, hC⟩ := hkc.2 i' k hh hik
        obtain ⟨pm', hp', ehh⟩ := hkh i' k hh hik
        have epm : pm' = pm := Option.some.inj (hp'.symm.trans hp)
        rw [epm] at ehh
        obtain ⟨pp1, pp2, pp3⟩ := pp
        obtain ⟨u7, u8⟩ := pp3 i' k hh hik
        obtain ⟨kp1, kp2, kp3, kp4, kp5, kp6, kp7⟩ := kp
        have vlp := hvl pm (List.mem_of_getElem? hp)
        obtain ⟨y1, y2, y3, rb, y4, y5, y6⟩ := M3 k pm hp
        have ilt : i' < (La m).length := (List.getElem?_eq_some_iff.mp hik).1
        have klt : k < ms.length := (List.getElem?_eq_some_iff.mp hp).1
        have l7 : (La m).length ≤ sw_ln G (sw_rv G (120 + 54 * m) 7) := by have a := kp2; have b := pp2; unfold c_ka at a b; omega
        refine ⟨kp1.1, ?_⟩
        intro q88 e88
        rw [e88]
        refine ⟨by omega, by omega, ?_⟩
        intro v91 e91 _
        rw [Int.toNat_natCast] at e91
        have e91 : v91 = (k : Int) := by rw [e91]; exact u7
        have o14 : sw_ln G 1416 = 300 := Xx.1.2.2.2.2.2.2.2.2.2.2.2.2.2.2
        rw [e91, o14]
        refine ⟨by omega, by omega, ?_⟩
        rw [Int.toNat_natCast]
        refine ⟨y6.choose_spec.1.1, ?_⟩
        intro q94 e94
        rw [v94.2 3, r3]
        refine ⟨t44G, ?_⟩
        intro q100 e100
        rw [e94, e100]
        have l16' := p_16_sl vlp (Nat.le_refl _) hpr.2.2.2.1
        refine c_u16At (i := 5) W.1.1 y6 (by omega) (Nat.le_refl _) hpr.2.2.2.1 ?_
        intro _ _
        rw [vm.2 4, r4]
        refine ⟨gs.2.2.1, ?_⟩
        intro q108 e108
        rw [e108]
        have eget : d_get C l ((pl, hh, cc) : p_E) = (v, lf, hh) := d_get_kc hkc hkh hik hp hpr rfl hhne
        have inC : hh ≠ [] → ∃ c ∈ C, c.2.2 = hh := fun _ => ⟨(v, lf, hh), List.mem_of_getElem? hC, rfl⟩
        have ey : ∀ y120, y120 = sw_w ((i : Int) + 2) → y120 = (s1.1 : Nat) := fun y e => by
          rw [e, sw_w_s (by omega) (by omega), t1]
          show (i : Int) + 2 = ((i + 1 + 1 : Nat) : Int)
          omega
        refine c_isTakenIn (mi := k) (e := pm.length) (i := 7) (hs := hh) ml hci W ⟨hp, rfl, y1, y4, y3, y6⟩ ⟨gs.2.2.2.1, by omega, tr⟩ (Nat.le_refl _) hpr.2.2.2.2.1 ⟨l16'.2.1, l16'.2.2.1⟩ (fun _ => ehh) (fun l32 => ?_) (fun zt Z l32 hz WZ fZ => ?_)
        · intro _ _ y116 e116 y120 e120
          rw [e116]
          exact nxt y120 (ey y120 e120) hB (c_ch_refl _ _) hci (d_rc_st hrc eget (Or.inr ⟨rfl, Or.inr l32⟩)) inC
        · intro _ _ y116 e116 y120 e120
          rw [e116]
          have BZ := c_BS_ch hB WZ (cZup fZ) (w_le_refl _) c_Ag_hl
          rcases hz with ⟨ez, ho, ciZ⟩ | ⟨ez, ho, ciZ⟩
          · exact nxt y120 (ey y120 e120) BZ (cZup fZ) ciZ (d_rc_st hrc eget (Or.inl ⟨ez, ho, rfl⟩)) inC
          · exact nxt y120 (ey y120 e120) BZ (cZup fZ) ciZ (d_rc_st hrc eget (Or.inr ⟨ez, Or.inl ho⟩)) inC
      · intro _ _
        refine ⟨fun c2 => absurd rfl c2, fun _ => q6 G ⟨_, emem, hhne, fun c hc e => hno ?_⟩ hB hci.1 cG⟩
        obtain ⟨i', k, p, _, _, _, _, _, h', k1, _, _, rfl⟩ := w_kc_at hkc hc
        have e : h' = hh := e
        rw [← e]
        exact List.mem_map.mpr ⟨(h', k), List.mem_of_getElem? k1, rfl⟩
    · -- a CONTENT
      have by1 := p_8_sl vlm he1 u1
      have ev : v36 = 2 := by rw [e36]; exact c_byte W.1.1 sgG by1.1 by1.2.1
      refine ⟨fun _ => ?_, fun c2 => absurd (ev.symm.trans c2) (by decide)⟩
      rw [v94.2 3, r3]
      refine ⟨t44G, ?_⟩
      intro q39 e39
      refine ⟨t18G, ?_⟩
      intro q42 e42 v45 e45 _
      rw [e42, v18.1 7, h7] at e45
      rw [vm.2 4, r4]
      refine ⟨gs.2.2.1, ?_⟩
      intro q48 e48
      rw [e39, e45, e48]
      have eget : d_get C l ((pl, hh, cc) : p_E) = (cc, (l : Int), []) := d_get_0 u2
      have inC : hh ≠ [] → ∃ c ∈ C, c.2.2 = hh := fun h => absurd u2 h
      -- behind it
      have bh : ∀ {Z : sw_H} {x zt : Int} {L2 : List w_Ch}, c_BS Z mk nn K tl cn cs tp rd ms La → c_ch c_Ag G Z → c_ci Z mk K ms L2 → d_rc (gg_T G') C l (sw_and x4 zt) (es1 ++ [((pl, hh, cc) : p_E)]) L2 → ∀ y56, y56 = sw_and x4 zt → sw_ty Z (sw_rv Z r 0) = 1 ∧ ∀ q60, q60 = sw_rv Z r 0 → 0 ≤ ((i + 1 : Nat) : Int) ∧ ((i + 1 : Nat) : Int) < sw_ln Z q60 ∧ ∀ v63, v63 = sw_iv Z q60 ((i + 1 : Nat) : Int).toNat → sw_c v63 → wm_287 v63 Z (fun z69 H66 => sw_c z69 → sw_ext Z H66 → ∀ y71, y71 = sw_w ((i : Int) + (sw_w (1 + z69))) → wb_303_89 P (wl_303_12 P n) 94 (120 + 54 * m) 1416 r y56 y71 f6 H66) := fun {Z x zt L2} a1 a2 a3 a4 => by
        intro y56 e56
        have rvZ : sw_rv Z 1416 mi = r := by rw [(c_fx_iv fl ad a2 (q := 1416) (by unfold c_fix; omega) (nAg _ (by omega))).2]; exact erG
        obtain ⟨_, _, _, rb, _, _, sgZ⟩ := a1.2.1.2.2.2.2.2 mi lm hmi
        rw [rvZ] at sgZ
        have rowZ := sgZ.choose_spec.1
        have lnZ := c_sg_len sgZ
        rw [rowZ.2.1]
        refine ⟨rowZ.2.2.1, ?_⟩
        intro q60 e60
        rw [e60]
        refine ⟨by omega, by omega, ?_⟩
        intro v63 e63 _
        rw [Int.toNat_natCast] at e63
        obtain ⟨kd, ⟨ik, lf, gg⟩, nn0⟩ := cc
        obtain ⟨w1, w2, w3⟩ := p_ct_ix u3
        have by2 := p_8_sl vlm he1 w1
        have ekd : v63 = kd := by rw [e63]; exact c_byte a1.1.1.1 sgZ by2.1 by2.2.1
        rw [ekd, e56]
        have fin : ∀ (z69 : Int), s1.1 = i + 1 + z69.toNat → 0 ≤ z69 → z69 ≤ 12 → sw_c z69 → sw_ext Z Z → ∀ y71, y71 = sw_w ((i : Int) + (sw_w (1 + z69))) → wb_303_89 P (wl_303_12 P n) 94 (120 + 54 * m) 1416 r (sw_and x4 zt) y71 f6 Z := fun z69 h1 h2 h3 _ _ y71 e71 => by
          refine nxt y71 ?_ a1 a2 a3 a4 inC
          rw [e71, sw_w_s (z := 1 + z69) (by omega) (by omega), sw_w_s (by omega) (by omega)]
          omega
        unfold wm_287
        rcases w3 with ⟨d1, d2, _⟩ | ⟨d1, d2, _⟩ | ⟨d1, d2, _⟩
        · exact ⟨fun c => absurd d1 c, fun _ => fin 12 (by rw [d2]; rfl) (by decide) (by decide)⟩
        · exact ⟨fun _ => ⟨fun c => absurd d1 c, fun _ => fin 7 (by rw [d2]; rfl) (by decide) (by decide)⟩, fun c => by omega⟩
        · exact ⟨fun _ => ⟨fun _ => fin 3 (by rw [d2]; rfl) (by decide) (by decide), fun c => by omega⟩, fun c => by omega⟩
      refine c_isTakenIn (mi := mi) (e := e1) (i := i + 1) (hs := []) ml hci W ⟨hmi, erG, x1, x5, x3, sgG⟩ ⟨gs.2.2.2.1, by omega, tr⟩ he1 u3 ⟨by omega, by omega⟩ (fun c => absurd rfl c) (fun l32 => ?_) (fun zt Z l32 hz WZ fZ => ?_)
      · intro _ _
        exact bh (x := 0) (zt := 0) hB (c_ch_refl _ _) hci (d_rc_st hrc eget (Or.inr ⟨rfl, Or.inr l32⟩))
      · intro _ _
        have BZ := c_BS_ch hB WZ (cZup fZ) (w_le_refl _) c_Ag_hl
        rcases hz with ⟨ez, ho, ciZ⟩ | ⟨ez, ho, ciZ⟩
        · exact bh (x := 0) (zt := zt) BZ (cZup fZ) ciZ (d_rc_st hrc eget (Or.inl ⟨ez, ho, rfl⟩))
        · exact bh (x := 0) (zt := zt) BZ (cZup fZ) ciZ (d_rc_st hrc eget (Or.inr ⟨ez, Or.inl ho⟩))
theorem c_readChanges (hm : m < 24) (lmm : c_lm cn cs N U M) (bd : c_bl mk tl N U M) (hkc : w_kc K ms (La m) C) (hkh : w_kh ms (La m)) (hvl : ∀ p ∈ ms, w_vl p) (hlv : gg_lv G') (hpl : c_pl g) (hH : c_BS H mk nn K tl cn cs tp rd ms La) (hgH : c_gp H mk g G') (r4 : sw_rv H (120 + 54 * m) 4 = g) (t44 : sw_ty H 44 = 24) (hCh : c_Ch H) (hTa : c_Ta H) (h18 : sw_ty H 18 = 72) (hmi : ms[mi]? = some lm) (hr : r = sw_rv H 1416 mi) (hcm : p_cm K lm ep (l : Int) b e1 es pt sg cf tg) (h7 : sw_iv H 18 7 = (l : Nat)) (h9 : sw_iv H 18 9 = (b : Nat)) (h10 : sw_iv H 18 10 = (e1 : Nat)) (hl16 : l < 16)
    (q6 : ∀ J, d_un C es → c_BS J mk nn K tl cn cs tp rd ms La → c_Ch J → c_ch c_Ag H J → P 6 J)
    (q7 : ∀ J, ¬ d_un C es → ¬ h_done (gg_T G') (d_L C l es) l → c_BS J mk nn K tl cn cs tp rd ms La → c_Ch J → c_ch c_Ag H J → P 7 J)
    (q0 : ∀ J, ¬ d_un C es → h_done (gg_T G') (d_L C l es) l → c_BS J mk nn K tl cn cs tp rd ms La → c_ci J mk K ms (d_L C l es) → sw_iv J 44 2 = (h_nad (d_L C l es) : Nat) → b_is (sw_iv J 44 11) (fun j => h_rm (d_L C l es) (j : Int)) → c_ch c_Ag H J → P 0 J) : wm_303 94 (120 + 54 * m) 1416 r H P := by
  obtain ⟨W0, X0, MS0, KS0⟩ := id hH
  obtain ⟨t94, r0, r1, r2, r3, _⟩ := id hTa
  obtain ⟨x1, x2, x3, ra, x5, x6, sgH⟩ := X0.2.2.2.2.2 mi lm hmi
  rw [← hr] at x1 x2 sgH
  -- where the changes stand
  have h5 := hcm.2.2.2.2.1
  unfold p_row at h5
  rw [Option.bind_eq_some_iff] at h5
  obtain ⟨⟨en, i1, e2⟩, h6, h7'⟩ := h5
  obtain ⟨a1, a2, a3, a4, _⟩ := p_r_ix h6
  rw [Option.bind_eq_some_iff] at h7'
  obtain ⟨⟨es', s'⟩, h8, h9'⟩ := h7'
  have h8 : p_many (p_en K lm) (en - i1) (some (i1, en)) = some (es', s') := h8
  dsimp only at h9'
  split at h9'
  · rename_i hs1
    have h9' := Option.some.inj h9'
    rw [Prod.mk.injEq, Prod.mk.injEq, Prod.mk.injEq] at h9'
    obtain ⟨⟨f1, f2⟩, f3, f4⟩ := h9'
    have f3 : s'.1 = e1 := f3
    have f1 : i1 = b := f1
    have f2 : es' = es := f2
    have hs1 : s'.1 = en := hs1
    have een : en = e1 := by omega
    rw [een, f1, f2] at h8
    unfold wm_303
    rw [r3]
    refine ⟨t44, ?_⟩
    intro q128 e128
    rw [e128]
    unfold wm_277
    intro H1 eH _
    have f : c_fr [44] H H1 := by rw [eH]; exact c_fr_si _ _ _ _
    have W1 := c_W_fr W0 f (fun a ha => by simp at ha; unfold c_fix; omega)
    have c1 := c_V_ch W0.1 f (fun a ha => by simp at ha; unfold c_fix; omega)
    have B1 := c_BS_ch hH W1 c1 (w_le_refl _) (fun a ha => by simp at ha; unfold c_hl; omega)
    have cH1 : c_ch c_Ag H H1 := c_ch_sub c1 (fun a ha => by simp at ha; rw [c_Ag_m]; omega)
    rw [f.2.2.2.2.1 94 2, r2]
    refine ⟨by rw [f.2.2.1]; exact h18, ?_⟩
    intro q139 e139 v142 e142 _ v148 e148 _
    rw [e139, f.2.2.2.2.2 18 (by simp), h9] at e142
    rw [f.2.2.2.2.2 r (by simp <;> omega), (c_sg_len sgH).1] at e148
    rw [e142, e148]
    refine ⟨lm.length + 1, c_rc_12 hm lmm bd hkc hkh hvl hlv hpl hH hgH r4 t44 hTa h18 hmi hr hcm h7 h10 (by omega) hl16 q6 q7 q0 _ b lm.length (e1 - b) (es1 := []) (L := []) B1 cH1 ⟨c_Ch_fr hCh f, by rw [eH, c_si_eq]; rfl, by simp, fun k c hk => by cases hk⟩ (Or.inl ⟨rfl, rfl, fun c hc => by cases hc⟩) rfl h8 (fun e he => by cases he) (by omega) (by omega) (by omega) (by omega)⟩
  · cases h9'
end
