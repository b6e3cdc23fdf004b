/-! ===== the class: compromise ===== -/
noncomputable section
section
variable {H Z X Y : sw_H} {nn nm r ra g m : Nat} {K K' S : Wt → Prop} {tl tl' tp mk mm l : List Wt} {ms : List (List Wt)} {rd : Nat → Int} {a b c x cn cs cn' cs' N U M wo : Int} {Q : sw_H → Prop} {P : Int → sw_H → Prop} {E : Nat → sw_H → Prop} {A B : List Nat} {w wa wb : Wt} {G PG : w_G}
theorem c_learnU (hV : c_V H mk nn (w_un K S) tl cn cs) (hw : w_az mk x w) (k : ∀ Y, c_V Y mk nn (w_un K (fun v => S v ∨ (v = w ∧ w ≠ []))) tl cn cs → c_ch [] H Y → Q Y) : wm_144 3 x H Q := by
  refine c_learnL hV hw (fun Y VY cY => ?_)
  rw [w_un_lz] at VY
  exact k Y VY cY
theorem c_ch_0 (h : c_ch [] H Z) (k : c_ch [] Z Y) : c_ch [] H Y := c_ch_sub (c_ch_trans h k) (by simp)
theorem c_groupTell (hV : c_V H mk nn (w_un K S) tl cn cs) (hg : c_gp H mk g G) (k : ∀ Y, c_V Y mk nn (w_un K (fun v => S v ∨ w_gs G v)) tl cn cs → c_ch [] H Y → Q Y) : wm_334 g 3 H Q := by
  obtain ⟨h1, h2, h3, h4, h5, h6, h7, h8, h9, h10, h11⟩ := hg
  have w31 := t_w31 h5.2.1.1
  obtain ⟨g1, g2, g3, g4, g5, g6, g7, g8⟩ := h1
  have fl := hV.2.2.2.1
  have ad := hV.2.2.2.2
  have fg : c_fix g := by unfold c_fix; omega
  have fs : c_fix (g + 22) := by unfold c_fix; omega
  have lp : ∀ (n i : Nat) {Z : sw_H}, i ≤ 31 → 31 - i < n → c_V Z mk nn (w_un K (fun v => S v ∨ v = gg_es G ∨ ∃ x, x < i ∧ x < t_w (gg_T G) ∧ v = gg_hd G x ∧ v ≠ [])) tl cn cs → c_ch [] H Z → wl_334_6 Q n g 3 i Z := by
    intro n
    induction n with
    | zero => intro i Z a1 a2; omega
    | succ n ih =>
      intro i Z a1 a2 VZ cZ
      unfold wl_334_6
      refine ⟨fun c => k Z ?_ cZ, fun c => ?_⟩
      · have ei : i = 31 := by omega
        subst ei
        rw [w_un_cg (S' := fun v => S v ∨ v = gg_es G ∨ ∃ x, x < 31 ∧ x < t_w (gg_T G) ∧ v = gg_hd G x ∧ v ≠ [])]
        · exact VZ
        · intro v
          unfold w_gs
          constructor
          · rintro (h | h | ⟨x, hx, h⟩)
            · exact Or.inl h
            · exact Or.inr (Or.inl h)
            · exact Or.inr (Or.inr ⟨x, by omega, hx, h⟩)
          · rintro (h | h | ⟨x, _, hx, h⟩)
            · exact Or.inl h
            · exact Or.inr (Or.inl h)
            · exact Or.inr (Or.inr ⟨x, hx, h⟩)
      · rw [(c_fx_iv fl ad cZ fg (by simp)).2, g5]
        refine ⟨by rw [(c_fx_ty fl cZ fs).1]; exact g6, ?_⟩
        intro q1 e1
        rw [e1]
        refine ⟨by omega, by rw [(c_fx_ty fl cZ fs).2, g7]; omega, ?_⟩
        intro v4 e4 _
        rw [Int.toNat_natCast, (c_fx_iv fl ad cZ fs (by simp)).1] at e4
        have hv : w_az mk v4 (if i < t_w (gg_T G) then gg_hd G i else []) := by
          rw [e4]
          by_cases ci : i < t_w (gg_T G)
          · rw [if_pos ci]; exact h10 i ci
          · rw [if_neg ci]; exact Or.inl ⟨h11 i (by omega) (by omega), rfl⟩
        refine c_learnU VZ hv (fun Y VY cY _ => ?_)
        intro y12 e12
        rw [sw_w_s (by omega) (by omega)] at e12
        rw [e12, show (i : Int) + 1 = ((i + 1 : Nat) : Int) by omega]
        refine ih (i + 1) (by omega) (by omega) ?_ (c_ch_0 cZ cY)
        rw [w_un_cg (S' := fun v => (S v ∨ v = gg_es G ∨ ∃ x, x < i ∧ x < t_w (gg_T G) ∧ v = gg_hd G x ∧ v ≠ []) ∨ (v = (if i < t_w (gg_T G) then gg_hd G i else []) ∧ (if i < t_w (gg_T G) then gg_hd G i else []) ≠ []))]
        · exact VY
        · intro v
          constructor
          · rintro (h | h | ⟨x, hx, hx2, h, hn⟩)
            · exact Or.inl (Or.inl h)
            · exact Or.inl (Or.inr (Or.inl h))
            · by_cases cx : x = i
              · subst cx
                rw [if_pos hx2]
                exact Or.inr ⟨h, by rw [← h]; exact hn⟩
              · exact Or.inl (Or.inr (Or.inr ⟨x, by omega, hx2, h, hn⟩))
          · rintro ((h | h | ⟨x, hx, h⟩) | ⟨h, hn⟩)
            · exact Or.inl h
            · exact Or.inr (Or.inl h)
            · exact Or.inr (Or.inr ⟨x, by omega, h⟩)
            · by_cases ci : i < t_w (gg_T G)
              · rw [if_pos ci] at h hn
                exact Or.inr (Or.inr ⟨i, by omega, ci, h, by rw [h]; exact hn⟩)
              · rw [if_neg ci] at hn
                exact absurd rfl hn
  unfold wm_334
  intro v17 e17 _
  subst e17
  refine c_learnU hV (Or.inr h9) (fun Y VY cY _ => ⟨32, lp 32 0 (by omega) (by omega) ?_ cY⟩)
  rw [w_un_cg (S' := fun v => S v ∨ (v = gg_es G ∧ gg_es G ≠ []))]
  · exact VY
  · intro v
    have ne := c_at_ne hV.1 h9
    constructor
    · rintro (h | h | ⟨x, hx, _⟩)
      · exact Or.inl h
      · exact Or.inr ⟨h, ne⟩
      · omega
    · rintro (h | ⟨h, _⟩)
      · exact Or.inl h
      · exact Or.inr (Or.inl h)
/-- a member's own UPDATEs -/
def c_up (H : sw_H) (mk : List Wt) (m : Nat) (U : List (Wt × Wt)) : Prop := sw_iv H (120 + 54 * m) 11 = U.length ∧ U.length ≤ 20 ∧ ∀ (i : Nat) (h v : Wt), U[i]? = some (h, v) → w_at mk (sw_iv H (120 + 54 * m + 49) i) v
theorem c_compromise {Lk : Nat → List (Nat × Wt × Wt)} {Ga PGa : Nat → w_G} {Ua : Nat → List (Wt × Wt)} (hV : c_V H mk nn K tl cn cs) (hO : c_O H) (hM : c_MS H mk) (hma : ∀ m, m < 24 → c_ma H m) (hpk : ∀ m, m < 24 → c_pk H mk ms m (Lk m)) (hup : ∀ m, m < 24 → c_up H mk m (Ua m)) (h01 : ∀ m, m < 24 → (sw_iv H (120 + 54 * m) 3 = 0 ∧ Ua m = [] ∧ sw_iv H (120 + 54 * m) 6 = -1) ∨ (sw_iv H (120 + 54 * m) 3 = 1 ∧ c_pl (sw_rv H (120 + 54 * m) 4) ∧ c_gp H mk (sw_rv H (120 + 54 * m) 4) (Ga m) ∧ (sw_iv H (120 + 54 * m) 6 ≠ -1 → c_pl (sw_rv H (120 + 54 * m) 5) ∧ c_gp H mk (sw_rv H (120 + 54 * m) 5) (PGa m)))) (rm : sw_n H < sxlim.1 ∧ sw_s H + 6 ≤ sxlim.2) (q1 : ¬ (0 ≤ x ∧ x < 24) → E (sw_n H + 2) (sw_nw H 112 0 6)) (q : ∀ (m : Nat) X, x = m → m < 24 → c_V X mk nn (w_un K (w_cs m (Lk m) (sw_iv H (120 + 54 * m) 3 = 1) (Ga m) (Ua m) (sw_iv H (120 + 54 * m) 6 ≠ -1) (PGa m))) tl cn cs → c_ch [] H X → P (w_cnt (w_un K (w_cs m (Lk m) (sw_iv H (120 + 54 * m) 3 = 1) (Ga m) (Ua m) (sw_iv H (120 + 54 * m) 6 ≠ -1) (PGa m))) tl) X) : wm_116 2 x H P E := by
  have o0 : sw_rv H 2 0 = 3 := hO.2.1
  have fl := hV.2.2.2.1
  have ad := hV.2.2.2.2
  have hKc := c_K_clo hV.1.1.2.2.2.2.2.1
  have f2 : c_fix 2 := by unfold c_fix; omega
  unfold wm_116
  refine c_memberAt hO hM rm (fun m em hm => ?_) q1
  obtain ⟨_, k2, k3, k4, k5⟩ := hM.2.2 m hm
  have pm := hpk m hm
  have ma := hma m hm
  have um := hup m hm
  have o1 := h01 m hm
  have q := fun X => q m X em hm
  have fm : c_fix (120 + 54 * m) := by unfold c_fix; omega
  have fa : ∀ i, 49 ≤ i → i ≤ 53 → c_fix (120 + 54 * m + i) := fun i h1 h2 => by unfold c_fix; omega
  generalize Lk m = L at *
  generalize Ga m = G at *
  generalize PGa m = PG at *
  generalize Ua m = U at *
  clear hpk hma hup h01 q1
  refine ⟨k2, fun _ _ => ?_⟩
  rw [o0]
  refine ⟨hV.1.1.1.1.1, ?_⟩
  intro q6 e6
  rw [e6]
  have V0 : c_V H mk nn (w_un K (fun _ => False)) tl cn cs := by rw [w_un_0 hKc]; exact hV
  -- the end
  have fin : ∀ Z, c_V Z mk nn (w_un K (w_cs m L (sw_iv H (120 + 54 * m) 3 = 1) G U (sw_iv H (120 + 54 * m) 6 ≠ -1) PG)) tl cn cs → c_ch [] H Z → (sw_ext H Z → sw_ty Z (sw_rv Z 2 0) = 96 ∧ ∀ q14, q14 = sw_rv Z 2 0 → wm_142 q14 Z (fun z20 H17 => sw_c z20 → sw_ext Z H17 → P z20 H17)) := by
    intro Z VZ cZ _
    rw [(c_fx_iv fl ad cZ f2 (by simp)).2, o0]
    refine ⟨VZ.1.1.1.1.1, ?_⟩
    intro q14 e14
    rw [e14]
    exact c_knownNumbers VZ.1.1 (fun _ _ => q Z VZ cZ)
  have mv : ∀ {Z}, c_ch [] H Z → (∀ f, sw_iv Z (120 + 54 * m) f = sw_iv H (120 + 54 * m) f) ∧ ∀ f, sw_rv Z (120 + 54 * m) f = sw_rv H (120 + 54 * m) f := fun {Z} k => c_fx_iv fl ad k fm (by simp)
  have av : ∀ {Z}, c_ch [] H Z → ∀ i, 49 ≤ i → i ≤ 53 → ∀ f, sw_iv Z (120 + 54 * m + i) f = sw_iv H (120 + 54 * m + i) f := fun {Z} k i h1 h2 => (c_fx_iv fl ad k (fa i h1 h2) (by simp)).1
  have gpZ : ∀ {Z g G}, c_ch [] H Z → c_gp H mk g G → c_gp Z mk g G := fun {Z g G} k h => c_gp_ch h fl ad k (by simp) (w_le_refl _)
  -- what is pending
  have last : ∀ Z S, c_V Z mk nn (w_un K S) tl cn cs → c_ch [] H Z → (∀ v, S v ↔ (v = w_nm m ∨ (∃ e ∈ L, v = e.2.1 ∨ v = e.2.2) ∨ (sw_iv H (120 + 54 * m) 3 = 1 ∧ (w_gs G v ∨ ∃ e ∈ U, v = e.2)))) → wb_243_45 (fun H9 => sw_ext H H9 → sw_ty H9 (sw_rv H9 2 0) = 96 ∧ ∀ q14, q14 = sw_rv H9 2 0 → wm_142 q14 H9 (fun z20 H17 => sw_c z20 → sw_ext H9 H17 → P z20 H17)) (120 + 54 * m) 3 Z := by
    intro Z S VZ cZ hS
    unfold wb_243_45
    intro v1 e1 _
    rw [(mv cZ).1] at e1
    refine ⟨fun c => fin Z ?_ cZ, fun c => ?_⟩
    · rw [w_un_cg (S' := S)]
      · exact VZ
      · intro v
        rw [hS]
        unfold w_cs
        have np : ¬ sw_iv H (120 + 54 * m) 6 ≠ -1 := fun h => h (by rw [← e1]; exact c)
        constructor
        · rintro (h | h | ⟨hi, h | h | ⟨h, _⟩⟩)
          · exact Or.inl h
          · exact Or.inr (Or.inl h)
          · exact Or.inr (Or.inr ⟨hi, Or.inl h⟩)
          · exact Or.inr (Or.inr ⟨hi, Or.inr h⟩)
          · exact absurd h np
        · rintro (h | h | ⟨hi, h | h⟩)
          · exact Or.inl h
          · exact Or.inr (Or.inl h)
          · exact Or.inr (Or.inr ⟨hi, Or.inl h⟩)
          · exact Or.inr (Or.inr ⟨hi, Or.inr (Or.inl h)⟩)
    · have pd : sw_iv H (120 + 54 * m) 6 ≠ -1 := by rw [← e1]; exact c
      rcases o1 with ⟨_, _, h6⟩ | ⟨in1, _, _, hp⟩
      · exact absurd h6 pd
      · obtain ⟨hp1, hp2⟩ := hp pd
        rw [(mv cZ).2]
        have gpp := gpZ cZ hp2
        refine ⟨gpp.1.2.2.1, ?_⟩
        intro q4 e4
        rw [e4]
        refine c_groupTell VZ gpp (fun Y VY cY _ => fin Y ?_ (c_ch_0 cZ cY))
        rw [w_un_cg (S' := fun v => S v ∨ w_gs PG v)]
        · exact VY
        · intro v
          rw [hS]
          unfold w_cs
          constructor
          · rintro (h | h | ⟨hi, h | h | ⟨_, h⟩⟩)
            · exact Or.inl (Or.inl h)
            · exact Or.inl (Or.inr (Or.inl h))
            · exact Or.inl (Or.inr (Or.inr ⟨hi, Or.inl h⟩))
            · exact Or.inl (Or.inr (Or.inr ⟨hi, Or.inr h⟩))
            · exact Or.inr h
          · rintro ((h | h | ⟨hi, h | h⟩) | h)
            · exact Or.inl h
            · exact Or.inr (Or.inl h)
            · exact Or.inr (Or.inr ⟨hi, Or.inl h⟩)
            · exact Or.inr (Or.inr ⟨hi, Or.inr (Or.inl h)⟩)
            · exact Or.inr (Or.inr ⟨in1, Or.inr (Or.inr ⟨pd, h⟩)⟩)
  -- UPDATEs
  have lu : ∀ (n i : Nat) {Z : sw_H}, i ≤ U.length → U.length - i < n → c_V Z mk nn (w_un K (fun v => v = w_nm m ∨ (∃ e ∈ L, v = e.2.1 ∨ v = e.2.2) ∨ ∃ e ∈ U.take i, v = e.2)) tl cn cs → c_ch [] H Z → wl_243_26 (fun H9 => sw_ext H H9 → sw_ty H9 (sw_rv H9 2 0) = 96 ∧ ∀ q14, q14 = sw_rv H9 2 0 → wm_142 q14 H9 (fun z20 H17 => sw_c z20 → sw_ext H9 H17 → P z20 H17)) n (120 + 54 * m) 3 i Z := by
    intro n
    induction n with
    | zero => intro i Z a1 a2; omega
    | succ n ih =>
      intro i Z a1 a2 VZ cZ
      have u11 := um.1
      have u20 := um.2.1
      unfold wl_243_26
      intro v13 e13 _
      rw [(mv cZ).1, u11] at e13
      refine ⟨fun c => ?_, fun c => ?_⟩
      · have ei : i = U.length := by omega
        rw [ei, List.take_length] at VZ
        intro v16 e16 _
        rw [(mv cZ).1] at e16
        refine ⟨fun c0 => last Z _ VZ cZ (fun v => ?_), fun c0 => ?_⟩
        · rcases o1 with ⟨h0, hu, _⟩ | ⟨h1, _⟩
          · rw [hu]
            constructor
            · rintro (h | h | ⟨e, he, _⟩)
              · exact Or.inl h
              · exact Or.inr (Or.inl h)
              · simp at he
            · rintro (h | h | ⟨hi, _⟩)
              · exact Or.inl h
              · exact Or.inr (Or.inl h)
              · omega
          · omega
        · rcases o1 with ⟨h0, _, _⟩ | ⟨in1, hp, hgp, _⟩
          · omega
          · rw [(mv cZ).2]
            have gpp := gpZ cZ hgp
            refine ⟨gpp.1.2.2.1, ?_⟩
            intro q19 e19
            rw [e19]
            refine c_groupTell VZ gpp (fun Y VY cY _ => last Y _ VY (c_ch_0 cZ cY) (fun v => ?_))
            constructor
            · rintro ((h | h | h) | h)
              · exact Or.inl h
              · exact Or.inr (Or.inl h)
              · exact Or.inr (Or.inr ⟨in1, Or.inr h⟩)
              · exact Or.inr (Or.inr ⟨in1, Or.inl h⟩)
            · rintro (h | h | ⟨_, h | h⟩)
              · exact Or.inl (Or.inl h)
              · exact Or.inl (Or.inr (Or.inl h))
              · exact Or.inr h
              · exact Or.inl (Or.inr (Or.inr h))
      · have hi : i < U.length := by omega
        rw [(mv cZ).2, ma.1]
        refine ⟨by rw [(c_fx_ty fl cZ (fa 49 (by omega) (by omega))).1]; exact ma.2.2.2.2.2.1.1, ?_⟩
        intro q28 e28
        rw [e28]
        refine ⟨by omega, by rw [(c_fx_ty fl cZ (fa 49 (by omega) (by omega))).2, ma.2.2.2.2.2.1.2]; omega, ?_⟩
        intro v31 e31 _
        rw [Int.toNat_natCast, av cZ 49 (by omega) (by omega)] at e31
        subst e31
        obtain ⟨⟨uh, uv⟩, eu⟩ : ∃ e, U[i]? = some e := ⟨U[i], List.getElem?_eq_getElem hi⟩
        have ua := um.2.2 i uh uv eu
        refine c_learnU VZ (Or.inr ua) (fun Y VY cY _ => ?_)
        intro y39 e39
        rw [sw_w_s (by omega) (by omega)] at e39
        rw [e39, show (i : Int) + 1 = ((i + 1 : Nat) : Int) by omega]
        refine ih (i + 1) (by omega) (by omega) ?_ (c_ch_0 cZ cY)
        rw [w_un_cg (S' := fun v => (v = w_nm m ∨ (∃ e ∈ L, v = e.2.1 ∨ v = e.2.2) ∨ ∃ e ∈ U.take i, v = e.2) ∨ (v = uv ∧ uv ≠ []))]
        · exact VY
        · intro v
          have un := c_at_ne hV.1 ua
          rw [List.take_add_one, eu]
          constructor
          · rintro (h | h | ⟨e, he, h⟩)
            · exact Or.inl (Or.inl h)
            · exact Or.inl (Or.inr (Or.inl h))
            · rw [List.mem_append] at he
              rcases he with he | he
              · exact Or.inl (Or.inr (Or.inr ⟨e, he, h⟩))
              · simp at he
                rw [he] at h
                exact Or.inr ⟨h, un⟩
          · rintro ((h | h | ⟨e, he, h⟩) | ⟨h, _⟩)
            · exact Or.inl h
            · exact Or.inr (Or.inl h)
            · exact Or.inr (Or.inr ⟨e, List.mem_append_left _ he, h⟩)
            · exact Or.inr (Or.inr ⟨(uh, uv), List.mem_append_right _ (by simp), h⟩)
  -- packages
  have lq : ∀ (n i : Nat) {Z : sw_H}, i ≤ L.length → L.length - i < n → c_V Z mk nn (w_un K (fun v => v = w_nm m ∨ (∃ e ∈ L.take i, v = e.2.1 ∨ v = e.2.2))) tl cn cs → c_ch [] H Z → wl_243_6 (fun H9 => sw_ext H H9 → sw_ty H9 (sw_rv H9 2 0) = 96 ∧ ∀ q14, q14 = sw_rv H9 2 0 → wm_142 q14 H9 (fun z20 H17 => sw_c z20 → sw_ext H9 H17 → P z20 H17)) n (120 + 54 * m) 3 i Z := by
    intro n
    induction n with
    | zero => intro i Z a1 a2; omega
    | succ n ih =>
      intro i Z a1 a2 VZ cZ
      have p16 := pm.1
      have p8 := pm.2.1
      unfold wl_243_6
      intro v44 e44 _
      rw [(mv cZ).1, p16] at e44
      refine ⟨fun c => ⟨U.length + 1, lu (U.length + 1) 0 (by omega) (by omega) ?_ cZ⟩, fun c => ?_⟩
      · have ei : i = L.length := by omega
        rw [ei, List.take_length] at VZ
        rw [w_un_cg (S' := fun v => v = w_nm m ∨ (∃ e ∈ L, v = e.2.1 ∨ v = e.2.2))]
        · exact VZ
        · intro v
          constructor
          · rintro (h | h | ⟨e, he, _⟩)
            · exact Or.inl h
            · exact Or.inr h
            · simp at he
          · rintro (h | h)
            · exact Or.inl h
            · exact Or.inr (Or.inl h)
      · have hi : i < L.length := by omega
        have a52 := ma.2.2.2.2.2.2 52 (by omega) (by omega)
        have a53 := ma.2.2.2.2.2.2 53 (by omega) (by omega)
        rw [(mv cZ).2, ma.2.2.2.1]
        refine ⟨by rw [(c_fx_ty fl cZ (fa 52 (by omega) (by omega))).1]; exact a52.1, ?_⟩
        intro q50 e50
        rw [e50]
        refine ⟨by omega, by rw [(c_fx_ty fl cZ (fa 52 (by omega) (by omega))).2, a52.2]; omega, ?_⟩
        intro v53 e53 _
        rw [Int.toNat_natCast, av cZ 52 (by omega) (by omega)] at e53
        subst e53
        obtain ⟨⟨pk, pu, pv⟩, ep⟩ : ∃ e, L[i]? = some e := ⟨L[i], List.getElem?_eq_getElem hi⟩
        obtain ⟨_, ua, va, _⟩ := pm.2.2 i pk pu pv ep
        refine c_learnU VZ (Or.inr ua) (fun Y VY cY _ => ?_)
        have cY' := c_ch_0 cZ cY
        rw [(mv cY').2, ma.2.2.2.2.1]
        refine ⟨by rw [(c_fx_ty fl cY' (fa 53 (by omega) (by omega))).1]; exact a53.1, ?_⟩
        intro q61 e61
        rw [e61]
        refine ⟨by omega, by rw [(c_fx_ty fl cY' (fa 53 (by omega) (by omega))).2, a53.2]; omega, ?_⟩
        intro v64 e64 _
        rw [Int.toNat_natCast, av cY' 53 (by omega) (by omega)] at e64
        subst e64
        refine c_learnU VY (Or.inr va) (fun X VX cX _ => ?_)
        intro y72 e72
        rw [sw_w_s (by omega) (by omega)] at e72
        rw [e72, show (i : Int) + 1 = ((i + 1 : Nat) : Int) by omega]
        refine ih (i + 1) (by omega) (by omega) ?_ (c_ch_0 cY' cX)
        rw [w_un_cg (S' := fun v => ((v = w_nm m ∨ (∃ e ∈ L.take i, v = e.2.1 ∨ v = e.2.2)) ∨ (v = pu ∧ pu ≠ [])) ∨ (v = pv ∧ pv ≠ []))]
        · exact VX
        · intro v
          have n1 := c_at_ne hV.1 ua
          have n2 := c_at_ne hV.1 va
          rw [List.take_add_one, ep]
          constructor
          · rintro (h | ⟨e, he, h⟩)
            · exact Or.inl (Or.inl (Or.inl h))
            · rw [List.mem_append] at he
              rcases he with he | he
              · exact Or.inl (Or.inl (Or.inr ⟨e, he, h⟩))
              · simp at he
                rw [he] at h
                rcases h with h | h
                · exact Or.inl (Or.inr ⟨h, n1⟩)
                · exact Or.inr ⟨h, n2⟩
          · rintro (((h | ⟨e, he, h⟩) | ⟨h, _⟩) | ⟨h, _⟩)
            · exact Or.inl h
            · exact Or.inr ⟨e, List.mem_append_left _ he, h⟩
            · exact Or.inr ⟨(pk, pu, pv), List.mem_append_right _ (by simp), Or.inl h⟩
            · exact Or.inr ⟨(pk, pu, pv), List.mem_append_right _ (by simp), Or.inr h⟩
  unfold wm_243
  intro v77 e77 _
  subst e77
  refine c_learnU V0 (Or.inr k4) (fun Y VY cY _ => ⟨L.length + 1, lq (L.length + 1) 0 (by omega) (by omega) ?_ cY⟩)
  rw [w_un_cg (S' := fun v => False ∨ (v = w_nm m ∧ w_nm m ≠ []))]
  · exact VY
  · intro v
    have n1 := c_at_ne hV.1 k4
    constructor
    · rintro (h | ⟨e, he, _⟩)
      · exact Or.inr ⟨h, n1⟩
      · simp at he
    · rintro (h | ⟨h, _⟩)
      · exact h.elim
      · exact Or.inl h
end
end
