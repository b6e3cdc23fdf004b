/-! ===== the class: deliver, by the whole state ===== -/
noncomputable section
section
variable {H G1 X Z : sw_H} {nn nm m k0 mi g gm g5 : Nat} {K K' S : Wt → Prop} {tl tp mk mm lm : List Wt} {rd : Nat → Int} {ms ms' : List (List Wt)} {cn cs cn' cs' x x1 x2 N U M z : Int} {A : List Nat} {B : Nat → v_M} {lp : List Wt} {P : Int → sw_H → Prop} {E : Nat → sw_H → Prop} {C : List w_Ch} {Pt : List (List Wt × Wt × Wt)}
/-- cells that are the class's own -/
def c_cA (A : List Nat) : Prop := ∀ a ∈ A, (1 < a ∧ a < 1423) ∨ 1491 < a
/-- what deliver leaves -/
def x_dlQ (H : sw_H) (mk : List Wt) (nn : Nat) (K : Wt → Prop) (tl : List Wt) (cn cs : Int) (tp : List Wt) (rd : Nat → Int) (ms : List (List Wt)) (B : Nat → v_M) (m mi : Nat) (C : List w_Ch) (Pt : List (List Wt × Wt × Wt)) (lm : List Wt) (P : Int → sw_H → Prop) : Prop := ∀ z v' X mm cn' cs' A, v_dl K mi (B m) C Pt lm z v' → w_mo (v_dS K (B m) C Pt lm) mk mm → cn' ≤ cn + 2 → cs' ≤ cs + 4 * (c_cp X - c_cp H) → c_ZZ X mm nn K tl cn' cs' tp rd ms (v_up B m v') → c_ch A H X → c_cA A → P z X
theorem x_dl_tp {ep lf : Int} {v : p_C} {sg tg : Wt} {r ra : Nat} (hm : m < 24) (lmm : c_lm (cn + 4) (cs + 4000) N U M) (h0 : 0 ≤ cn ∧ 0 ≤ cs) (hb : c_bS (v_dS K (B m) C Pt lm) mk tl N U M) (h : c_ZZ H mk nn K tl cn cs tp rd ms B) (hiv : v_iv K ms m (B m) C Pt) (w2 : w_ft lm 2) (hmi : ms[mi]? = some lm) (hr : r = sw_rv H 1416 mi) (hs : c_rs H mk r ra lm) (hvl : w_vl lm) (hp : p_pr K lm ep lf v sg tg) (i6 : sw_iv H 18 6 = ep) (i7 : sw_iv H 18 7 = lf) (hco : c_co H mk v) (q : x_dlQ H mk nn K tl cn cs tp rd ms B m mi C Pt lm P) : wm_207 94 (120 + 54 * m) r mi H P := by
  have zm := h.2.2.2.2.2.2 m hm
  have pl := h.2.2.2.2.2.1
  have ein := c_zm_in zm
  have fl := h.1.1.1.2.2.2.1
  have ad := h.1.1.1.2.2.2.2
  have hKS := h.1.2.2.2
  have nd := c_L_nd h.1.1.1.1
  have S1 : v_dS K (B m) C Pt lm (w_mem (v_G (B m))) := Or.inl ⟨w2, Or.inl rfl⟩
  have S2 : v_dS K (B m) C Pt lm (w_hs lm) := Or.inl ⟨w2, Or.inr rfl⟩
  refine c_takeProposal (G' := v_G (B m)) (La := fun j => v_La (B j)) hm lmm h0 (hb mk w_mo_refl nd) h.1 h.2.1.2.2.2.1 h.2.1.2.2.2.2 hmi hr hs hvl hp i6 i7 hco ?_ hiv.2.2.2.2 (fun _ => hb _ (w_mo_trans (w_mo_tl S1) (w_mo_tl S2)) (w_tl_nd (w_tl_nd nd))) (fun z mm X cn' cs' hR hmm hcc BX iX rX cX => ?_)
  · rcases zm.1 with ⟨a, b⟩ | ⟨a, b⟩
    · exact Or.inr ⟨a, (c_PL_4 pl hm).1, zm.2.1 b⟩
    · exact Or.inl a
  rw [ein] at hR
  have hmo : w_mo (v_dS K (B m) C Pt lm) mk mm := by
    rcases hmm with e | e | ⟨e0, e⟩
    · rw [e]; exact w_mo_refl
    · rw [e]; exact w_mo_tl S1
    · rw [e]; exact w_mo_trans (w_mo_tl S1) (w_mo_tl S2)
  have k78 := c_ka_78 hKS hm
  have hA : ∀ a ∈ [14, 15, 120 + 54 * m, c_ka H m 7, c_ka H m 8], a = 14 ∨ a = 15 ∨ a = 120 + 54 * m ∨ (120 + 54 * m + 47 ≤ a ∧ a ≤ 120 + 54 * m + 48) ∨ 1491 < a := fun a ha => by
    simp only [List.mem_cons, List.not_mem_nil, or_false] at ha
    omega
  have no : ∀ a, 15 < a → a < 120 ∨ 1416 ≤ a → a ≤ 1491 → a ∉ [14, 15, 120 + 54 * m, c_ka H m 7, c_ka H m 8] := fun a b1 b2 b3 cc => by have := hA a cc; omega
  have eL : (if z = 0 then w_upd (fun j => v_La (B j)) m (w_kp (v_La (B m)) (w_hs lm) mi) else fun j => v_La (B j)) = w_upd (fun j => v_La (B j)) m (if z = 0 then w_kp (v_La (B m)) (w_hs lm) mi else v_La (B m)) := by
    by_cases cz : z = 0
    · rw [if_pos cz, if_pos cz]
    · rw [if_neg cz, if_neg cz]
      funext j
      unfold w_upd
      by_cases cj : j = m
      · rw [if_pos cj, cj]
      · rw [if_neg cj]
  rw [eL] at BX
  have zX := v_pr_c (Ul := v_U (B m)) hm h BX (c_up_ch zm.2.2.2.2.1 hm fl ad cX (fun _ => iX 11 (by omega)) (fun cc => by have := hA _ cc; omega) hmo.1) (fun f f9 _ => iX f f9) rX (c_Out_ch h.2.2.2.1 fl ad cX (no _ (by omega) (by omega) (by omega)) (no _ (by omega) (by omega) (by omega))) (c_Re_ch h.2.1.2.2.2.2 fl ad cX (fun a ha => by have := hA a ha; omega)) ⟨by rw [(c_fx_ty fl cX (q := 18) (by unfold c_fix; omega)).1]; exact h.2.2.1.2.1, by rw [(c_fx_iv fl ad cX (q := 18) (by unfold c_fix; omega) (no _ (by omega) (by omega) (by omega))).2]; exact h.2.2.1.2.2.1⟩ cX (fun a ha => by have := hA a ha; omega) hmo.1 (w_msl_refl _)
  have oth : ∀ j, j < 24 → j ≠ m → sw_ln X (c_ka X j 8) = sw_ln H (c_ka H j 8) := fun j hj hn => by
    refine c_cp_ln hKS cX hj ((c_fx_iv fl ad cX (q := 120 + 54 * j) (by unfold c_fix; omega) (fun cc => ?_)).2 8)
    have := hA _ cc
    omega
  refine q z _ X mm cn' cs' _ (Or.inr (Or.inr (Or.inl ⟨w2, hR, rfl⟩))) hmo (by omega) ?_ zX cX (fun a ha => by have := hA a ha; omega)
  rcases hcc with ⟨_, e2, e3⟩ | ⟨_, _, e2, e3, _⟩
  · have := c_cp_up (d := 0) hm oth (by rw [e3]; simp)
    omega
  · have := c_cp_up (d := sw_ln H (c_ka H m 8)) hm oth (by rw [e3]; omega)
    omega
theorem x_dl_tc {ep sd : Int} {b e1 : Nat} {es : List p_E} {pt : Option p_P} {sg cf tg : Wt} {r ra : Nat} (hm : m < 24) (lmm : c_lm cn cs N U M) (hb : c_bS (v_dS K (B m) C Pt lm) mk tl N U M) (h : c_ZZ H mk nn K tl cn cs tp rd ms B) (hiv : v_iv K ms m (B m) C Pt) (hkh : w_kh ms (v_La (B m))) (hx5 : w_x5 ms) (w3 : w_ft lm 3) (hmi : ms[mi]? = some lm) (hr : r = sw_rv H 1416 mi) (hs : c_rs H mk r ra lm) (hcv : c_cmv H mk ep sd b e1 pt) (hcm : p_cm K lm ep sd b e1 es pt sg cf tg) (q : x_dlQ H mk nn K tl cn cs tp rd ms B m mi C Pt lm P) : wm_208 94 (120 + 54 * m) 1416 mi H P := by
  have zm := h.2.2.2.2.2.2 m hm
  have pl := h.2.2.2.2.2.1
  have ein := c_zm_in zm
  have p4 := (c_PL_4 pl hm).1
  have p0 := c_PL_0 pl
  have b0 := c_pl_b p0.1
  refine c_takeCommit (La := fun j => v_La (B j)) (G := v_G (B m)) (C := C) (Ul := v_U (B m)) (pd := v_pd (B m)) (S := v_dS K (B m) C Pt lm) (g := sw_rv H 94 6) (gm := sw_rv H (120 + 54 * m) 4) (g5 := sw_rv H (120 + 54 * m) 5) hm lmm hb h.1 h.2.1 h.2.2.1.1 hmi hr hs hcv hcm ?_ rfl p0.1 p0.2 (fun h1 => ⟨rfl, p4, c_PL_04 pl hm, zm.2.1 (ein ▸ h1), rfl, (c_PL_5 pl hm).1, (c_PL_5 pl hm).2.2.2.1, (hiv.1 (ein ▸ h1)).1, (hiv.1 (ein ▸ h1)).2.1⟩) zm.2.2.2.1 zm.2.2.2.2.1 hiv.2.1 hkh (fun h1 => (hiv.1 (ein ▸ h1)).2.2) (fun _ => zm.2.2.1) hx5 h.2.2.2.2.1 (fun h1 v hv => Or.inr (Or.inl ⟨w3, ein ▸ h1, hv⟩)) (fun z o X mm hR hmo hbS hW htol haft => ?_)
  · rcases zm.1 with ⟨a, b⟩ | ⟨a, b⟩
    · exact Or.inr a
    · exact Or.inl a
  rw [ein] at hR
  have hdl : v_dl K mi (B m) C Pt lm z (v_df (B m) o) := Or.inr (Or.inr (Or.inr (Or.inl ⟨w3, o, hR, rfl⟩)))
  have fin : ∀ A, c_ZZ X mm nn K tl cn cs tp rd ms (v_up B m (v_df (B m) o)) ∧ c_cp X = c_cp H → c_ch A H X → c_cA A → P z X := fun A hz c hc => q z _ X mm cn cs A hdl hmo (by omega) (by rw [hz.2]; omega) hz.1 c hc
  have hAt : ∀ a ∈ c_Atc (sw_rv H 94 6), (14 ≤ a ∧ a ≤ 17) ∨ (44 ≤ a ∧ a ≤ 95) ∨ (sw_rv H 94 6 ≤ a ∧ a ≤ sw_rv H 94 6 + 22) := fun a ha => by
    rw [c_Atc_m] at ha
    omega
  rcases haft with haft | ⟨G2, e, ho⟩
  · cases o with
    | none =>
      obtain ⟨a1, a2, a3⟩ := haft
      exact fin _ (c_ZZ_wk hm h hW htol a3 hAt (a2 6) hmo.1 a1) a3 (fun a ha => by have := hAt a ha; omega)
    | some o =>
      cases o with
      | none =>
        obtain ⟨a1, i1, r1, r94, c⟩ := haft
        have fl := h.1.1.1.2.2.2.1
        have ad := h.1.1.1.2.2.2.2
        have hAm : ∀ a ∈ (120 + 54 * m) :: c_Atc (sw_rv H 94 6), a = 120 + 54 * m ∨ (120 + 54 * m + 50 ≤ a ∧ a ≤ 120 + 54 * m + 53) ∨ (14 ≤ a ∧ a ≤ 17) ∨ (44 ≤ a ∧ a ≤ 95) ∨ (sw_rv H 94 6 ≤ a ∧ a ≤ sw_rv H 94 6 + 22) := fun a ha => by
          rw [List.mem_cons] at ha
          rcases ha with ha | ha
          · exact Or.inl ha
          · have := hAt a ha; omega
        have rj : ∀ j, j < 24 → ∀ f, sw_rv X (120 + 54 * j) f = sw_rv H (120 + 54 * j) f := fun j hj f => by
          by_cases cj : j = m
          · subst cj; exact r1 f
          · exact (c_fx_iv fl ad c (by unfold c_fix; omega) (fun cc => by
              have := hAm _ cc
              have := c_pl_m p0.1 hj
              omega)).2 f
        refine fin _ (c_ZZ_dj (k0 := 0) hm h hW htol c (Or.inl rfl) (by rw [c_plc_0]; exact hAm) hmo.1 id (fun k hk => ⟨hk, c_plc_t id (r94 6) (fun j hj => by rw [rj j hj]; exact (c_plc_4 j).symm) (fun j hj => by rw [rj j hj]; exact (c_plc_5 j).symm) hk⟩) (fun j k _ _ e => e) (by rw [c_plc_0]; exact a1) (fun f hf => by rw [i1 f, if_neg (by omega), if_neg (by omega), if_neg (by omega), if_neg (by omega)]) (Or.inr ⟨by rw [i1 3, if_pos rfl], fun c => c⟩) (fun c => c.elim) (by rw [i1 6, if_neg (by omega), if_pos rfl]) (by rw [i1 9, if_neg (by omega), if_neg (by omega), if_pos rfl]) (by rw [i1 11, if_neg (by omega), if_neg (by omega), if_neg (by omega), if_pos rfl]) (fun f _ _ => r1 f) ?_) c (fun a ha => by have := hAm a ha; omega)
        obtain ⟨p1, p2, p3⟩ := zm.2.2.2.2.2
        have vv : ∀ k, 50 ≤ k → k ≤ 53 → ∀ f, sw_iv X (120 + 54 * m + k) f = sw_iv H (120 + 54 * m + k) f := fun k k1 k2 => (c_fx_iv fl ad c (by unfold c_fix; omega) (fun cc => by
          rw [List.mem_cons] at cc
          rcases cc with cc | cc
          · omega
          · have := hAt _ cc
            have := c_pl_a p0.1 hm (k := k) (by omega) (by omega)
            omega)).1
        refine ⟨by rw [i1, if_neg (by omega), if_neg (by omega), if_neg (by omega), if_neg (by omega)]; exact p1, p2, fun i k u v hi => ?_⟩
        obtain ⟨y1, y2, y3, p, y4, y5⟩ := p3 i k u v hi
        rw [vv 50 (by omega) (by omega), vv 51 (by omega) (by omega), vv 52 (by omega) (by omega), vv 53 (by omega) (by omega)]
        exact ⟨y1, w_le_at hmo.1 y2, w_le_at hmo.1 y3, p, y4, w_le_at hmo.1 y5⟩
      | some G2 =>
        obtain ⟨hg, i1, r1, r94, c⟩ := haft
        have fl := h.1.1.1.2.2.2.1
        have ad := h.1.1.1.2.2.2.2
        have hAm : ∀ a ∈ (120 + 54 * m) :: 94 :: c_Atc (sw_rv H 94 6), a = 120 + 54 * m ∨ (120 + 54 * m + 50 ≤ a ∧ a ≤ 120 + 54 * m + 53) ∨ (14 ≤ a ∧ a ≤ 17) ∨ (44 ≤ a ∧ a ≤ 95) ∨ (sw_rv H 94 6 ≤ a ∧ a ≤ sw_rv H 94 6 + 22) := fun a ha => by
          rw [List.mem_cons, List.mem_cons] at ha
          rcases ha with ha | ha | ha
          · exact Or.inl ha
          · omega
          · have := hAt a ha; omega
        refine fin _ (c_ZZ_tk hm h hW htol hg (fun f _ => i1 f) r1 r94 ?_ c hAm hmo.1) c (fun a ha => by have := hAm a ha; omega)
        obtain ⟨p1, p2, p3⟩ := zm.2.2.2.2.2
        have vv : ∀ k, 50 ≤ k → k ≤ 53 → ∀ f, sw_iv X (120 + 54 * m + k) f = sw_iv H (120 + 54 * m + k) f := fun k k1 k2 => (c_fx_iv fl ad c (by unfold c_fix; omega) (fun cc => by
          rw [List.mem_cons, List.mem_cons] at cc
          rcases cc with cc | cc | cc
          · omega
          · omega
          · have := hAt _ cc
            have := c_pl_a p0.1 hm (k := k) (by omega) (by omega)
            omega)).1
        refine ⟨by rw [i1, if_neg (by omega), if_neg (by omega), if_neg (by omega), if_neg (by omega)]; exact p1, p2, fun i k u v hi => ?_⟩
        obtain ⟨y1, y2, y3, p, y4, y5⟩ := p3 i k u v hi
        rw [vv 50 (by omega) (by omega), vv 51 (by omega) (by omega), vv 52 (by omega) (by omega), vv 53 (by omega) (by omega)]
        exact ⟨y1, w_le_at hmo.1 y2, w_le_at hmo.1 y3, p, y4, w_le_at hmo.1 y5⟩
  · subst e
    exact fin [120 + 54 * m] (c_ZZ_ow hm h hW htol ho hmo.1) ho.2.2.2 (fun a ha => by rw [List.mem_singleton] at ha; omega)
theorem x_dl_tw {ep sd : Int} {b e1 : Nat} {prs : List (Wt × Wt)} {th cf cm sg : Wt} {ns : List p_V} {r ra : Nat} (hm : m < 24) (lmm : c_lm cn cs N U M) (hb : c_bS (v_dS K (B m) C Pt lm) mk tl N U M) (h : c_ZZ H mk nn K tl cn cs tp rd ms B) (hiv : v_iv K ms m (B m) C Pt) (hx5 : w_x5 ms) (hx6 : w_x6 lm) (w4 : w_ft lm 4) (hmi : ms[mi]? = some lm) (hr : r = sw_rv H 1416 mi) (hs : c_rs H mk r ra lm) (hwv : c_wev H mk ep sd b e1 ns) (hwe : p_we K lm ep b e1 prs th cf sd ns cm sg) (q : x_dlQ H mk nn K tl cn cs tp rd ms B m mi C Pt lm P) : wm_209 94 (120 + 54 * m) 1416 mi H P := by
  have zm := h.2.2.2.2.2.2 m hm
  have pl := h.2.2.2.2.2.1
  have ein := c_zm_in zm
  have p0 := c_PL_0 pl
  have b0 := c_pl_b p0.1
  have fl := h.1.1.1.2.2.2.1
  have ad := h.1.1.1.2.2.2.2
  obtain ⟨y1, y2, y3, y4, y5⟩ := h.2.1
  refine c_takeWelcome (La := fun j => v_La (B j)) (L := v_Lk (B m)) (Pt := Pt) (S := v_dS K (B m) C Pt lm) (g := sw_rv H 94 6) (gm := sw_rv H (120 + 54 * m) 4) hm lmm hb h.1 y4 y5 hmi hr hs hwv hwe ?_ rfl p0.1 p0.2 rfl (c_PL_4 pl hm).2.2.2.1 zm.2.2.2.1 zm.2.2.2.2.2 hiv.2.2.1 hiv.2.2.2.1 hx5 hx6 (fun v hv => Or.inr (Or.inr ⟨w4, hv⟩)) (fun z o X mm hR hmo hbS hW haft => ?_)
  · rcases zm.1 with ⟨a, b⟩ | ⟨a, b⟩
    · exact Or.inr a
    · exact Or.inl a
  rw [ein] at hR
  have hdl : v_dl K mi (B m) C Pt lm z (v_wf (B m) o) := Or.inr (Or.inr (Or.inr (Or.inr ⟨w4, o, hR, rfl⟩)))
  have tol : ∀ A, c_ch A H X → (∀ a ∈ A, a < 18 ∨ 93 < a) → (94 ∈ A → ∀ f, f < 6 → sw_rv X 94 f = sw_rv H 94 f) → c_tol X := fun A c hA h94 => ⟨c_Ch_ch y1 fl ad c (fun cc => by have := hA _ cc; omega) (fun cc => by have := hA _ cc; omega), c_Pa_ch y2 fl ad c (fun cc => by have := hA _ cc; omega), by rw [(c_fx_iv fl ad c (q := 91) (by unfold c_fix; omega) (fun cc => by have := hA _ cc; omega)).1]; exact y3, c_Ta_ch y4 fl ad c h94, c_Re_ch y5 fl ad c (fun a ha => by have := hA _ ha; omega)⟩
  cases o with
  | none =>
    obtain ⟨a1, c⟩ := haft
    have hAw : ∀ a ∈ c_Awe (sw_rv H 94 6), (14 ≤ a ∧ a ≤ 17) ∨ a = 95 ∨ (sw_rv H 94 6 ≤ a ∧ a ≤ sw_rv H 94 6 + 22) := fun a ha => by
      rw [c_Awe_m] at ha
      omega
    have n94 : 94 ∉ c_Awe (sw_rv H 94 6) := fun cc => by have := hAw _ cc; omega
    have hz := c_ZZ_wk hm h hW (tol _ c (fun a ha => by have := hAw a ha; omega) (fun cc => absurd cc n94)) c (fun a ha => by have := hAw a ha; omega) ((c_fx_iv fl ad c (q := 94) (by unfold c_fix; omega) n94).2 6) hmo.1 a1
    exact q z _ X mm cn cs _ hdl hmo (by omega) (by rw [hz.2]; omega) hz.1 c (fun a ha => by have := hAw a ha; omega)
  | some o =>
    obtain ⟨G2, i⟩ := o
    obtain ⟨hg, i1, r1, r94, hpk, c⟩ := haft
    have hAm : ∀ a ∈ (120 + 54 * m) :: 94 :: (c_Adp m ++ c_Awe (sw_rv H 94 6)), a = 120 + 54 * m ∨ (120 + 54 * m + 50 ≤ a ∧ a ≤ 120 + 54 * m + 53) ∨ (14 ≤ a ∧ a ≤ 17) ∨ (94 ≤ a ∧ a ≤ 95) ∨ (sw_rv H 94 6 ≤ a ∧ a ≤ sw_rv H 94 6 + 22) := fun a ha => by
      rw [List.mem_cons, List.mem_cons, List.mem_append, c_Awe_m] at ha
      unfold c_Adp at ha
      simp only [List.mem_cons, List.not_mem_nil, or_false] at ha
      omega
    have hz := c_ZZ_tk hm h hW (tol _ c (fun a ha => by have := hAm a ha; omega) (fun _ f hf => by rw [r94, if_neg (by omega)])) hg i1 r1 r94 hpk c (fun a ha => by have := hAm a ha; omega) hmo.1
    exact q z _ X mm cn cs _ hdl hmo (by omega) (by rw [hz.2]; omega) hz.1 c (fun a ha => by have := hAm a ha; omega)
end
end
