/-! ===== the class: commit, by the whole state ===== -/
noncomputable section
section
variable {H Z : sw_H} {nn nm m : Nat} {K K' : Wt → Prop} {tl tp mk mm : List Wt} {rd : Nat → Int} {ms ms' : List (List Wt)} {cn cs cn' cs' x x2 N U M : Int} {A : List Nat} {B : Nat → v_M} {lp : List Wt} {G' : w_G} {P : Int → sw_H → Prop} {E : Nat → sw_H → Prop}
/-- a member whose waiting commit alone is another -/
def v_ok3 (v : v_M) (o : Option (List Wt × w_G)) : v_M := (v_in v, v_G v, o, v_La v, v_U v, v_Lk v)
theorem c_Acm_b {g2 : Nat} : ∀ a ∈ c_Acm m g2, a = 2 ∨ a = 1416 ∨ (14 ≤ a ∧ a ≤ 16) ∨ (1420 ≤ a ∧ a ≤ 1422) ∨ a = 120 + 54 * m ∨ (44 ≤ a ∧ a ≤ 93) ∨ (g2 ≤ a ∧ a ≤ g2 + 22) := fun a ha => by
  unfold c_Acm c_Ag c_Ac at ha
  simp only [List.mem_append, List.mem_cons, List.not_mem_nil, or_false, List.mem_map, List.mem_range] at ha
  rcases ha with (((ha | (ha | ⟨i, hi, ha⟩) | ha) | ha) | ⟨i, hi, ha⟩) | ⟨i, hi, ha⟩ <;> omega
theorem v_cm_c (hm : m < 24) (h : c_ZZ H mk nn K tl cn cs tp rd ms B) (hBS : c_BS Z mm nm K' tl cn' cs' tp rd ms' (fun j => v_La (B j))) (hgp : c_gp Z mm (sw_rv H (120 + 54 * m) 5) G') (i1 : ∀ f, sw_iv Z (120 + 54 * m) f = if f = 6 then (ms.length : Int) else sw_iv H (120 + 54 * m) f) (r1 : ∀ f, sw_rv Z (120 + 54 * m) f = sw_rv H (120 + 54 * m) f) (hlp : ms'[ms.length]? = some lp) (hOut : c_Out Z) (hPa : c_Pa Z) (h91 : sw_iv Z 91 0 = 0) (hCh : c_Ch Z) (c : c_ch (c_Acm m (sw_rv H (120 + 54 * m) 5)) H Z) (hl : w_le mk mm) (hs : w_msl ms ms') : c_ZZ Z mm nm K' tl cn' cs' tp rd ms' (v_up B m (v_ok3 (B m) (some (lp, G')))) := by
  have h' := h
  obtain ⟨⟨hW0, hX, hMS, hKS⟩, ⟨y1, y2, y3, y4, y5⟩, ⟨t1, t2, t3, t4⟩, h4, h5, h6, h7⟩ := h'
  have fl := hW0.1.2.2.2.1
  have ad := hW0.1.2.2.2.2
  have hA := c_Acm_b (m := m) (g2 := sw_rv H (120 + 54 * m) 5)
  have gpl := (c_PL_5 h6 hm).1
  obtain ⟨g, eg⟩ : ∃ g, g = sw_rv H (120 + 54 * m) 5 := ⟨_, rfl⟩
  rw [← eg] at hA c gpl hgp
  have gb := c_pl_b gpl
  have g119 := c_pl_119 gpl
  have gm : ∀ j, j < 24 → 120 + 54 * j < g ∨ g + 22 < 120 + 54 * j := fun j hj => c_pl_m gpl hj
  have ga : ∀ j k, j < 24 → 47 ≤ k → k < 54 → 120 + 54 * j + k < g ∨ g + 22 < 120 + 54 * j + k := fun j k hj h1 h2 => c_pl_a gpl hj h1 h2
  have gd : ∀ k, k < 49 → k ≠ 2 * m + 2 → g + 22 < c_plc H k ∨ c_plc H k + 22 < g := fun k hk hn => c_pl_d gpl (h6.1 k hk).1 (fun e => by
    rw [eg, ← c_plc_5] at e
    exact hn (h6.2 _ _ (by omega) hk e).symm)
  have nj : ∀ j, j < 24 → j ≠ m → 120 + 54 * j ∉ c_Acm m g := fun j hj hn cc => by
    have := hA _ cc
    have := gm j hj
    omega
  have na : ∀ j k, j < 24 → 47 ≤ k → k < 54 → 120 + 54 * j + k ∉ c_Acm m g := fun j k hj k1 k2 cc => by
    have := hA _ cc
    have := ga j k hj k1 k2
    omega
  have n94 : 94 ∉ c_Acm m g := fun cc => by have := hA _ cc; omega
  have vv : ∀ a, c_fix a → a ∉ c_Acm m g → (∀ f, sw_iv Z a f = sw_iv H a f) ∧ ∀ f, sw_rv Z a f = sw_rv H a f := fun a ha hn => c_fx_iv fl ad c ha hn
  have rm : ∀ j, j < 24 → ∀ f, sw_rv Z (120 + 54 * j) f = sw_rv H (120 + 54 * j) f := fun j hj f => by
    by_cases cj : j = m
    · rw [cj]; exact r1 f
    · exact (vv _ (by unfold c_fix; omega) (nj j hj cj)).2 f
  have eL : (fun j => v_La (v_up B m (v_ok3 (B m) (some (lp, G'))) j)) = fun j => v_La (B j) := by
    funext j
    by_cases cj : j = m
    · subst cj
      have : v_up B j (v_ok3 (B j) (some (lp, G'))) j = v_ok3 (B j) (some (lp, G')) := if_pos rfl
      rw [this]
      rfl
    · have : v_up B m (v_ok3 (B m) (some (lp, G'))) j = B j := if_neg cj
      rw [this]
  obtain ⟨z1, z2, z3, z4, z5, z6⟩ := h7 m hm
  have d4 := gd (2 * m + 1) (by omega) (by omega)
  rw [c_plc_4] at d4
  refine c_ZZ_up h (by rw [eL]; exact hBS) ⟨hCh, hPa, h91, c_Ta_ch y4 fl ad c (fun cc => absurd cc n94), c_Re_ch y5 fl ad c (fun a ha => by have := hA a ha; omega)⟩ hOut c hl hs (by rw [(vv 18 (by unfold c_fix; omega) (fun cc => by have := hA _ cc; omega)).2]; exact t3) id (fun k hk => ⟨hk, ?_⟩) (fun j k _ _ e => e) (fun k hk hk0 => ?_) (fun a ha j hj cj => ?_) (fun a ha k hk hk0 => ?_) ⟨?_, fun hin => ?_, ?_, ?_, ?_, ?_⟩
  · show c_plc Z k = c_plc H k
    unfold c_plc
    by_cases k0 : k = 0
    · rw [if_pos k0, if_pos k0]
      exact (vv 94 (by unfold c_fix; omega) n94).2 6
    · rw [if_neg k0, if_neg k0, rm _ (by omega), rm _ (by omega)]
  · by_cases k2 : k = 2 * m + 2
    · rw [k2, c_plc_5, ← eg]
      exact hgp.1
    · have d := gd k hk k2
      have b := c_pl_b (h6.1 k hk).1
      have pm := c_pl_m (h6.1 k hk).1 hm
      exact c_gs_ch (h6.1 k hk).2 fl ad c (fun a ha hn => by have := hA a ha; omega) (fun cc => by have := hA _ cc; omega)
  · have a1 := hA a ha
    refine ⟨fun e => nj j hj cj (e ▸ ha), ?_⟩
    by_cases q : a < 120 + 54 * j + 49 ∨ 120 + 54 * j + 53 < a
    · exact q
    · have a5 := na j (a - (120 + 54 * j)) hj (by omega) (by omega)
      rw [show 120 + 54 * j + (a - (120 + 54 * j)) = a by omega] at a5
      exact absurd ha a5
  · have a1 := hA a ha
    have d := gd k hk (by omega)
    have b := c_pl_b (h6.1 k hk).1
    have pm := c_pl_m (h6.1 k hk).1 hm
    omega
  · rw [i1 3, if_neg (by omega)]; exact z1
  · show c_gp Z mm (sw_rv Z (120 + 54 * m) 4) (v_G (B m))
    rw [r1]
    have b4 := c_pl_b (c_PL_4 h6 hm).1
    have pm := c_pl_m (c_PL_4 h6 hm).1 hm
    exact c_gp_ch (z2 hin) fl ad c (fun a ha => by have := hA a ha; omega) hl
  · show c_pend Z mm m ms' (sw_rv Z (120 + 54 * m) 5) (some (lp, G'))
    exact ⟨⟨ms.length, by rw [i1, if_pos rfl], hlp⟩, by rw [r1, ← eg]; exact hgp⟩
  · exact c_ma_ch z4 hm fl ad c (fun _ f _ => r1 f)
  · exact c_up_ch z5 hm fl ad c (fun _ => by rw [i1, if_neg (by omega)]) (fun cc => na m 49 hm (by omega) (by omega) cc) hl
  · show c_pk Z mm ms' m (v_Lk (B m))
    obtain ⟨p1, p2, p3⟩ := z6
    refine ⟨by rw [i1, if_neg (by omega)]; exact p1, p2, fun i k u v hi => ?_⟩
    obtain ⟨w1, w2, w3, p, w4, w5⟩ := p3 i k u v hi
    rw [(vv (120 + 54 * m + 50) (by unfold c_fix; omega) (na m 50 hm (by omega) (by omega))).1, (vv (120 + 54 * m + 51) (by unfold c_fix; omega) (na m 51 hm (by omega) (by omega))).1, (vv (120 + 54 * m + 52) (by unfold c_fix; omega) (na m 52 hm (by omega) (by omega))).1, (vv (120 + 54 * m + 53) (by unfold c_fix; omega) (na m 53 hm (by omega) (by omega))).1]
    exact ⟨w1, w_le_at hl w2, w_le_at hl w3, p, hs k p w4, w_le_at hl w5⟩
/-- gathering alone -/
theorem c_ZZ_ga (h : c_ZZ H mk nn K tl cn cs tp rd ms B) (hBS : c_BS Z mk nn K tl cn' cs' tp rd ms (fun j => v_La (B j))) (hCh : c_Ch Z) (c : c_ch c_Ag H Z) : c_ZZ Z mk nn K tl cn' cs' tp rd ms B := by
  have fl := h.1.1.1.2.2.2.1
  have ad := h.1.1.1.2.2.2.2
  obtain ⟨y1, y2, y3, y4, y5⟩ := h.2.1
  have hA : ∀ a ∈ c_Ag, a = 14 ∨ a = 15 ∨ (44 ≤ a ∧ a ≤ 84) := fun a ha => by
    unfold c_Ag c_Ac at ha
    simp only [List.mem_append, List.mem_cons, List.not_mem_nil, or_false, List.mem_map, List.mem_range] at ha
    rcases ha with (ha | ⟨i, hi, ha⟩) | ha <;> omega
  have no : ∀ a, 84 < a → a ∉ c_Ag := fun a b cc => by have := hA a cc; omega
  exact c_ZZ_ch h hBS.1 c (w_le_refl _) ⟨hCh, c_Pa_ch y2 fl ad c (fun cc => absurd cc (no _ (by omega))), by rw [(c_fx_iv fl ad c (q := 91) (by unfold c_fix; omega) (no _ (by omega))).1]; exact y3, c_Ta_ch y4 fl ad c (fun cc => absurd cc (no _ (by omega))), c_Re_ch y5 fl ad c (fun a ha => by have := hA a ha; omega)⟩ (c_Out_ch h.2.2.2.1 fl ad c (no _ (by omega)) (no _ (by omega))) ((c_fx_iv fl ad c (q := 94) (by unfold c_fix; omega) (no _ (by omega))).2 6) (by rw [(c_fx_iv fl ad c (q := 18) (by unfold c_fix; omega) (fun cc => by have := hA _ cc; omega)).2]; exact h.2.2.1.2.2.1) (fun a ha => by have := hA a ha; unfold c_hl; omega)
theorem x_commit {Ca : Nat → List w_Ch} (lm : c_lm (cn + 4) (cs + 2400) N U M) (h : c_ZZ H mk nn K tl cn cs tp rd ms B) (bm : c_bl mk tl N U M) (hx5 : w_x5 ms) (hiv : ∀ m, m < 24 → v_in (B m) → g_iv m (v_G (B m)) ∧ gg_lv (v_G (B m)) ∧ w_kc K ms (v_La (B m)) (Ca m) ∧ w_kh ms (v_La (B m)) ∧ ∀ u ∈ v_U (B m), u.2 ≠ w_nm nn)
    (hb : ∀ m : Nat, x = m → m < 24 → v_in (B m) → ms.length < 300 → c_bS (k_S (v_G (B m)) m nn (v_wp x2 (Ca m) (B m)) (v_L (Ca m) (B m))) mk tl N U M)
    (q1 : ∀ X, (x < 0 ∨ 24 ≤ x) → c_ZZ X mk nn K tl (cn + 1) (cs + 6) tp rd ms B → c_ch [] H X → X = sw_nw H 112 0 6 → E (sw_n H + 2) X)
    (q2 : ∀ (m : Nat) (Z X : sw_H), x = m → m < 24 → (ms.length = 300 ∨ ¬ v_in (B m) ∨ (ms.length = 299 ∧ k_ad (v_G (B m)) (v_L (Ca m) (B m)) ≠ [])) → c_ZZ X mk nn K tl (cn + 1) (cs + 6) tp rd ms B → c_ch c_Ag H X → X = sw_nw Z 120 0 6 → E (sw_n Z + 2) X)
    (q : ∀ (m : Nat) X mm cn' cs', x = m → m < 24 → v_in (B m) → ms.length < 300 → (k_ad (v_G (B m)) (v_L (Ca m) (B m)) ≠ [] → ms.length < 299) → w_mo (k_S (v_G (B m)) m nn (v_wp x2 (Ca m) (B m)) (v_L (Ca m) (B m))) mk mm → (cn' = cn + 2 * (k_ms2 (v_G (B m)) m nn (v_wp x2 (Ca m) (B m)) (v_L (Ca m) (B m))).length ∧ cs' = cs + (((k_ms2 (v_G (B m)) m nn (v_wp x2 (Ca m) (B m)) (v_L (Ca m) (B m))).map (fun l => 2 + l.length)).sum : Nat)) → c_ZZ X mm (k_nn (v_G (B m)) nn (v_wp x2 (Ca m) (B m)) (v_L (Ca m) (B m))) (k_K K (v_G (B m)) m nn (v_wp x2 (Ca m) (B m)) (v_L (Ca m) (B m))) tl cn' cs' tp rd (ms ++ k_ms2 (v_G (B m)) m nn (v_wp x2 (Ca m) (B m)) (v_L (Ca m) (B m))) (v_up B m (v_cm m nn (v_wp x2 (Ca m) (B m)) (v_L (Ca m) (B m)) (B m))) → c_cp X = c_cp H → c_ch (c_Acm m (sw_rv H (120 + 54 * m) 5)) H X → P ms.length X) : wm_93 2 x x2 H P E := by
  have zm := h.2.2.2.2.2.2
  have pl := h.2.2.2.2.2.1
  have yes : ∀ m, m < 24 → sw_iv H (120 + 54 * m) 3 = 1 → v_in (B m) := fun m hm h0 => by
    rcases (zm m hm).1 with ⟨_, b⟩ | ⟨a, _⟩
    · exact b
    · rw [h0] at a; exact absurd a (by decide)
  have no : ∀ m, m < 24 → sw_iv H (120 + 54 * m) 3 = 0 → ¬ v_in (B m) := fun m hm h0 => by
    rcases (zm m hm).1 with ⟨a, _⟩ | ⟨_, b⟩
    · rw [h0] at a; exact absurd a (by decide)
    · exact b
  refine c_commit (La := fun m => v_La (B m)) (Ga := fun m => v_G (B m)) (Ua := fun m => v_U (B m)) (Ca := Ca) lm h.1 (fun m hm => ⟨?_, (c_PL_4 pl hm).1, (c_PL_5 pl hm).1, c_PL_45 pl hm hm, (c_PL_5 pl hm).2, (zm m hm).2.2.2.1, (zm m hm).2.2.2.2.1⟩) h.2.1.1 h.2.1.2.1 h.2.1.2.2.1 h.2.2.1.2.2.2 h.2.2.1.1 h.2.2.2.1 bm hx5 h.2.2.2.2.1 (fun m hm h1 => hiv m hm (yes m hm h1)) (fun m hx hm h1 => hb m hx hm (yes m hm h1)) (fun c => q1 _ c (c_ZZ_throw h 112) (c_I_throw (c_ZZ_I h) 112).2 rfl) (fun m hx hm c => ?_) (fun m X hx hm h1 h9 hne BX ChX cX => ?_) (fun m X mm cn' cs' hx hm h1 h3 h9 hmo BX gX iX rX hcc oX PaX X91 ChX cX => ?_)
  · rcases (zm m hm).1 with ⟨a, b⟩ | ⟨a, b⟩
    · exact Or.inr ⟨a, (zm m hm).2.1 b⟩
    · exact Or.inl a
  · exact q2 m H _ hx hm (by
      rcases c with c | c
      · exact Or.inl c
      · exact Or.inr (Or.inl (no m hm c))) (c_ZZ_throw h 120) (c_ch_sub (c_I_throw (c_ZZ_I h) 120).2 (by simp)) rfl
  · have zX := c_ZZ_ga h BX ChX cX
    have t := (c_I_throw (c_ZZ_I zX) 120).2
    exact q2 m X _ hx hm (Or.inr (Or.inr ⟨h9, hne⟩)) (c_ZZ_throw zX 120) (c_ch_sub (c_ch_trans cX t) (by simp)) rfl
  · refine q m X mm cn' cs' hx hm (yes m hm h1) h3 h9 hmo hcc (v_cm_c hm h BX gX iX rX (k_ms2_0 _ _ _ _ _) oX PaX X91 ChX cX hmo.1 (w_msl_app _ _)) (c_cp_ch h cX (fun j hj cc => ?_)) cX
    by_cases cj : j = m
    · rw [cj]; exact rX 8
    · have a1 := c_Acm_b _ cc
      have a2 := c_pl_m (c_PL_5 pl hm).1 hj
      omega
end
end
