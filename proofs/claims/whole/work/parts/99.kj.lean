/-! ===== one call of the law: create, offer, propose, commit, deliver ===== -/
noncomputable section
section
variable {H Z : sw_H} {nn nm m g : Nat} {K K' : Wt → Prop} {tl tl' tp mk mm : List Wt} {rd : Nat → Int} {ms : List (List Wt)} {cn cs cn' cs' x N U M : Int} {A : List Nat} {B : Nat → v_M} {v : v_M} {Q : sw_H → Prop} {E : Nat → sw_H → Prop}
theorem x_create2 (lm : c_lm cn cs N U M) (hno : ∀ m, m < 24 → ¬ v_in (B m) → v_La (B m) = []) (bd : ∀ m : Nat, x = m → m < 24 → ¬ v_in (B m) → c_bl (w_tls mk (w_crL m nn)) tl N U M) (rm : sw_n H < sxlim.1 ∧ sw_s H + 6 ≤ sxlim.2) (h : c_ZZ H mk nn K tl cn cs tp rd ms B) (q1 : ¬ (0 ≤ x ∧ x < 24) → c_ZZ (sw_nw H 112 0 6) mk nn K tl (cn + 1) (cs + 6) tp rd ms B → c_ch [] H (sw_nw H 112 0 6) → E (sw_n H + 2) (sw_nw H 112 0 6)) (q2 : ∀ m : Nat, x = m → m < 24 → v_in (B m) → c_ZZ (sw_nw H 120 0 6) mk nn K tl (cn + 1) (cs + 6) tp rd ms B → c_ch [] H (sw_nw H 120 0 6) → E (sw_n H + 2) (sw_nw H 120 0 6)) (q : ∀ (m : Nat) (A : List Nat) X, x = m → m < 24 → ¬ v_in (B m) → c_ZZ X (w_tls mk (w_crL m nn)) (nn + 2) K tl cn cs tp rd ms (v_up B m (v_cr m nn (B m))) → c_ch A H X → (∀ a ∈ A, 13 < a ∧ a < 1423) → c_cp X = c_cp H → Q X) : wm_65 2 x H Q E := by
  have zm := h.2.2.2.2.2.2
  have pl := h.2.2.2.2.2.1
  have no : ∀ m, m < 24 → sw_iv H (120 + 54 * m) 3 = 0 → ¬ v_in (B m) := fun m hm h0 => by
    rcases (zm m hm).1 with ⟨a, _⟩ | ⟨_, b⟩
    · rw [h0] at a; exact absurd a (by decide)
    · exact b
  have yes : ∀ m, m < 24 → sw_iv H (120 + 54 * m) 3 = 1 → v_in (B m) := fun m hm h0 => by
    rcases (zm m hm).1 with ⟨_, b⟩ | ⟨a, _⟩
    · exact b
    · rw [h0] at a; exact absurd a (by decide)
  have a1 : ∀ m, m < 24 → sw_iv H (120 + 54 * m) 3 = 0 ∨ sw_iv H (120 + 54 * m) 3 = 1 := fun m hm => by
    rcases (zm m hm).1 with ⟨a, _⟩ | ⟨a, _⟩
    · exact Or.inr a
    · exact Or.inl a
  refine c_create lm h.1.1 h.1.2.1.1 h.1.2.2.1 h.2.2.1.2.2.2 a1 (fun m hm => ⟨(c_PL_5 pl hm).1, (c_PL_5 pl hm).2, (c_PL_4 pl hm).2.2.2.1, (c_PL_4 pl hm).1⟩) rm (fun m hx hm h0 => bd m hx hm (no m hm h0)) (fun c => q1 c (c_ZZ_throw h 112) (c_I_throw (c_ZZ_I h) 112).2) (fun m hx hm h1 => q2 m hx hm (yes m hm h1) (c_ZZ_throw h 120) (c_I_throw (c_ZZ_I h) 120).2) (fun m g X hx hm h0 hg hW hgp i1 r1 c => ?_)
  have gb : 96 ≤ g ∧ g + 22 ≤ 1415 := by rw [hg]; exact c_pl_b (c_PL_5 pl hm).1
  have hA : ∀ a ∈ [14, 15, 16, 1422, 120 + 54 * m, g, g + 1, g + 2, g + 3, g + 4, g + 6, g + 22], a = 14 ∨ a = 15 ∨ a = 16 ∨ a = 1422 ∨ a = 120 + 54 * m ∨ (g ≤ a ∧ a ≤ g + 22) := fun a ha => by
    simp only [List.mem_cons, List.not_mem_nil, or_false] at ha
    omega
  exact q m _ X hx hm (no m hm h0) (v_cr_c hm (hno m hm (no m hm h0)) h hg hW hgp i1 r1 c hA (w_tls_le (w_crL m nn) mk)) c (fun a ha => by have := hA a ha; omega) (c_cp_ch h c (fun j hj cc => by
    by_cases cj : j = m
    · rw [cj, r1, if_neg (by omega), if_neg (by omega)]
    · have a1 := hA _ cc
      have a2 := c_pl_m (c_PL_5 pl hm).1 hj
      rw [← hg] at a2
      omega))
end
section
variable {H Z : sw_H} {nn nm m : Nat} {K K' : Wt → Prop} {tl tp mk mm : List Wt} {rd : Nat → Int} {ms ms' : List (List Wt)} {cn cs cn' cs' x N U M : Int} {A : List Nat} {B : Nat → v_M} {Lk : List (Nat × Wt × Wt)} {P : Int → sw_H → Prop} {E : Nat → sw_H → Prop}
theorem x_offer2 (lm : c_lm cn cs N U M) (lm2 : c_lm (cn + 2) (cs + 2 + 9) N U M) (bd : ∀ m : Nat, x = m → m < 24 → ms.length < 300 → (v_Lk (B m)).length < 8 → c_bl (w_tls mk (w_ofC m nn)) tl N U M) (rm : sw_n H < sxlim.1 ∧ sw_s H + 6 ≤ sxlim.2) (h : c_ZZ H mk nn K tl cn cs tp rd ms B) (q1 : ¬ (0 ≤ x ∧ x < 24) → c_ZZ (sw_nw H 112 0 6) mk nn K tl (cn + 1) (cs + 6) tp rd ms B → c_ch [] H (sw_nw H 112 0 6) → E (sw_n H + 2) (sw_nw H 112 0 6)) (q2 : ∀ m : Nat, x = m → m < 24 → ms.length = 300 ∨ (v_Lk (B m)).length = 8 → c_ZZ (sw_nw H 120 0 6) mk nn K tl (cn + 1) (cs + 6) tp rd ms B → c_ch [] H (sw_nw H 120 0 6) → E (sw_n H + 2) (sw_nw H 120 0 6)) (q : ∀ (m : Nat) (A : List Nat) X, x = m → m < 24 → ms.length < 300 → (v_Lk (B m)).length < 8 → c_ZZ X (w_tls mk (w_ofC m nn)) (nn + 2) (w_lrs K (w_pkg m (w_ky nn) (w_ky (nn + 1)))) tl (cn + 2) (cs + 2 + 9) tp rd (ms ++ [w_pkg m (w_ky nn) (w_ky (nn + 1))]) (v_up B m (v_of nn ms.length (B m))) → c_ch A H X → (∀ a ∈ A, 1 < a ∧ a < 1423) → c_cp X = c_cp H → P ms.length X) : wm_74 2 x H P E := by
  have zm := h.2.2.2.2.2.2
  have pl := h.2.2.2.2.2.1
  have a1 : ∀ m, m < 24 → sw_iv H (120 + 54 * m) 3 = 0 ∨ (sw_iv H (120 + 54 * m) 3 ≠ 0 ∧ sw_ty H (sw_rv H (120 + 54 * m) 4) = 40 ∧ c_pl (sw_rv H (120 + 54 * m) 4)) := fun m hm => by
    rcases (zm m hm).1 with ⟨a, _⟩ | ⟨a, _⟩
    · exact Or.inr ⟨by omega, (c_PL_4 pl hm).2.2.2.1, (c_PL_4 pl hm).1⟩
    · exact Or.inl a
  refine cc_offer (Lk := fun m => v_Lk (B m)) (La := fun j => v_La (B j)) lm lm2 h.1.1 h.1.2.1 h.1.2.2.1 h.1.2.2.2 h.2.2.1.2.2.2 h.2.2.2.1 (fun m hm => (zm m hm).2.2.2.1) (fun m hm => (zm m hm).2.2.2.2.2) a1 rm bd (fun c => q1 c (c_ZZ_throw h 112) (c_I_throw (c_ZZ_I h) 112).2) (fun m hx hm h1 => q2 m hx hm h1 (c_ZZ_throw h 120) (c_I_throw (c_ZZ_I h) 120).2) (fun m X hx hm h3 h8 hW hXx hpk i1 r1 hOut hK c => ?_)
  have hA : ∀ a ∈ [14, 15, 1422, 1420, 1421, 2, 1416, 120 + 54 * m, 120 + 54 * m + 50, 120 + 54 * m + 51, 120 + 54 * m + 52, 120 + 54 * m + 53], a = 14 ∨ a = 15 ∨ (1420 ≤ a ∧ a ≤ 1422) ∨ a = 2 ∨ a = 1416 ∨ a = 120 + 54 * m ∨ (120 + 54 * m + 50 ≤ a ∧ a ≤ 120 + 54 * m + 53) := fun a ha => by
    simp only [List.mem_cons, List.not_mem_nil, or_false] at ha
    omega
  exact q m _ X hx hm h3 h8 (v_of_c hm h hW hXx hpk (fun f hf => by rw [i1, if_neg hf]) r1 hOut hK c hA (w_tls_le (w_ofC m nn) mk) (w_msl_app _ _)) c (fun a ha => by have := hA a ha; omega) (c_cp_ch h c (fun j hj cc => by
    by_cases cj : j = m
    · rw [cj]; exact r1 8
    · have a1 := hA _ cc
      omega))
end
section
variable {H X Z H' : sw_H} {I J : sr_V} {n nn nn' us us' m : Nat} {σ : Nat → Int} {K K' S : Wt → Prop} {tl tl' tp tp' mk mm mc mr l l' : List Wt} {rd rd' : Nat → Int} {ms ms' : List (List Wt)} {cn cs cn' cs' x4 z N U M kd of : Int} {A : List Nat} {B : Nat → v_M} {k q : sw_H → Prop} {v : v_M}
theorem m_st_G1 (h : m_st I mk m (w_G0 m nn)) : m_st I mk m (w_G1 m nn) := by
  obtain ⟨h1, h2, h3, h4, h5, h6, h7, h8, h9⟩ := h
  have w1 : t_w (w_T0 m (w_ky nn)) = 1 := rfl
  refine ⟨⟨h1.1, h1.2.1, h1.2.2.1, h1.2.2.2.1, fun x hx e => absurd e (w_t_ne _ _ _ _ _)⟩, h2, h3, h4, h5, h6, h7, fun x hx => ?_, h9⟩
  have hx : x < t_w (w_T0 m (w_ky nn)) := hx
  have e : x = 0 := by omega
  subst e
  exact h8 0 (by show 0 < t_w (w_T0 m (w_ky nn)); omega)
theorem c_gp_G1 {g : Nat} (h : c_gp H mk g (w_G0 m nn)) : c_gp H mk g (w_G1 m nn) := by
  obtain ⟨h1, h2, h3, h4, h5, h6, h7, h8, h9, h10, h11⟩ := h
  have w1 : t_w (w_T0 m (w_ky nn)) = 1 := rfl
  refine ⟨h1, ⟨h2.1, h2.2.1, h2.2.2.1, h2.2.2.2.1, fun x hx e => absurd e (w_t_ne _ _ _ _ _)⟩, h3, h4, h5, h6, h7, h8, h9, fun x hx => ?_, h11⟩
  have hx : x < t_w (w_T0 m (w_ky nn)) := hx
  have e : x = 0 := by omega
  subst e
  exact h10 0 (by show 0 < t_w (w_T0 m (w_ky nn)); omega)
theorem v_up_m {B : Nat → v_M} {m : Nat} {v : v_M} : v_up B m v m = v := if_pos rfl
theorem v_up_ne {B : Nat → v_M} {m j : Nat} {v : v_M} (h : j ≠ m) : v_up B m v j = B j := if_neg h
theorem m_ZZ_G1 (hm : m < 24) (h : m_ZZ I mk us (nn + 2) K tl tp rd ms (v_up B m (v_cr m nn v))) : m_ZZ I mk us (nn + 2) K tl tp rd ms (v_up B m (v_cr1 m nn v)) := by
  refine ⟨h.1, h.2.1, h.2.2.1, h.2.2.2.1, fun j hj => ?_⟩
  have hj' := h.2.2.2.2 j hj
  by_cases c : j = m
  · subst c
    rw [v_up_m] at hj' ⊢
    obtain ⟨a1, a2, a3, a4, a5, a6⟩ := hj'
    exact ⟨a1, fun hi => m_st_G1 (a2 hi), a3, a4, a5, a6⟩
  · rw [v_up_ne c] at hj' ⊢
    exact hj'
theorem c_ZZ_G1 (hm : m < 24) (h : c_ZZ H mk (nn + 2) K tl cn cs tp rd ms (v_up B m (v_cr m nn v))) : c_ZZ H mk (nn + 2) K tl cn cs tp rd ms (v_up B m (v_cr1 m nn v)) := by
  obtain ⟨h1, h2, h3, h4, h5, h6, h7⟩ := h
  have e : (fun j => v_La (v_up B m (v_cr m nn v) j)) = fun j => v_La (v_up B m (v_cr1 m nn v) j) := by
    funext j
    by_cases c : j = m
    · subst c; rw [v_up_m, v_up_m]; rfl
    · rw [v_up_ne c, v_up_ne c]
  refine ⟨by rw [← e]; exact h1, h2, h3, h4, h5, h6, fun j hj => ?_⟩
  have hj' := h7 j hj
  by_cases c : j = m
  · subst c
    rw [v_up_m] at hj' ⊢
    obtain ⟨a1, a2, a3, a4, a5, a6⟩ := hj'
    exact ⟨a1, fun hi => c_gp_G1 (a2 hi), a3, a4, a5, a6⟩
  · rw [v_up_ne c] at hj' ⊢
    exact hj'
/-- the kept changes and PACKAGEs of all members -/
theorem l_CP (hv : ∀ m, m < 24 → ∃ C Pt, v_mo K nn ms m (B m) C Pt) : ∃ (C : Nat → List w_Ch) (Pt : Nat → List (List Wt × Wt × Wt)), ∀ m, m < 24 → v_mo K nn ms m (B m) (C m) (Pt m) := by
  have h : ∀ m, ∃ C Pt, m < 24 → v_mo K nn ms m (B m) C Pt := fun m => by
    by_cases c : m < 24
    · obtain ⟨C, Pt, h⟩ := hv m c
      exact ⟨C, Pt, fun _ => h⟩
    · exact ⟨[], [], fun c' => absurd c' c⟩
  refine ⟨fun m => (h m).choose, fun m => (h m).choose_spec.choose, fun m hm => (h m).choose_spec.choose_spec hm⟩
theorem l_vup (hv : ∀ m, m < 24 → ∃ C Pt, v_mo K nn ms m (B m) C Pt) (hK : ∀ w, K w → K' w) (hs : w_msl ms ms') (hn : nn ≤ nn') (hm : ∃ C Pt, v_mo K' nn' ms' m v C Pt) : ∀ j, j < 24 → ∃ C Pt, v_mo K' nn' ms' j (v_up B m v j) C Pt := fun j hj => by
  by_cases c : j = m
  · subst c; rw [v_up_m]; exact hm
  · rw [v_up_ne c]
    obtain ⟨C, Pt, h⟩ := hv j hj
    exact ⟨C, Pt, v_mo_mo hK hs hn h⟩
theorem c_bS_L {L : List Wt} (hb : c_bS S mc tl N U M) (hL : ∀ v ∈ L, S v) (nd : mc.Nodup) : c_bl (w_tls mc L) tl N U M := hb _ (w_mo_tls L hL) (w_tls_nd L nd)
theorem m_bS_L {L : List Wt} (hb : m_bS S mr) (hL : ∀ v ∈ L, S v) (nd : mr.Nodup) : m_bd (w_tls mr L) := hb _ (w_mo_tls L hL) (w_tls_nd L nd)
theorem w_prC_ne {G : w_G} (h : kd = 1 → l = l') : w_prC m nn G kd of l = w_prC m nn G kd of l' := by
  unfold w_prC
  by_cases c : kd = 1
  · rw [h c]
  · rw [if_neg c, if_neg c]
theorem l_c1 {c : Int} (j0 : J 1000 0 = c) (kk : ∀ H', sr_m H' J → sr_fr X H' → k H') : ∀ H1, sr_m H1 J → sr_fr X H1 → ∃ I2, sr_m H1 I2 ∧ rm_9 I2 (fun z2 J2 => sw_c z2 → ∀ H2, sr_m H2 J2 → sr_fr H1 H2 → (z2 = c → k H2) ∧ (z2 ≠ c → q H2)) := by
  intro H1 m1 f1
  refine ⟨J, m1, ?_⟩
  unfold rm_9
  intro v e _ _ H2 m2 f2
  exact ⟨fun _ => kk H2 m2 (sr_fr_t f1 f2), fun c => absurd (e.trans j0) c⟩
theorem l_Ab : ∀ a ∈ [14, 15] ++ c_Bk, a < 120 ∨ 1415 < a := fun a ha => by
  rw [List.mem_append] at ha
  rcases ha with ha | ha
  · simp at ha; omega
  · have := c_Bk_b ha; omega
theorem l_cAb : c_cA ([14, 15] ++ c_Bk) := fun a ha => by
  rw [List.mem_append] at ha
  rcases ha with ha | ha
  · simp at ha; omega
  · have := c_Bk_b ha; omega
theorem l_ky_in (h : kd = 2) : w_p5 (w_nm nn) ∈ v_prM m nn v kd of l := by
  unfold v_prM w_prM w_prB w_prC
  rw [h, if_neg (by decide), if_pos rfl]
  unfold w_lh
  simp only [List.mem_append, List.mem_cons]
  simp [w_ky, w_p5]
theorem l_Ag : ∀ a ∈ c_Ag, a = 14 ∨ a = 15 ∨ (44 ≤ a ∧ a ≤ 84) := fun a ha => by
  unfold c_Ag c_Ac at ha
  simp only [List.mem_append, List.mem_cons, List.not_mem_nil, or_false, List.mem_map, List.mem_range] at ha
  rcases ha with (ha | ⟨i, hi, ha⟩) | ha <;> omega
theorem k_K_sub {G : w_G} {wp : Int} {L : List w_Ch} {w : Wt} (h : K w) : k_K K G m nn wp L w := by
  unfold k_K k_ms2
  split
  · exact w_lrs_sub _ h
  · exact w_lrs_sub _ (w_lrs_sub _ h)
theorem k_K_clo {G : w_G} {wp : Int} {L : List w_Ch} (h : w_clo K) : w_clo (k_K K G m nn wp L) := by
  unfold k_K k_ms2
  split
  · exact w_clo_lrs _ h
  · exact w_clo_lrs _ (w_clo_lrs _ h)
theorem k_nn_le {G : w_G} {wp : Int} {L : List w_Ch} : nn ≤ k_nn G nn wp L := by
  unfold k_nn w_pnn
  split
  · exact Nat.le_refl _
  · omega
theorem k_ms2_len {G : w_G} {wp : Int} {L : List w_Ch} : (k_ms2 G m nn wp L).length ≤ 2 := by
  unfold k_ms2
  split <;> simp
theorem l_sumk : ∀ {L : List (List Wt)}, (∀ p ∈ L, p.length ≤ 1200) → ((L.map (fun l => 2 + l.length)).sum : Nat) ≤ 1202 * L.length
  | [], _ => by simp
  | p :: L, h => by
    have ih := l_sumk (L := L) (fun q hq => h q (List.mem_cons_of_mem _ hq))
    have hp := h p (List.mem_cons_self ..)
    simp only [List.map_cons, List.sum_cons, List.length_cons]
    omega
/-- what is asked of the room by calls that make terms -/
def l_hc (K : Wt → Prop) (nn : Nat) (ms : List (List Wt)) (B : Nat → v_M) (mc mr tl tp : List Wt) (N U M : Int) : Prop := ∀ S ms', l_cv (fun _ => True) K nn ms B tp S ms' → ms'.length ≤ 301 → c_bS S mc tl N U M ∧ m_bS S mr
theorem s_create (hZ : l_Z n σ H mc mr nn K tl tp rd ms B cn cs) (hb : l_hb mc mr tl cn cs N U M) (hq : l_hc K nn ms B mc mr tl tp N U M) (hk : l_k n σ K nn ms B mc mr tl tp cn cs (c_cp H) k) (x0 : 0 ≤ x4) (x6 : x4 + 6 ≤ n) : 0 ≤ sw_w (x4 + 1) ∧ sw_w (x4 + 1) < (sw_ln H 1 : Int) ∧ ∀ v206, v206 = sw_iv H 1 (sw_w (x4 + 1)).toNat → sw_c v206 → wm_12 2 v206 H (fun z212 H209 => sw_c z212 → sw_ext H H209 → 0 ≤ sw_w (x4 + 1) ∧ sw_w (x4 + 1) < (sw_ln H209 1 : Int) ∧ ∀ v217, v217 = sw_iv H209 1 (sw_w (x4 + 1)).toNat → sw_c v217 → ∃ I220, sr_m H209 I220 ∧ rm_13 v217 I220 (fun J221 => ∀ H222, sr_m H222 J221 → sr_fr H209 H222 → ∃ I230, sr_m H222 I230 ∧ rm_9 I230 (fun z236 J231 => sw_c z236 → ∀ H232, sr_m H232 J231 → sr_fr H222 H232 → (z236 = z212 → k H232) ∧ (z236 ≠ z212 → q H232)))) := by
  obtain ⟨hS, hc, ⟨I, us, hm, hz⟩, hv, h5, hK⟩ := id hZ
  have rm := l_hb_rm hb hc
  have lm0 : c_lm cn cs N U M := c_lm_le hb.1 (by omega) (by omega)
  have hl := hb.2.2.2.1
  have h0 := hb.2.1
  have cA0 : c_cA [] := fun a ha => by simp at ha
  have ndc := c_L_nd hc.1.1.1.1
  have ndr := m_L_nd hz.1.1
  have m300 : ms.length ≤ 301 := by have := hz.1.2.2.1.2.1; omega
  have hno : ∀ m, m < 24 → ¬ v_in (B m) → v_La (B m) = [] := fun m hm hi => by
    obtain ⟨C, Pt, h⟩ := hv m hm
    exact (h.2.2.2.2.2.1 hi).1
  have cov : ∀ {q : List Wt → Prop} (m : Nat), m < 24 → l_cv q K nn ms B tp (fun v => v ∈ w_crL m nn) ms := fun m hm => Or.inr (Or.inr (Or.inl ⟨⟨m, hm, fun _ h => h⟩, rfl⟩))
  refine l_rd1 hS x0 x6 (fun ca => x_create2 lm0 hno (fun m _ hm' _ => c_bS_L (hq _ _ (cov m hm') m300).1 (fun _ h => h) ndc) (by omega) hc (fun c0 zX cX _ => Or.inl ⟨l_ty 112, ?_⟩) (fun m a1 a2 a3 zX cX _ => Or.inr ⟨l_ty 120, ?_⟩) (fun m A X a1 a2 a3 zX cX hA hcp _ => ?_))
  · intro _ _
    have SG := l_S_ch hS hc cX cA0
    refine l_rd1 SG x0 x6 (fun _ => ⟨I, l_m_ch hm hc cX cA0, z_create (fun m _ hm' _ => m_bS_L (hq _ _ (cov m hm') m300).2 (fun _ h => h) ndr) hz (fun J us' b1 zJ j0 => ?_) (fun m J us' b1 b2 b3 zJ j0 => by omega) (fun m J us' b1 b2 b3 zJ j0 => by omega)⟩)
    exact l_c1 j0 (l_th hZ zX hb hk SG (l_cp0 hc cX (by simp)) zJ)
  · intro _ _
    have SG := l_S_ch hS hc cX cA0
    refine l_rd1 SG x0 x6 (fun _ => ⟨I, l_m_ch hm hc cX cA0, z_create (fun m _ hm' _ => m_bS_L (hq _ _ (cov m hm') m300).2 (fun _ h => h) ndr) hz (fun J us' b1 zJ j0 => by omega) (fun m J us' b1 b2 b3 zJ j0 => ?_) (fun m2 J us' b1 b2 b3 zJ j0 => ?_)⟩)
    · exact l_c1 j0 (l_th hZ zX hb hk SG (l_cp0 hc cX (by simp)) zJ)
    · have e : m2 = m := by omega
      subst e
      exact absurd a3 b3
  · intro _ _
    have cA : c_cA A := fun a ha => by have := hA a ha; omega
    have SG := l_S_ch hS hc cX cA
    refine l_rd1 SG x0 x6 (fun _ => ⟨I, l_m_ch hm hc cX cA, z_create (fun m _ hm' _ => m_bS_L (hq _ _ (cov m hm') m300).2 (fun _ h => h) ndr) hz (fun J us' b1 zJ j0 => by omega) (fun m2 J us' b1 b2 b3 zJ j0 => ?_) (fun m2 J us' b1 b2 b3 zJ j0 => ?_)⟩)
    · have e : m2 = m := by omega
      subst e
      exact absurd b3 a3
    · have e : m2 = m := by omega
      subst e
      refine l_c1 j0 (l_dn SG (c_ZZ_G1 a2 zX) (m_ZZ_G1 a2 zJ) (l_vup hv (fun _ h => h) (w_msl_refl _) (by omega) ?_) (w_m5_tls h5 (fun v hv => w_g5_cr hv)) hK ⟨by omega, by omega, ?_, fun v => v ∈ w_crL m2 nn, cov m2 a2, w_mo_tls _ (fun _ h => h), w_mo_tls _ (fun _ h => h)⟩ hk)
      · obtain ⟨C, Pt, h⟩ := hv m2 a2
        exact ⟨[], Pt, v_mo_cr a2 h⟩
      · rw [hcp]
        omega
theorem s_offer (hZ : l_Z n σ H mc mr nn K tl tp rd ms B cn cs) (hb : l_hb mc mr tl cn cs N U M) (hq : l_hc K nn ms B mc mr tl tp N U M) (hk : l_k n σ K nn ms B mc mr tl tp cn cs (c_cp H) k) (x0 : 0 ≤ x4) (x6 : x4 + 6 ≤ n) : 0 ≤ sw_w (x4 + 1) ∧ sw_w (x4 + 1) < (sw_ln H 1 : Int) ∧ ∀ v241, v241 = sw_iv H 1 (sw_w (x4 + 1)).toNat → sw_c v241 → wm_14 2 v241 1491 H (fun z247 H244 => sw_c z247 → sw_ext H H244 → 0 ≤ sw_w (x4 + 1) ∧ sw_w (x4 + 1) < (sw_ln H244 1 : Int) ∧ ∀ v252, v252 = sw_iv H244 1 (sw_w (x4 + 1)).toNat → sw_c v252 → ∃ I255, sr_m H244 I255 ∧ rm_15 v252 I255 (fun z261 J256 => sw_c z261 → ∀ H257, sr_m H257 J256 → sr_fr H244 H257 → ∃ I268, sr_m H257 I268 ∧ rm_9 I268 (fun z274 J269 => sw_c z274 → ∀ H270, sr_m H270 J269 → sr_fr H257 H270 → (z274 = z247 → (z247 ≠ 0 → k H270) ∧ (z247 = 0 → (0 : Int) < sw_ln H270 1491 ∧ ∀ v278, v278 = sw_iv H270 1491 0 → (Int64.ofInt v278).toInt = v278 → ∀ v281, sw_c v281 → (v281 = 0 ↔ v278 = z261) → (v281 = 0 → k H270) ∧ (v281 ≠ 0 → q H270))) ∧ (z274 ≠ z247 → q H270)))) := by
  obtain ⟨hS, hc, ⟨I, us, hm, hz⟩, hv, h5, hK⟩ := id hZ
  have rm := l_hb_rm hb hc
  have lm0 : c_lm cn cs N U M := c_lm_le hb.1 (by omega) (by omega)
  have hl := hb.2.2.2.1
  have h0 := hb.2.1
  have cA0 : c_cA [] := fun a ha => by simp at ha
  have ndc := c_L_nd hc.1.1.1.1
  have ndr := m_L_nd hz.1.1
  have m300 : ms.length ≤ 301 := by have := hz.1.2.2.1.2.1; omega
  have cov : ∀ {q : List Wt → Prop} (m : Nat), m < 24 → l_cv q K nn ms B tp (fun v => v ∈ w_ofL m nn ++ w_ofC m nn) (ms ++ [w_pkg m (w_ky nn) (w_ky (nn + 1))]) := fun m hm => Or.inr (Or.inr (Or.inr (Or.inl ⟨⟨m, hm, fun _ h => h⟩, ⟨_, rfl⟩⟩)))
  have le : ∀ {m : Nat}, ms.length < 300 → (ms ++ [w_pkg m (w_ky nn) (w_ky (nn + 1))]).length ≤ 301 := fun h => by rw [List.length_append, List.length_singleton]; omega
  have bdr : ∀ m : Nat, σ (x4.toNat + 1) = m → m < 24 → ms.length < 300 → (v_Lk (B m)).length < 8 → m_bd (w_tls mr (w_ofL m nn)) := fun m _ hm' h3 _ => m_bS_L (hq _ _ (cov m hm') (le h3)).2 (fun _ h => List.mem_append_left _ h) ndr
  refine l_rd1 hS x0 x6 (fun ca => x_offer2 lm0 (c_lm_le hb.1 (by omega) (by omega)) (fun m _ hm' h3 _ => c_bS_L (hq _ _ (cov m hm') (le h3)).1 (fun _ h => List.mem_append_right _ h) ndc) (by omega) hc (fun c0 zX cX _ => Or.inl ⟨l_ty 112, ?_⟩) (fun m a1 a2 a3 zX cX _ => Or.inr ⟨l_ty 120, ?_⟩) (fun m A X a1 a2 a3 a4 zX cX hA hcp _ _ => ?_))
  · intro _ _
    have SG := l_S_ch hS hc cX cA0
    refine l_rd1 SG x0 x6 (fun _ => ⟨I, l_m_ch hm hc cX cA0, z_offer bdr hz (fun J us' b1 zJ j0 => ?_) (fun m J us' b1 b2 b3 zJ j0 => by omega) (fun m J us' b1 b2 b3 b4 zJ j0 => by omega)⟩)
    exact l_te j0 (by decide) (l_th hZ zX hb hk SG (l_cp0 hc cX (by simp)) zJ)
  · intro _ _
    have SG := l_S_ch hS hc cX cA0
    refine l_rd1 SG x0 x6 (fun _ => ⟨I, l_m_ch hm hc cX cA0, z_offer bdr hz (fun J us' b1 zJ j0 => by omega) (fun m J us' b1 b2 b3 zJ j0 => ?_) (fun m2 J us' b1 b2 b3 b4 zJ j0 => ?_)⟩)
    · exact l_te j0 (by decide) (l_th hZ zX hb hk SG (l_cp0 hc cX (by simp)) zJ)
    · have e : m2 = m := by omega
      subst e
      omega
  · have cA : c_cA A := fun a ha => by have := hA a ha; omega
    have SG0 := l_S_ch hS hc cX cA
    refine ⟨by have := SG0.2.2.2; omega, fun H6 e6 => ?_⟩
    intro _ _
    rw [e6]
    have SG := l_S_si SG0 (ms.length : Int)
    refine l_rd1 SG x0 x6 (fun _ => ⟨I, l_m_si (l_m_ch hm hc cX cA) _, z_offer bdr hz (fun J us' b1 zJ j0 => by omega) (fun m2 J us' b1 b2 b3 zJ j0 => ?_) (fun m2 J us' b1 b2 b3 b4 zJ j0 => ?_)⟩)
    · have e : m2 = m := by omega
      subst e
      omega
    · have e : m2 = m := by omega
      subst e
      refine l_t0 j0 (l_si_v _) SG.2.2.2 (l_dn SG (c_ZZ_si zX _) zJ (l_vup hv (fun _ h => w_lrs_sub _ h) (w_msl_app _ _) (by omega) ?_) (w_m5_tls h5 (fun v hv => w_g5_of hv)) (w_clo_lrs _ hK) ⟨by omega, by omega, ?_, fun v => v ∈ w_ofL m2 nn ++ w_ofC m2 nn, cov m2 a2, w_mo_tls _ (fun _ h => List.mem_append_right _ h), w_mo_tls _ (fun _ h => List.mem_append_left _ h)⟩ hk)
      · obtain ⟨C, Pt, h⟩ := hv m2 a2
        obtain ⟨Pt', h'⟩ := v_mo_of a2 h
        exact ⟨C, Pt', h'⟩
      · rw [c_cp_si, hcp, List.length_append, List.length_singleton]
        omega
theorem s_propose (hZ : l_Z n σ H mc mr nn K tl tp rd ms B cn cs) (hb : l_hb mc mr tl cn cs N U M) (hq : l_hc K nn ms B mc mr tl tp N U M) (hk : l_k n σ K nn ms B mc mr tl tp cn cs (c_cp H) k) (x0 : 0 ≤ x4) (x6 : x4 + 6 ≤ n) : 0 ≤ sw_w (x4 + 1) ∧ sw_w (x4 + 1) < (sw_ln H 1 : Int) ∧ ∀ v287, v287 = sw_iv H 1 (sw_w (x4 + 1)).toNat → sw_c v287 → 0 ≤ sw_w (x4 + 2) ∧ sw_w (x4 + 2) < (sw_ln H 1 : Int) ∧ ∀ v290, v290 = sw_iv H 1 (sw_w (x4 + 2)).toNat → sw_c v290 → 0 ≤ sw_w (x4 + 3) ∧ sw_w (x4 + 3) < (sw_ln H 1 : Int) ∧ ∀ v293, v293 = sw_iv H 1 (sw_w (x4 + 3)).toNat → sw_c v293 → wm_16 2 v287 v290 v293 1491 H (fun z299 H296 => sw_c z299 → sw_ext H H296 → 0 ≤ sw_w (x4 + 1) ∧ sw_w (x4 + 1) < (sw_ln H296 1 : Int) ∧ ∀ v304, v304 = sw_iv H296 1 (sw_w (x4 + 1)).toNat → sw_c v304 → 0 ≤ sw_w (x4 + 2) ∧ sw_w (x4 + 2) < (sw_ln H296 1 : Int) ∧ ∀ v307, v307 = sw_iv H296 1 (sw_w (x4 + 2)).toNat → sw_c v307 → 0 ≤ sw_w (x4 + 3) ∧ sw_w (x4 + 3) < (sw_ln H296 1 : Int) ∧ ∀ v310, v310 = sw_iv H296 1 (sw_w (x4 + 3)).toNat → sw_c v310 → ∃ I313, sr_m H296 I313 ∧ rm_17 v304 v307 v310 I313 (fun z319 J314 => sw_c z319 → ∀ H315, sr_m H315 J314 → sr_fr H296 H315 → ∃ I326, sr_m H315 I326 ∧ rm_9 I326 (fun z332 J327 => sw_c z332 → ∀ H328, sr_m H328 J327 → sr_fr H315 H328 → (z332 = z299 → (z299 ≠ 0 → k H328) ∧ (z299 = 0 → (0 : Int) < sw_ln H328 1491 ∧ ∀ v336, v336 = sw_iv H328 1491 0 → (Int64.ofInt v336).toInt = v336 → ∀ v339, sw_c v339 → (v339 = 0 ↔ v336 = z319) → (v339 = 0 → k H328) ∧ (v339 ≠ 0 → q H328))) ∧ (z332 ≠ z299 → q H328)))) := by
  obtain ⟨hS, hc, ⟨I, us, hm, hz⟩, hv, h5, hK⟩ := id hZ
  have rm := l_hb_rm hb hc
  have lm0 : c_lm cn cs N U M := c_lm_le hb.1 (by omega) (by omega)
  have hl := hb.2.2.2.1
  have h0 := hb.2.1
  have cA0 : c_cA [] := fun a ha => by simp at ha
  have ndc := c_L_nd hc.1.1.1.1
  have ndr := m_L_nd hz.1.1
  have m300 : ms.length ≤ 301 := by have := hz.1.2.2.1.2.1; omega
  have hU : ∀ m, m < 24 → (v_U (B m)).length ≤ (v_La (B m)).length := fun m hm => by
    obtain ⟨C, Pt, h⟩ := hv m hm
    exact h.2.2.2.1
  have cov : ∀ {q : List Wt → Prop} (m : Nat) (l : List Wt), m < 24 → v_in (B m) → (σ (x4.toNat + 2) = 1 → ms[(σ (x4.toNat + 3)).toNat]? = some l ∧ q l) → l_cv q K nn ms B tp (fun v => v ∈ w_prA m nn (v_G (B m)) (σ (x4.toNat + 2)) (σ (x4.toNat + 3)) l) (ms ++ [v_prM m nn (B m) (σ (x4.toNat + 2)) (σ (x4.toNat + 3)) l]) := fun m l hm hi h1 => Or.inr (Or.inr (Or.inr (Or.inr (Or.inl ⟨⟨m, _, _, l, hm, hi, fun c => ⟨List.mem_of_getElem? (h1 c).1, (h1 c).2⟩, fun _ h => h⟩, ⟨_, rfl⟩⟩))))
  have le : ∀ {p : List Wt}, ms.length < 300 → (ms ++ [p]).length ≤ 301 := fun h => by rw [List.length_append, List.length_singleton]; omega
  have bdm : m_bd mr := ⟨by have := hb.2.2.2.2.1; omega, by have := hb.2.2.2.2.2; omega⟩
  refine l_rd1 hS x0 x6 (fun ca => l_rd2 hS x0 x6 (fun cb => l_rd3 hS x0 x6 (fun cc => x_propose hb.1 h0 hc hU (by omega) hb.2.2.1 (fun m l _ hm' hi h3 _ h1 => c_bS_L (hq _ _ (cov m l hm' hi (fun c => ⟨h1 c, trivial⟩)) (le h3)).1 (fun _ h => h) ndc) (fun X c0 zX cX eX _ => Or.inl ⟨by rw [eX]; exact l_ty 112, ?_⟩) (fun l X c0 c1 c2 c3 zX cX eX _ => Or.inr (Or.inl ⟨?_, ?_⟩)) (fun m X c0 c1 a1 a2 a3 zX cX eX _ => Or.inr (Or.inr ⟨?_, ?_⟩)) (fun m l X cn' cs' c0 c1 a1 a2 a3 a4 a5 hcn hcs zX cX _ _ => ?_))))
  · intro _ _
    have SG := l_S_ch hS hc cX cA0
    refine l_rd1 SG x0 x6 (fun _ => l_rd2 SG x0 x6 (fun _ => l_rd3 SG x0 x6 (fun _ => ⟨I, l_m_ch hm hc cX cA0, z_propose hz bdm hU cc (fun m l _ hm' hi h3 _ h1 => m_bS_L (hq _ _ (cov m l hm' hi (fun c => ⟨h1 c, trivial⟩)) (le h3)).2 (fun _ h => h) ndr) (fun J us' b1 zJ j0 => ?_) (fun l J us' b1 b2 b3 b4 zJ j0 => absurd c0 b1) (fun m J us' b1 b2 b3 b4 b5 zJ j0 => absurd c0 b1) (fun m l J us' b1 b2 b3 b4 b5 b6 b7 zJ j0 => absurd c0 b1)⟩)))
    exact l_te j0 (by decide) (l_th hZ zX hb hk SG (l_cp0 hc cX (by simp)) zJ)
  · obtain ⟨Z, e, en⟩ := eX
    rw [e, ← en]
    exact l_ty 128
  · intro _ _
    have cA : c_cA ([14, 15] ++ c_Bk) := l_cAb
    have SG := l_S_ch hS hc cX cA
    refine l_rd1 SG x0 x6 (fun _ => l_rd2 SG x0 x6 (fun _ => l_rd3 SG x0 x6 (fun _ => ⟨I, l_m_ch hm hc cX cA, z_propose hz bdm hU cc (fun m l _ hm' hi h3 _ h1 => m_bS_L (hq _ _ (cov m l hm' hi (fun c => ⟨h1 c, trivial⟩)) (le h3)).2 (fun _ h => h) ndr) (fun J us' b1 zJ j0 => absurd b1 c0) (fun l' J us' b1 b2 b3 b4 zJ j0 => ?_) (fun m J us' b1 b2 b3 b4 b5 zJ j0 => ?_) (fun m l' J us' b1 b2 b3 b4 b5 b6 b7 zJ j0 => ?_)⟩)))
    · exact l_te j0 (by decide) (l_th hZ zX hb hk SG (l_cp0 hc cX l_Ab) zJ)
    · obtain ⟨l', d1, d2⟩ := b2 c1
      have e := Option.some.inj (c2.symm.trans d1)
      subst e
      exact absurd d2 c3
    · obtain ⟨d1, d2⟩ := b2 c1
      have e := Option.some.inj (c2.symm.trans d1)
      subst e
      exact absurd d2 c3
  · obtain ⟨Z, e, en⟩ := eX
    rw [e, ← en]
    exact l_ty 120
  · intro _ _
    have cA : c_cA ([14, 15] ++ c_Bk) := l_cAb
    have SG := l_S_ch hS hc cX cA
    refine l_rd1 SG x0 x6 (fun _ => l_rd2 SG x0 x6 (fun _ => l_rd3 SG x0 x6 (fun _ => ⟨I, l_m_ch hm hc cX cA, z_propose hz bdm hU cc (fun m l _ hm' hi h3 _ h1 => m_bS_L (hq _ _ (cov m l hm' hi (fun c => ⟨h1 c, trivial⟩)) (le h3)).2 (fun _ h => h) ndr) (fun J us' b1 zJ j0 => absurd b1 c0) (fun l' J us' b1 b2 b3 b4 zJ j0 => ?_) (fun m J us' b1 b2 b3 b4 b5 zJ j0 => ?_) (fun m2 l' J us' b1 b2 b3 b4 b5 b6 b7 zJ j0 => ?_)⟩)))
    · obtain ⟨l2, d1, d2⟩ := c1 b2
      have e := Option.some.inj (d1.symm.trans b3)
      subst e
      exact absurd d2 b4
    · exact l_te j0 (by decide) (l_th hZ zX hb hk SG (l_cp0 hc cX l_Ab) zJ)
    · have e : m2 = m := by omega
      subst e
      rcases a3 with a3 | a3 | a3
      · omega
      · exact absurd b6 a3
      · omega
  · have cA : c_cA (c_pA m H) := fun a ha => by have := c_pA_b hc.1.2.2.2 a2 a ha; omega
    have SG0 := l_S_ch hS hc cX cA
    refine ⟨by have := SG0.2.2.2; omega, fun H6 e6 => ?_⟩
    intro _ _
    rw [e6]
    have SG := l_S_si SG0 (ms.length : Int)
    refine l_rd1 SG x0 x6 (fun _ => l_rd2 SG x0 x6 (fun _ => l_rd3 SG x0 x6 (fun _ => ⟨I, l_m_si (l_m_ch hm hc cX cA) _, z_propose hz bdm hU cc (fun m l _ hm' hi h3 _ h1 => m_bS_L (hq _ _ (cov m l hm' hi (fun c => ⟨h1 c, trivial⟩)) (le h3)).2 (fun _ h => h) ndr) (fun J us' b1 zJ j0 => absurd b1 c0) (fun l' J us' b1 b2 b3 b4 zJ j0 => ?_) (fun m2 J us' b1 b2 b3 b4 b5 zJ j0 => ?_) (fun m2 l' J us' b1 b2 b3 b4 b5 b6 b7 zJ j0 => ?_)⟩)))
    · obtain ⟨d1, d2⟩ := c1 b2
      have e := Option.some.inj (d1.symm.trans b3)
      subst e
      exact absurd d2 b4
    · have e : m2 = m := by omega
      subst e
      rcases b5 with b5 | b5 | b5
      · omega
      · exact absurd a4 b5
      · omega
    · have e : m2 = m := by omega
      subst e
      have eC : w_prC m2 nn (v_G (B m2)) (σ (x4.toNat + 2)) (σ (x4.toNat + 3)) l' = w_prC m2 nn (v_G (B m2)) (σ (x4.toNat + 2)) (σ (x4.toNat + 3)) l := w_prC_ne (fun k1 => Option.some.inj ((b2 k1).1.symm.trans (c1 k1).1))
      have eM : v_prM m2 nn (B m2) (σ (x4.toNat + 2)) (σ (x4.toNat + 3)) l' = v_prM m2 nn (B m2) (σ (x4.toNat + 2)) (σ (x4.toNat + 3)) l := by
        unfold v_prM
        rw [eC]
      have eA : w_prA m2 nn (v_G (B m2)) (σ (x4.toNat + 2)) (σ (x4.toNat + 3)) l' = w_prA m2 nn (v_G (B m2)) (σ (x4.toNat + 2)) (σ (x4.toNat + 3)) l := by
        unfold w_prA
        rw [eC]
      have eV : v_pr m2 nn ms.length (B m2) (σ (x4.toNat + 2)) (σ (x4.toNat + 3)) l' = v_pr m2 nn ms.length (B m2) (σ (x4.toNat + 2)) (σ (x4.toNat + 3)) l := by
        unfold v_pr
        rw [eM]
      rw [eM, eA, eV] at zJ
      have hc1 : σ (x4.toNat + 2) = 1 → ms[(σ (x4.toNat + 3)).toNat]? = some l := fun k1 => (c1 k1).1
      refine l_t0 j0 (l_si_v _) SG.2.2.2 (l_dn SG (c_ZZ_si zX _) zJ (l_vup hv (fun _ h => w_lrs_sub _ h) (w_msl_app _ _) (by split <;> omega) ?_) (w_m5_tls h5 (fun v hv => w_g5_pr hv)) (w_clo_lrs _ hK) ⟨by omega, by omega, ?_, fun v => v ∈ w_prA m2 nn (v_G (B m2)) (σ (x4.toNat + 2)) (σ (x4.toNat + 3)) l, cov m2 l a2 a4 c1, w_mo_tls _ (fun _ h => h), w_mo_tls _ (fun _ h => h)⟩ hk)
      · obtain ⟨C, Pt, h⟩ := hv m2 a2
        have gok := ((hz.2.2.2.2 m2 a2).2.1 a4).1
        rw [a1] at c0
        obtain ⟨C', h'⟩ := v_mo_pr a2 a3 a4 gok c0 (fun k1 => (c1 k1).2) (fun k2 hmem => m_ZZ_fresh hz hmem (l_ky_in k2)) h
        exact ⟨C', Pt, h'⟩
      · rw [c_cp_si, List.length_append, List.length_singleton]
        omega
theorem s_commit (hZ : l_Z n σ H mc mr nn K tl tp rd ms B cn cs) (hb : l_hb mc mr tl cn cs N U M) (hq : l_hc K nn ms B mc mr tl tp N U M) {Q : Int → sw_H → Prop} {k13 : Nat → Nat → Int → sw_H → Prop} (hk : l_k n σ K nn ms B mc mr tl tp cn cs (c_cp H) (fun H' => wb_0_690 Q k13 2 1491 x4 H')) (x0 : 0 ≤ x4) (x6 : x4 + 6 ≤ n) : 0 ≤ sw_w (x4 + 1) ∧ sw_w (x4 + 1) < (sw_ln H 1 : Int) ∧ ∀ v345, v345 = sw_iv H 1 (sw_w (x4 + 1)).toNat → sw_c v345 → 0 ≤ sw_w (x4 + 2) ∧ sw_w (x4 + 2) < (sw_ln H 1 : Int) ∧ ∀ v348, v348 = sw_iv H 1 (sw_w (x4 + 2)).toNat → sw_c v348 → (v348 = 0 → wb_0_296 Q k13 2 1491 x4 0 v345 2 H) ∧ (v348 ≠ 0 → wb_0_296 Q k13 2 1491 x4 1 v345 2 H) := by
  obtain ⟨hS, hc, ⟨I, us, hm, hz⟩, hv, h5, hK⟩ := id hZ
  have rm := l_hb_rm hb hc
  have lm0 : c_lm cn cs N U M := c_lm_le hb.1 (by omega) (by omega)
  have hl := hb.2.2.2.1
  have h0 := hb.2.1
  have cA0 : c_cA [] := fun a ha => by simp at ha
  have ndc := c_L_nd hc.1.1.1.1
  have ndr := m_L_nd hz.1.1
  have m300 : ms.length ≤ 301 := by have := hz.1.2.2.1.2.1; omega
  obtain ⟨C, Pt, hCP⟩ := l_CP hv
  have gok : ∀ m, m < 24 → v_in (B m) → gg_ok (v_G (B m)) := fun m hm hi => ((hz.2.2.2.2 m hm).2.1 hi).1
  have vl := m_ZZ_vl hz
  have hx5 := m_ZZ_x5 hz h5
  have go : ∀ x2 : Int, (x2 = 0 ∧ σ (x4.toNat + 2) = 0) ∨ (x2 = 1 ∧ σ (x4.toNat + 2) ≠ 0) → wb_0_296 Q k13 2 1491 x4 x2 (σ (x4.toNat + 1)) 2 H := by
    intro x2 hx2
    have cov : ∀ {q : List Wt → Prop} (m : Nat), m < 24 → v_in (B m) → l_cv q K nn ms B tp (k_S (v_G (B m)) m nn (v_wp x2 (C m) (B m)) (v_L (C m) (B m))) (ms ++ k_ms2 (v_G (B m)) m nn (v_wp x2 (C m) (B m)) (v_L (C m) (B m))) := fun m hm hi => Or.inr (Or.inr (Or.inr (Or.inr (Or.inr (Or.inl ⟨m, C m, Pt m, x2, hm, hi, hCP m hm, fun _ h => h, rfl⟩)))))
    have hiv : ∀ m, m < 24 → v_in (B m) → g_iv m (v_G (B m)) ∧ gg_lv (v_G (B m)) ∧ w_kc K ms (v_La (B m)) (C m) ∧ w_kh ms (v_La (B m)) ∧ ∀ u ∈ v_U (B m), u.2 ≠ w_nm nn := fun m hm hi => by
      have h := hCP m hm
      refine ⟨(h.1.1 hi).1, (h.1.1 hi).2.1, h.1.2.1, h.2.1, fun u hu e => ?_⟩
      obtain ⟨⟨i, i1, i2⟩, _⟩ := h.2.2.2.2.1 u hu
      rw [i2] at e
      have := (w_mk_inj e).2
      simp only [List.cons.injEq, and_true] at this
      omega
    have lw : ∀ m : Nat, ms.length < 300 → (ms ++ k_ms2 (v_G (B m)) m nn (v_wp x2 (C m) (B m)) (v_L (C m) (B m))).length ≤ 301 := fun m h3 => by
      rw [List.length_append]
      unfold k_ms2
      split
      · simp only [List.length_singleton]; omega
      · simp only [List.length_cons, List.length_nil]; omega
    have bS : ∀ m : Nat, σ (x4.toNat + 1) = m → m < 24 → v_in (B m) → ms.length < 300 → c_bS (k_S (v_G (B m)) m nn (v_wp x2 (C m) (B m)) (v_L (C m) (B m))) mc tl N U M ∧ m_bS (k_S (v_G (B m)) m nn (v_wp x2 (C m) (B m)) (v_L (C m) (B m))) mr := fun m _ hm hi h3 => hq _ _ (cov m hm hi) (lw m h3)
    have dn : ∀ {Y : sw_H} {JJ : sr_V} {u : Nat}, c_ZZ Y mc nn K tl (cn + 1) (cs + 6) tp rd ms B → l_S Y n σ → c_cp Y = c_cp H → m_ZZ JJ mr u nn K tl tp rd ms B → ∀ H', sr_m H' JJ → sr_fr Y H' → wb_0_690 Q k13 2 1491 x4 H' := fun zY SY cpY zJ => l_th hZ zY hb hk SY cpY zJ
    have br2 : ∀ (x2 : Int), (x2 = 0 ∧ σ (x4.toNat + 2) = 0) ∨ (x2 = 1 ∧ σ (x4.toNat + 2) ≠ 0) → ∀ {z : Int} {Y : sw_H}, wb_0_314 Q k13 2 1491 x4 z x2 (σ (x4.toNat + 1)) Y → (σ (x4.toNat + 2) = 0 → wb_0_314 Q k13 2 1491 x4 z 0 (σ (x4.toNat + 1)) Y) ∧ (σ (x4.toNat + 2) ≠ 0 → wb_0_314 Q k13 2 1491 x4 z 1 (σ (x4.toNat + 1)) Y) := fun x2 h z Y hw => by
      rcases h with ⟨e, c⟩ | ⟨e, c⟩
      · rw [e] at hw
        exact ⟨fun _ => hw, fun c' => absurd c c'⟩
      · rw [e] at hw
        exact ⟨fun c' => absurd c' c, fun _ => hw⟩
    unfold wb_0_296
    refine x_commit (Ca := C) (c_lm_le hb.1 (by omega) (by omega)) hc hb.2.2.1 hx5 hiv (fun m e hm hi h3 => (bS m e hm hi h3).1) (fun X c0 zX cX eX _ => Or.inl ⟨by rw [eX]; exact l_ty 112, ?_⟩) (fun m Z X a1 a2 a3 zX cX eX _ => Or.inr ⟨by rw [eX]; exact l_ty 120, ?_⟩) (fun m X mm cn' cs' a1 a2 a3 a4 a5 hmo hcc zX hcp cX _ _ => ?_)
    · intro _ _
      have SG := l_S_ch hS hc cX cA0
      refine l_rd1 SG x0 x6 (fun _ => l_rd2 SG x0 x6 (fun _ => ?_))
      refine br2 x2 hx2 ⟨I, l_m_ch hm hc cX cA0, z_commit (Ca := C) hz hx5 (fun m hm hi => ⟨(hiv m hm hi).1, (hiv m hm hi).2.2.1⟩) (fun m e hm hi h3 => (bS m e hm hi h3).2) (fun J us' b1 zJ j0 => ?_) (fun m J us' b1 b2 b3 zJ j0 => by omega) (fun m J mm us' b1 b2 b3 b4 b5 b6 zJ j0 => by omega)⟩
      exact l_te j0 (by decide) (dn zX SG (l_cp0 hc cX (by simp)) zJ)
    · intro _ _
      have cA : c_cA c_Ag := fun a ha => by have := l_Ag a ha; omega
      have SG := l_S_ch hS hc cX cA
      refine l_rd1 SG x0 x6 (fun _ => l_rd2 SG x0 x6 (fun _ => ?_))
      refine br2 x2 hx2 ⟨I, l_m_ch hm hc cX cA, z_commit (Ca := C) hz hx5 (fun m hm hi => ⟨(hiv m hm hi).1, (hiv m hm hi).2.2.1⟩) (fun m e hm hi h3 => (bS m e hm hi h3).2) (fun J us' b1 zJ j0 => by omega) (fun m2 J us' b1 b2 b3 zJ j0 => ?_) (fun m2 J mm us' b1 b2 b3 b4 b5 b6 zJ j0 => ?_)⟩
      · exact l_te j0 (by decide) (dn zX SG (l_cp0 hc cX (fun a ha => by have := l_Ag a ha; omega)) zJ)
      · have e : m2 = m := by omega
        subst e
        rcases a3 with a3 | a3 | ⟨a3, a4⟩
        · omega
        · exact absurd b3 a3
        · have := b5 a4; omega
    · have hA := c_Acm_b (m := m) (g2 := sw_rv H (120 + 54 * m) 5)
      have gb := c_pl_b (c_PL_5 hc.2.2.2.2.2.1 a2).1
      have cA : c_cA (c_Acm m (sw_rv H (120 + 54 * m) 5)) := fun a ha => by have := hA a ha; omega
      have SG0 := l_S_ch hS hc cX cA
      refine ⟨by have := SG0.2.2.2; omega, fun H6 e6 => ?_⟩
      intro _ _
      rw [e6]
      have SG := l_S_si SG0 (ms.length : Int)
      refine l_rd1 SG x0 x6 (fun _ => l_rd2 SG x0 x6 (fun _ => ?_))
      refine br2 x2 hx2 ⟨I, l_m_si (l_m_ch hm hc cX cA) _, z_commit (Ca := C) hz hx5 (fun m hm hi => ⟨(hiv m hm hi).1, (hiv m hm hi).2.2.1⟩) (fun m e hm hi h3 => (bS m e hm hi h3).2) (fun J us' b1 zJ j0 => by omega) (fun m2 J us' b1 b2 b3 zJ j0 => ?_) (fun m2 J mm2 us' b1 b2 b3 b4 b5 b6 zJ j0 => ?_)⟩
      · have e : m2 = m := by omega
        subst e
        rcases b3 with b3 | b3 | ⟨b3, b4⟩
        · omega
        · exact absurd a3 b3
        · have := a5 b4; omega
      · have e : m2 = m := by omega
        subst e
        have lens : ∀ p ∈ k_ms2 (v_G (B m2)) m2 nn (v_wp x2 (C m2) (B m2)) (v_L (C m2) (B m2)), p.length ≤ 1200 := fun p hp => by
          obtain ⟨i, hi⟩ := List.mem_iff_getElem?.mp (List.mem_append_right ms hp)
          exact (zJ.1.2.2.1.2.2.2.2 i p hi).2.2.1
        refine l_t0 j0 (l_si_v _) SG.2.2.2 (l_dn SG (c_ZZ_si zX _) zJ (l_vup hv (fun w hw => k_K_sub hw) (w_msl_app _ _) k_nn_le ?_) (w_m5_mo h5 b6 (fun v hv => w_g5_cm hv)) (k_K_clo hK) ⟨by omega, ?_, ?_, k_S (v_G (B m2)) m2 nn (v_wp x2 (C m2) (B m2)) (v_L (C m2) (B m2)), cov m2 a2 a3, hmo, b6⟩ hk)
        · exact ⟨C m2, Pt m2, v_mo_cm a2 a3 (gok m2 a2 a3) hx5 vl (w_msl_app _ _) (fun w hw => k_K_sub hw) k_nn_le (hCP m2 a2)⟩
        · have := k_ms2_len (G := v_G (B m2)) (m := m2) (nn := nn) (wp := v_wp x2 (C m2) (B m2)) (L := v_L (C m2) (B m2))
          rw [hcc.1]
          omega
        · rw [hcc.2, c_cp_si, hcp, List.length_append]
          have := l_sumk lens
          omega
  refine l_rd1 hS x0 x6 (fun ca => l_rd2 hS x0 x6 (fun cb => ⟨fun c => go 0 (Or.inl ⟨rfl, c⟩), fun c => go 1 (Or.inr ⟨rfl, c⟩)⟩))
theorem s_deliver (hZ : l_Z n σ H mc mr nn K tl tp rd ms B cn cs) (hb : l_hb mc mr tl cn cs N U M) (hq : l_hc K nn ms B mc mr tl tp N U M) (hk : l_k n σ K nn ms B mc mr tl tp cn cs (c_cp H) k) (x0 : 0 ≤ x4) (x6 : x4 + 6 ≤ n) : 0 ≤ sw_w (x4 + 1) ∧ sw_w (x4 + 1) < (sw_ln H 1 : Int) ∧ ∀ v352, v352 = sw_iv H 1 (sw_w (x4 + 1)).toNat → sw_c v352 → 0 ≤ sw_w (x4 + 2) ∧ sw_w (x4 + 2) < (sw_ln H 1 : Int) ∧ ∀ v355, v355 = sw_iv H 1 (sw_w (x4 + 2)).toNat → sw_c v355 → wm_20 2 v352 v355 1491 H (fun z361 H358 => sw_c z361 → sw_ext H H358 → 0 ≤ sw_w (x4 + 1) ∧ sw_w (x4 + 1) < (sw_ln H358 1 : Int) ∧ ∀ v366, v366 = sw_iv H358 1 (sw_w (x4 + 1)).toNat → sw_c v366 → 0 ≤ sw_w (x4 + 2) ∧ sw_w (x4 + 2) < (sw_ln H358 1 : Int) ∧ ∀ v369, v369 = sw_iv H358 1 (sw_w (x4 + 2)).toNat → sw_c v369 → ∃ I372, sr_m H358 I372 ∧ rm_21 v366 v369 I372 (fun z378 J373 => sw_c z378 → ∀ H374, sr_m H374 J373 → sr_fr H358 H374 → ∃ I385, sr_m H374 I385 ∧ rm_9 I385 (fun z391 J386 => sw_c z391 → ∀ H387, sr_m H387 J386 → sr_fr H374 H387 → (z391 = z361 → (z361 ≠ 0 → k H387) ∧ (z361 = 0 → (0 : Int) < sw_ln H387 1491 ∧ ∀ v395, v395 = sw_iv H387 1491 0 → (Int64.ofInt v395).toInt = v395 → ∀ v398, sw_c v398 → (v398 = 0 ↔ v395 = z378) → (v398 = 0 → k H387) ∧ (v398 ≠ 0 → q H387))) ∧ (z391 ≠ z361 → q H387)))) := by
  obtain ⟨hS, hc, ⟨I, us, hm, hz⟩, hv, h5, hK⟩ := id hZ
  have rm := l_hb_rm hb hc
  have lm0 : c_lm cn cs N U M := c_lm_le hb.1 (by omega) (by omega)
  have hl := hb.2.2.2.1
  have h0 := hb.2.1
  have cA0 : c_cA [] := fun a ha => by simp at ha
  have ndc := c_L_nd hc.1.1.1.1
  have ndr := m_L_nd hz.1.1
  have m300 : ms.length ≤ 301 := by have := hz.1.2.2.1.2.1; omega
  obtain ⟨C, Pt, hCP⟩ := l_CP hv
  have gok : ∀ m, m < 24 → v_in (B m) → gg_ok (v_G (B m)) := fun m hm hi => ((hz.2.2.2.2 m hm).2.1 hi).1
  have vl := m_ZZ_vl hz
  have hx5 := m_ZZ_x5 hz h5
  have hx6 := m_ZZ_x6 hz h5
  have hiv : ∀ m, m < 24 → v_iv K ms m (B m) (C m) (Pt m) := fun m hm => (hCP m hm).1
  have cov : ∀ {q : List Wt → Prop} (m mi : Nat) (lm : List Wt), m < 24 → ms[mi]? = some lm → l_cv q K nn ms B tp (v_dS K (B m) (C m) (Pt m) lm) ms := fun m mi lm hm hlm => Or.inr (Or.inr (Or.inr (Or.inr (Or.inr (Or.inr ⟨m, mi, lm, C m, Pt m, hm, hCP m hm, hlm, fun _ h => h, rfl⟩)))))
  refine l_rd1 hS x0 x6 (fun ca => l_rd2 hS x0 x6 (fun cb => x_deliver (C := C) (Pt := Pt) hb.1 h0 hb.2.2.1 hc (by omega) hx5 hx6 hiv (fun m hm => (hCP m hm).2.1) (fun m mi lm _ _ hm' hlm => (hq _ _ (cov m mi lm hm' hlm) m300).1) (fun X c0 zX cX eX _ => ⟨by rw [eX]; exact l_ty 112, ?_⟩) (fun m mi lm z v' X mm cn' cs' A a1 a2 a3 a4 a5 hmo hcn hcs zX cX cA _ _ => ?_)))
  · intro _ _
    have SG := l_S_ch hS hc cX cA0
    refine l_rd1 SG x0 x6 (fun _ => l_rd2 SG x0 x6 (fun _ => ⟨I, l_m_ch hm hc cX cA0, z_deliver (C := C) (Pt := Pt) hz hx5 hiv (fun m mi lm _ _ hm' hlm => (hq _ _ (cov m mi lm hm' hlm) m300).2) (fun J us' b1 zJ j0 => ?_) (fun m mi lm z v' J mm us' b1 b2 b3 b4 b5 b6 zJ j0 => ?_)⟩))
    · exact l_te j0 (by decide) (l_th hZ zX hb hk SG (l_cp0 hc cX (by simp)) zJ)
    · have := (List.getElem?_eq_some_iff.mp b4).1
      exact absurd ⟨by omega, by omega, by omega, by omega⟩ c0
  · have SG0 := l_S_ch hS hc cX cA
    refine ⟨by have := SG0.2.2.2; omega, fun H6 e6 => ?_⟩
    intro _ _
    rw [e6]
    have SG := l_S_si SG0 z
    have lt := (List.getElem?_eq_some_iff.mp a4).1
    refine l_rd1 SG x0 x6 (fun _ => l_rd2 SG x0 x6 (fun _ => ⟨I, l_m_si (l_m_ch hm hc cX cA) _, z_deliver (C := C) (Pt := Pt) hz hx5 hiv (fun m mi lm _ _ hm' hlm => (hq _ _ (cov m mi lm hm' hlm) m300).2) (fun J us' b1 zJ j0 => absurd ⟨by omega, by omega, by omega, by omega⟩ b1) (fun m2 mi2 lm2 z2 v2 J mm2 us' b1 b2 b3 b4 b5 b6 zJ j0 => ?_)⟩))
    have e : m2 = m := by omega
    subst e
    have e : mi2 = mi := by omega
    subst e
    have e := Option.some.inj (a4.symm.trans b4)
    subst e
    obtain ⟨e1, e2⟩ := v_dl_un a5 b5
    subst e1 e2
    refine l_t0 j0 (l_si_v _) SG.2.2.2 (l_dn SG (c_ZZ_si zX _) zJ (l_vup hv (fun _ h => h) (w_msl_refl _) (Nat.le_refl _) ?_) (w_m5_mo h5 b6 (fun v hv => w_g5_dl hv)) hK ⟨by omega, by omega, by rw [c_cp_si]; omega, v_dS K (B m2) (C m2) (Pt m2) lm, cov m2 mi2 lm a3 a4, hmo, b6⟩ hk)
    exact v_mo_dl hz.1.2.2.1.2.1 (gok m2 a3) hx5 vl a4 a5 (hCP m2 a3)
end
end
