/-! ===== how many terms a COMMIT makes who takes it ===== -/
noncomputable section
section
variable {G : w_G} {m l : Nat} {C L : List w_Ch} {S K : Wt → Prop} {T : w_T} {lm : List Wt} {cs : Wt} {kf : Nat → Wt}
theorem b_cv_clS {p : Wt} {k : Nat} (h4 : t_dp T ≤ 4) : b_cv (d_clS T l p k) 12 0 := by
  refine b_cv_le (b_cv_im (S1 := fun v => ∃ j, j < t_dp T ∧ (v = w_dr (d_ls T l p k j) 5 ∨ v = w_p5 (w_dr (d_ls T l p k j) 5) ∨ v = w_dr (d_ls T l p k j) 4)) (b_cv_lt (F := fun j v => v = w_dr (d_ls T l p k j) 5 ∨ v = w_p5 (w_dr (d_ls T l p k j) 5) ∨ v = w_dr (d_ls T l p k j) 4) (n := 3) (u := 0) (t_dp T) (fun j hj => ?_)) (fun v h => ?_)) (by omega) (by omega)
  · have a := b_cv_t (S := fun v => v = w_dr (d_ls T l p k j) 5) (fun v h => h)
    have b := b_cv_t (S := fun v => v = w_p5 (w_dr (d_ls T l p k j) 5)) (fun v h => h)
    have c := b_cv_t (S := fun v => v = w_dr (d_ls T l p k j) 4) (fun v h => h)
    exact b_cv_or a (b_cv_or b c (fun v h => h)) (fun v h => h)
  · obtain ⟨j, _, h1, _, h2⟩ := h
    exact ⟨j, h1, h2⟩
theorem b_cv_eS (h4 : t_dp T ≤ 4) (hui : t_ui T) (hl : lm.length ≤ 347) : b_cv (d_eS G T cs lm) 38 779 := by
  have a2 := b_cv_t (S := fun v => v = w_ini G) (fun v h => h)
  have a3 := b_cv_t (S := fun v => v = w_jnr G cs) (fun v h => h)
  have a4 := b_cv_t (S := fun v => v = d_cf G lm) (fun v h => h)
  have a5 := b_cv_t (S := fun v => v = d_es G T cs lm) (fun v h => h)
  have a6 := b_cv_t (S := fun v => v = w_dr (d_es G T cs lm) 2) (fun v h => h)
  have a7 := b_cv_t (S := fun v => v = d_cm G T cs lm) (fun v h => h)
  have a10 := b_cv_t (S := fun v => v = w_int (d_cf G lm) (d_cm G T cs lm)) (fun v h => h)
  have a11 := b_cv_ui (T := T) (S := fun v => ∃ y ∈ b_all T, v = w_th T 0 y) hui h4 (fun v h => h)
  have dl : (d_lt lm).length ≤ 345 := by
    unfold d_lt
    have := w_sli_len (l := lm) (i := 0) (j := lm.length - 2) (by omega)
    omega
  refine b_cv_le (b_cv_or a2 (b_cv_or a3 (b_cv_or a4 (b_cv_or a5 (b_cv_or a6 (b_cv_or a7 (b_cv_or a10 a11 (fun v h => h)) (fun v h => h)) (fun v h => h)) (fun v h => h)) (fun v h => h)) (fun v h => h)) (fun v h => h)) (by decide) ?_
  have e5 : (w_ctx T (w_epn G) (w_cfn G (d_lt lm))).length = 6 := rfl
  rw [e5]
  simp only [List.length_cons, List.length_nil]
  omega
theorem t_ui_T2 {f : p_L} {ns : List p_N} (hu : t_ui T) (h4 : t_dp T ≤ 4) (hl : l < 16) : t_ui (d_T2 T l f ns) := fun y hy => by
  have dp2 : t_dp (d_T2 T l f ns) = t_dp T := d_T2_dp
  have yw : y < t_w T := by
    unfold t_w at hy ⊢
    rw [dp2] at hy
    exact hy
  have eu : t_um (d_T2 T l f ns) y = fu (t_um (t_kpn (t_cb T l) T l (d_kf T l ns) (t_dp T))) (2 * l) 0 y := by
    show fu (t_um (t_pth (t_cb T l) T l (d_kf T l ns)).1) (2 * l) 0 y = _
    unfold t_pth
    rw [t_pp_um]
  have z : t_um (d_T2 T l f ns) y = 0 → (0 ≤ t_um (d_T2 T l f ns) y ∧ t_um (d_T2 T l f ns) y < 65536) ∧ (t_ky (d_T2 T l f ns) y ≠ [] → ∀ b, b < 16 → w_bit (t_um (d_T2 T l f ns) y) b = 1 → y = t_ab b (w_h y)) := fun e => by
    rw [e]
    exact ⟨⟨by decide, by decide⟩, fun _ b _ hb => absurd hb w_bit_0⟩
  by_cases c1 : y = 2 * l
  · refine z ?_
    rw [eu, c1, fu_eq]
  · by_cases c2 : ∃ j, j < t_dp T ∧ y = t_ab l (j + 1)
    · obtain ⟨j, hj, ej⟩ := c2
      refine z ?_
      rw [eu, fu_ne c1, ej]
      exact (t_kpn_ky hl h4 (t_dp T) (Nat.le_refl _) j hj).2
    · have off : ∀ j, j < t_dp T → y ≠ t_ab l (j + 1) := fun j hj e => c2 ⟨j, hj, e⟩
      have k := t_kpn_of2 (C := t_cb T l) (T := T) (kf := d_kf T l ns) (t_dp T) off
      rw [eu, fu_ne c1, k.2, d_T2_of2 h4 c1 off]
      exact hu y yw
theorem b_dS (hi : g_iv m G) (hZ : ∀ w ∈ lm, w.head? = some 7 → w_sz w ≤ 350) : b_cv (d_dS K G C lm) 55 791 := by
  have h4 := hi.2.2.2.2.2.1
  have d16 := t_d_16 h4
  have c0 := b_cv_t (S := fun v => v = w_mem G) (fun v h => h)
  by_cases c : ∃ ep sd b e1 es pt sg cf tg, p_cm K lm ep sd b e1 es pt sg cf tg ∧ w_sok (t_ow (gg_T G) sd.toNat) (t_sk (gg_T G) sd.toNat) sg (w_sli lm 0 (lm.length - 3) ++ w_cx G) ∧ w_sd G sd ∧ h_done (gg_T G) (d_L C (sd.toNat : Int) es) (sd.toNat : Int) ∧ (∀ c ∈ d_L C (sd.toNat : Int) es, p_cok c.1)
  rotate_left
  · refine b_cv_le (b_cv_im c0 (fun v h => ?_)) (by decide) (by decide)
    rcases h with h | ⟨ep, sd, b, e1, es, pt, sg, cf, tg, p1, p2, p3, p4, p5, _⟩
    · exact h
    · exact absurd ⟨ep, sd, b, e1, es, pt, sg, cf, tg, p1, p2, p3, p4, p5⟩ c
  obtain ⟨ep, sd, b, e1, es, pt, sg, cf, tg, p1, p2, p3, p4, p5⟩ := c
  obtain ⟨l, el⟩ : ∃ l, l = sd.toNat := ⟨_, rfl⟩
  obtain ⟨L, eL⟩ : ∃ L, L = d_L C (sd.toNat : Int) es := ⟨_, rfl⟩
  rw [← eL] at p4 p5
  rw [← el] at p2 p4
  have hl : lm.length ≤ 347 := by
    have hs := p1.2.2.2.2.2.2.1
    obtain ⟨_, _, _, s4, s5⟩ := p_t_in hs
    have k := hZ sg (List.mem_of_getElem? (p_t_sl (Nat.le_refl _) hs)) s4
    rw [p2.2.2.2, b_sz, List.length_append, w_cx_len, w_sli_0 (by omega)] at k
    have := p1.1
    omega
  have hls : t_is (gg_T G) l := by
    obtain ⟨q1, q2, _⟩ := p3
    rw [← el] at q2
    have pp := Nat.two_pow_pos (t_dp (gg_T G))
    exact ⟨by omega, q2⟩
  obtain ⟨ha, hr, _⟩ := id p4
  have nrm : ¬ h_rm L (l : Int) := by
    rintro ⟨c, hc, h3, hg⟩
    obtain ⟨j, hj⟩ := List.mem_iff_getElem?.mp hc
    exact ((ha j c hj).2 (by rw [h3]; decide)).1 hg
  obtain ⟨_, _, t1, t2⟩ := h_ap_oth h4 p5 hls ha nrm hr
  have ui : t_ui (h_ap (gg_T G) L) := by
    obtain ⟨i1, i2, i3, i4, i5, i6⟩ := hi
    have k0 := t_ok_h0 p5 i6
    have hok' : ∀ (k : Nat) (c : w_Ch), L[k]? = some c → p_cok c.1 := fun k c hc => p5 c (List.mem_of_getElem? hc)
    exact t_ui_of (h_ap_inv i6.1 i1 k0 p5 ha hr) (t_ok_fa k0 (h_0_inv i6.1 i1 p5 ha) hok' hr L.length (Nat.le_refl _)).1
  obtain ⟨T, eT⟩ : ∃ T, T = h_ap (gg_T G) L := ⟨_, rfl⟩
  rw [← eT] at t1 t2 ui
  have red : ∀ v, d_dS K G C lm v → v = w_mem G ∨ d_mS G L l lm pt v := fun v h => by
    rcases h with h | ⟨ep', sd', b', e1', es', pt', sg', cf', tg', q1, _, _, _, _, q6⟩
    · exact Or.inl h
    · obtain ⟨_, x2, _, _, x5, x6, _⟩ := p_cm_un p1 q1
      rw [← x2, ← x5, ← x6, ← eL, ← el] at q6
      exact Or.inr q6
  cases pt with
  | none =>
    have ce := b_cv_eS (G := G) (T := T) (cs := w_z) t2 ui hl
    refine b_cv_le (b_cv_or c0 ce (fun v h => ?_)) (by decide) (by decide)
    rcases red v h with e | e
    · exact Or.inl e
    · right
      rw [eT]
      exact e
  | some pp =>
    obtain ⟨f, ns⟩ := pp
    have dp2 : t_dp (d_T2 T l f ns) = t_dp T := d_T2_dp
    have kd : t_dp (t_kpn (t_cb T l) T l (d_kf T l ns) (t_dp T)) = t_dp T := t_kpn_dp _
    have ce := b_cv_eS (G := G) (T := d_T2 T l f ns) (cs := d_cs G T l (k_ms G L) f ns (d_own T (2 * gg_lf G))) (by rw [dp2]; exact t2) (t_ui_T2 ui t2 (by have := t_d_16 t2; have := t1.1; omega)) hl
    have cc := b_cv_clS (T := T) (l := l) (p := d_p G T l (k_ms G L) f ns (d_own T (2 * gg_lf G))) (k := d_k G T l) t2
    have cw := t_mw_cv (C := t_cb T l) (l := l) (T := t_kpn (t_cb T l) T l (d_kf T l ns) (t_dp T)) (by rw [kd]; exact t2)
    refine b_cv_le (b_cv_or c0 (b_cv_or cw (b_cv_or cc ce (fun v h => h)) (fun v h => h)) (fun v h => ?_)) (by decide) (by decide)
    rcases red v h with e | e
    · exact Or.inl e
    · right
      have e : t_mw (t_cb (h_ap (gg_T G) L) l) (t_kpn (t_cb (h_ap (gg_T G) L) l) (h_ap (gg_T G) L) l (d_kf (h_ap (gg_T G) L) l ns) (t_dp (h_ap (gg_T G) L))) l v ∨ d_clS (h_ap (gg_T G) L) l (d_p G (h_ap (gg_T G) L) l (k_ms G L) f ns (d_own (h_ap (gg_T G) L) (2 * gg_lf G))) (d_k G (h_ap (gg_T G) L) l) v ∨ d_eS G (d_T2 (h_ap (gg_T G) L) l f ns) (d_cs G (h_ap (gg_T G) L) l (k_ms G L) f ns (d_own (h_ap (gg_T G) L) (2 * gg_lf G))) lm v := e
      rw [← eT] at e
      rcases e with e | e | e
      · have k := t_mw_in (f := f) (by rw [kd]; exact t2) (by rw [kd]; exact t1.1) e
        rcases k with k | k
        · exact Or.inl k
        · rw [kd] at k
          exact Or.inr (Or.inr (Or.inr (Or.inr (Or.inr (Or.inr (Or.inr (Or.inr (Or.inr k))))))))
      · exact Or.inr (Or.inl e)
      · exact Or.inr (Or.inr e)
end
end
