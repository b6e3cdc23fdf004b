/-! ===== the class: node ===== -/
noncomputable section
section
variable {H Z X Y : sw_H} {nn nm r ra g m p fa : Nat} {K K' S : Wt → Prop} {tl tl' tp mk mm l : List Wt} {a b c x y n cn cs cn' cs' N U M wo : Int} {Q : sw_H → Prop} {P : Int → sw_H → Prop} {A B : List Nat} {w wa wb : Wt} {T : w_T} {G : w_G}
/-- Path: its cells -/
def c_Pa (H : sw_H) : Prop := sw_ty H 85 = 64 ∧ (∀ i, 1 ≤ i → i ≤ 5 → sw_rv H 85 i = 85 + i ∧ sw_ty H (85 + i) = 1 ∧ sw_ln H (85 + i) = 4) ∧ sw_rv H 85 7 = 91 ∧ sw_rv H 85 8 = 92 ∧ sw_rv H 85 9 = 93 ∧ (sw_ty H 91 = 1 ∧ sw_ln H 91 = 5) ∧ (sw_ty H 92 = 1 ∧ sw_ln H 92 = 576) ∧ sw_ty H 93 = 1 ∧ sw_ln H 93 = 144
theorem c_Pa_ch (h : c_Pa H) (fl : c_full H) (ad : c_ads H) (k : c_ch A H Z) (hA : 85 ∈ A → ∀ f, sw_rv Z 85 f = sw_rv H 85 f) : c_Pa Z := by
  have f85 : c_fix 85 := by unfold c_fix; omega
  have rv : ∀ f, sw_rv Z 85 f = sw_rv H 85 f := fun f => by
    by_cases c : 85 ∈ A
    · exact hA c f
    · exact (c_fx_iv fl ad k f85 c).2 f
  have ty : ∀ q, 85 ≤ q → q ≤ 93 → sw_ty Z q = sw_ty H q ∧ sw_ln Z q = sw_ln H q := fun q h1 h2 => c_fx_ty fl k (by unfold c_fix; omega)
  obtain ⟨h1, h2, h3, h4, h5, h6, h7, h8, h9⟩ := h
  refine ⟨by rw [(ty 85 (by omega) (by omega)).1]; exact h1, fun i i1 i2 => ?_, by rw [rv]; exact h3, by rw [rv]; exact h4, by rw [rv]; exact h5, by rw [(ty 91 (by omega) (by omega)).1, (ty 91 (by omega) (by omega)).2]; exact h6, by rw [(ty 92 (by omega) (by omega)).1, (ty 92 (by omega) (by omega)).2]; exact h7, by rw [(ty 93 (by omega) (by omega)).1]; exact h8, by rw [(ty 93 (by omega) (by omega)).2]; exact h9⟩
  rw [rv, (ty (85 + i) (by omega) (by omega)).1, (ty (85 + i) (by omega) (by omega)).2]
  exact h2 i i1 i2
theorem c_nodes {P : Int → sw_H → Prop} (ht : c_tr H mk p T) (q : P ((t_w T : Nat) : Int) H) : wm_136 p H P := by
  unfold wm_136
  intro v1 e1 _
  rw [ht.2.2.1] at e1
  have hd := ht.2.1.1
  have key : ∀ d : Fin 5, sw_w (sw_shl 2 (d.val : Int) - 1) = ((2 ^ (d.val + 1) - 1 : Nat) : Int) := by decide +kernel
  have kt : sw_w (sw_shl 2 (t_dp T : Int) - 1) = ((t_w T : Nat) : Int) := key ⟨t_dp T, by omega⟩
  rw [e1, kt]
  exact q
theorem c_node {Ga : Nat → w_G} (lm : c_lm cn cs N U M) (bd : c_bl mk tl N U M) (hV : c_V H mk nn K tl cn cs) (hO : c_O H) (hM : c_MS H mk) (hPa : c_Pa H) (h01 : ∀ m, m < 24 → sw_iv H (120 + 54 * m) 3 = 0 ∨ (sw_iv H (120 + 54 * m) 3 = 1 ∧ c_pl (sw_rv H (120 + 54 * m) 4) ∧ c_gp H mk (sw_rv H (120 + 54 * m) 4) (Ga m))) (q0 : (¬ ∃ m k : Nat, x = m ∧ m < 24 ∧ sw_iv H (120 + 54 * m) 3 = 1 ∧ n = k ∧ k < t_w (gg_T (Ga m))) → P (-1) H) (qv : ∀ (m k : Nat) z Y, x = m → m < 24 → sw_iv H (120 + 54 * m) 3 = 1 → n = k → k < t_w (gg_T (Ga m)) → w_nv (Ga m) k y z → c_V Y mk nn K tl cn cs → c_ch [93] H Y → P z Y) (qt : ∀ (m k : Nat) w Y, x = m → m < 24 → sw_iv H (120 + 54 * m) 3 = 1 → n = k → k < t_w (gg_T (Ga m)) → w_nt (Ga m) k y w → c_V Y mk nn K (w_tp tl w).2 cn cs → c_ch [93] H Y → P (w_tp tl w).1 Y) : wm_40 2 x n y H P := by
  have o0 : sw_rv H 2 0 = 3 := hO.2.1
  have o2 := hO.2.2.2.1
  have o9 : sw_rv H 2 9 = 85 := hO.2.2.2.2.2.2.2.2.2.1
  unfold wm_40 wm_130
  refine ⟨fun c => ?_, fun c => ⟨fun c1 => ?_, fun c1 => ?_⟩⟩
  · intro _ _
    exact ⟨fun _ => q0 (fun ⟨m, k, h, _⟩ => by omega), fun h => absurd rfl h⟩
  · intro _ _
    exact ⟨fun _ => q0 (fun ⟨m, k, h, h2, _⟩ => by omega), fun h => absurd rfl h⟩
  intro _ _
  refine ⟨fun h => absurd h (by decide), fun _ => ?_⟩
  obtain ⟨m, em⟩ : ∃ m : Nat, x = m := ⟨x.toNat, by omega⟩
  subst em
  have hm24 : m < 24 := by omega
  obtain ⟨k1, k2, _⟩ := hM.2.2 m hm24
  have o1 := h01 m hm24
  rw [o2]
  refine ⟨hM.1, ?_⟩
  intro q22 e22
  rw [e22, Int.toNat_natCast, k1]
  refine ⟨by omega, by rw [hM.2.1]; omega, k2, ?_⟩
  intro q25 e25 v28 e28 _
  rw [e25] at e28
  have none : v28 = 0 → P (-1) H := fun c2 => q0 (fun ⟨m', k, h, h2, h3, _⟩ => by
    have : m' = m := by omega
    subst this
    omega)
  refine ⟨fun c2 => ⟨hM.1, ?_⟩, none⟩
  intro q31 e31
  rw [e31, k1]
  refine ⟨by omega, by rw [hM.2.1]; omega, k2, ?_⟩
  intro q34 e34
  rw [e34]
  rcases o1 with h0 | ⟨in1, hpl, gp⟩
  · omega
  have gb := c_pl_b hpl
  have out : (∀ k : Nat, n = k → ¬ k < t_w (gg_T (Ga m))) → P (-1) H := fun hk => q0 (fun ⟨m', k, h, _, _, h2, h3⟩ => by
    have : m' = m := by omega
    subst this
    exact hk k h2 h3)
  have qv := fun k z Y => qv m k z Y rfl hm24 in1
  have qt := fun k w Y => qt m k w Y rfl hm24 in1
  generalize Ga m = G at *
  generalize sw_rv H (120 + 54 * m) 4 = g at *
  clear q0 none
  obtain ⟨h1, h2, h3, h4, h5, h6, h7, h8, h9, h10, h11⟩ := gp
  have w31 := t_w31 h5.2.1.1
  obtain ⟨g1, g2, g3, g4, g5, g6, g7, g8⟩ := h1
  obtain ⟨t1, t2, t3, t4, t5, t6, t7, t8, t9, t10, t11⟩ := g8
  refine ⟨g3, ?_⟩
  intro q37 e37
  rw [e37]
  refine ⟨fun c3 => out (fun k h => by omega), fun c3 => ?_⟩
  rw [g4]
  refine ⟨t3, ?_⟩
  intro q43 e43
  rw [e43]
  refine c_nodes h5 (fun _ _ => ⟨fun c4 => ?_, fun c4 => out (fun k h => by omega)⟩)
  obtain ⟨k, ek⟩ : ∃ k : Nat, n = k := ⟨n.toNat, by omega⟩
  subst ek
  have hk : k < t_w (gg_T G) := by omega
  have qv := fun z Y => qv k z Y rfl hk
  have qt := fun w Y => qt k w Y rfl hk
  clear out
  obtain ⟨a1, a2, a3⟩ := h5.2.2.2.1 k hk
  have um := h5.2.1.2.1 k hk
  have vv : ∀ z, w_nv G k y z → P z H := fun z hz => qv z H hz hV (c_ch_refl _ _)
  have tell : ∀ {t : Int} {w : Wt}, w_nt G k y w → w_az mk t w → wm_123 3 t H (fun z I => sw_c z → sw_ext H I → P z I) := fun {t w} hnt hw => c_tellL lm bd hV hw (fun Y VY cY _ _ => qt w Y hnt VY (c_ch_sub cY (by simp)))
  have t96 := hV.1.1.1.1.1
  refine ⟨fun cc => vv _ (Or.inl ⟨cc, rfl⟩), fun cc => ?_, fun cc => ?_, fun cc => ?_, fun cc => ?_, fun cc => ?_, fun cc => ?_⟩
  · rw [o0]
    refine ⟨t96, ?_⟩
    intro q52 e52
    rw [g4]
    refine ⟨t3, ?_⟩
    intro q55 e55
    rw [e55, t4]
    refine ⟨(t8 1 (by omega) (by omega)).1, ?_⟩
    intro q58 e58
    rw [e52, e58]
    refine ⟨by omega, by rw [(t8 1 (by omega) (by omega)).2]; omega, ?_⟩
    intro v ev _
    rw [Int.toNat_natCast] at ev
    rw [ev]
    exact tell (Or.inl ⟨cc, rfl⟩) a1
  · rw [o0]
    refine ⟨t96, ?_⟩
    intro q52 e52
    rw [g4]
    refine ⟨t3, ?_⟩
    intro q55 e55
    rw [e55, t5]
    refine ⟨(t8 2 (by omega) (by omega)).1, ?_⟩
    intro q58 e58
    rw [e52, e58]
    refine ⟨by omega, by rw [(t8 2 (by omega) (by omega)).2]; omega, ?_⟩
    intro v ev _
    rw [Int.toNat_natCast] at ev
    rw [ev]
    exact tell (Or.inr ⟨cc, rfl⟩) a2
  · rw [g4]
    refine ⟨t3, ?_⟩
    intro q55 e55
    rw [e55, t6]
    refine ⟨(t8 3 (by omega) (by omega)).1, ?_⟩
    intro q58 e58
    rw [e58]
    refine ⟨by omega, by rw [(t8 3 (by omega) (by omega)).2]; omega, ?_⟩
    intro v ev _
    rw [Int.toNat_natCast, a3] at ev
    obtain ⟨u, eu⟩ : ∃ u : Nat, t_um (gg_T G) k = u := ⟨(t_um (gg_T G) k).toNat, by omega⟩
    rw [ev, eu]
    refine c_bitCount (by omega) (fun _ _ => ?_)
    rw [← eu]
    exact vv _ (Or.inr (Or.inl ⟨cc, rfl⟩))
  · have no : ¬ (k % 2 = 0 ∧ t_ky (gg_T G) k ≠ []) → wb_40_66 P k g 0 H := fun h => ⟨fun _ => vv _ (Or.inr (Or.inr (Or.inl ⟨cc, Or.inr ⟨h, rfl⟩⟩))), fun c => absurd rfl c⟩
    rw [sw_and_1]
    refine ⟨fun c5 => no (fun h => by omega), fun c5 => ?_⟩
    rw [g4]
    refine ⟨t3, ?_⟩
    intro q100 e100
    rw [e100, t4]
    refine ⟨(t8 1 (by omega) (by omega)).1, ?_⟩
    intro q103 e103
    rw [e103]
    refine ⟨by omega, by rw [(t8 1 (by omega) (by omega)).2]; omega, ?_⟩
    intro v ev _
    rw [Int.toNat_natCast] at ev
    have kz := c_ky0 hV.1 h5 (x := k) (by omega)
    rw [← ev] at kz
    refine ⟨fun c6 => no (fun h => ?_), fun c6 => ?_⟩
    · rcases kz.mp c6 with t | t
      · omega
      · exact h.2 t
    · have hn : t_ky (gg_T G) k ≠ [] := fun h => c6 (kz.mpr (Or.inr h))
      have ev2 : k % 2 = 0 := by omega
      have dv : sw_shr (k : Int) 1 = ((k / 2 : Nat) : Int) := by
        have key : ∀ y : Fin 31, sw_shr (y.val : Int) 1 = ((y.val / 2 : Nat) : Int) := by decide +kernel
        exact key ⟨k, by omega⟩
      unfold wb_40_66
      rw [dv]
      clear dv
      refine ⟨fun c => absurd c (by decide), fun _ => ?_⟩
      rw [g4]
      refine ⟨t3, ?_⟩
      intro q4 e4
      rw [e4, t7]
      refine ⟨t9, ?_⟩
      intro q7 e7
      rw [e7, Int.toNat_natCast, (t11 (k / 2) (by omega)).1]
      refine ⟨by omega, by rw [t10]; omega, (t11 (k / 2) (by omega)).2, ?_⟩
      intro q10 e10 v13 e13 _
      have lf := (h5.2.2.2.2.2 (k / 2) (by omega) (by rw [show 2 * (k / 2) = k by omega]; exact hn)).1.1
      rw [e10, lf] at e13
      exact vv _ (Or.inr (Or.inr (Or.inl ⟨cc, Or.inl ⟨ev2, hn, e13⟩⟩)))
  · rw [g4]
    refine ⟨t3, ?_⟩
    intro q111 e111
    rw [o9]
    refine ⟨hPa.1, ?_⟩
    intro q114 e114
    rw [e114, hPa.2.2.2.2.1]
    refine ⟨hPa.2.2.2.2.2.2.2.1, ?_⟩
    intro q117 e117
    rw [e111, e117]
    have f93 : c_fix 93 := by unfold c_fix; omega
    refine c_resolution f93 (by omega) hV h5 hPa.2.2.2.2.2.2.2.2 hk (fun Y rY fY _ _ => ?_)
    have fA : ∀ a ∈ [93], c_fix a := fun a ha => by simp at ha; rw [ha]; exact f93
    exact qv _ Y (Or.inr (Or.inr (Or.inr (Or.inl ⟨cc, rfl⟩)))) (c_V_fr hV fY fA) (c_V_ch hV fY fA)
  · rw [g5]
    refine ⟨g6, ?_⟩
    intro q125 e125
    rw [e125]
    refine ⟨by omega, by rw [g7]; omega, ?_⟩
    intro v ev _
    rw [Int.toNat_natCast] at ev
    have az := h10 k hk
    rw [← ev] at az
    refine ⟨fun c5 => vv _ (Or.inr (Or.inr (Or.inr (Or.inr ⟨cc, Or.inl ⟨?_, rfl⟩⟩)))), fun c5 => vv _ (Or.inr (Or.inr (Or.inr (Or.inr ⟨cc, Or.inr ⟨?_, rfl⟩⟩))))⟩
    · rcases az with ⟨h, _⟩ | h
      · exact absurd h c5
      · exact c_at_ne hV.1 h
    · rcases az with ⟨_, h⟩ | h
      · exact h
      · have := w_at_le h; omega
end
end
