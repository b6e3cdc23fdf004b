/-! ===== one call of the law: place, post, make, compromise, member, node ===== -/
noncomputable section
section
variable {H X Z H' : sw_H} {I J : sr_V} {n nn us us' m : Nat} {σ : Nat → Int} {K K' : Wt → Prop} {tl tl' tp tp' mk mm mc mr : List Wt} {rd rd' : Nat → Int} {ms : List (List Wt)} {cn cs cn' cs' x4 z N U M : Int} {A : List Nat} {B : Nat → v_M} {k q : sw_H → Prop}
theorem w_mv_un {inn pd : Prop} {np nu nk : Nat} {G : w_G} {y z z' : Int} (h : w_mv inn pd np nu nk G y z) (h' : w_mv inn pd np nu nk G y z') : z = z' := by
  unfold w_mv at h h'
  by_cases c1 : inn <;> by_cases c2 : pd <;> simp only [c1, c2, true_and, false_and, not_true_eq_false, not_false_eq_true, or_false, false_or, and_false, and_true] at h h' <;> omega
theorem w_mv_mt {inn pd : Prop} {np nu nk : Nat} {G : w_G} {y z : Int} {w : Wt} (h : w_mv inn pd np nu nk G y z) (hi : inn) (h' : w_mt G y w) : False := by
  have h' : y = 4 ∨ y = 5 ∨ y = 6 ∨ y = 7 := by
    rcases h' with ⟨h', _⟩ | ⟨h', _⟩ | ⟨h', _⟩ | ⟨h', _⟩ <;> omega
  rcases h with ⟨a, _⟩ | ⟨a, _⟩ | ⟨a, _⟩ | ⟨a, _⟩ | ⟨a, _⟩ | ⟨a, _⟩ | ⟨_, _, a, _⟩ | ⟨_, ⟨a, _⟩ | ⟨a, _⟩ | ⟨a, _⟩⟩
  · omega
  · omega
  · omega
  · omega
  · omega
  · omega
  · exact a hi
  · omega
  · omega
  · omega
theorem w_sz_mk (s : Nat) (a b c : Wt) (l : List Wt) : w_sz (w_mk s (a :: b :: c :: l)) = l.length := by
  unfold w_sz
  rw [w_pts_mk]
  simp
theorem w_mt_un {G : w_G} {y : Int} {w w' : Wt} (h : w_mt G y w) (h' : w_mt G y w') : w = w' := by
  rcases h with ⟨a, e⟩ | ⟨a, e⟩ | ⟨a, e⟩ | ⟨a, e⟩ <;> rcases h' with ⟨b, e'⟩ | ⟨b, e'⟩ | ⟨b, e'⟩ | ⟨b, e'⟩ <;> first | exact e.trans e'.symm | omega
theorem w_nv_un {G : w_G} {x : Nat} {y z z' : Int} (h : w_nv G x y z) (h' : w_nv G x y z') : z = z' := by
  rcases h with ⟨a, e⟩ | ⟨a, e⟩ | ⟨a, e⟩ | ⟨a, e⟩ | ⟨a, e⟩ <;> rcases h' with ⟨b, e'⟩ | ⟨b, e'⟩ | ⟨b, e'⟩ | ⟨b, e'⟩ | ⟨b, e'⟩ <;> first | omega | exact e.trans e'.symm | skip
  · rcases e with ⟨e1, e2, e3⟩ | ⟨e1, e3⟩ <;> rcases e' with ⟨f1, f2, f3⟩ | ⟨f1, f3⟩
    · exact e3.trans f3.symm
    · exact absurd ⟨e1, e2⟩ f1
    · exact absurd ⟨f1, f2⟩ e1
    · exact e3.trans f3.symm
  · rcases e with ⟨e1, e3⟩ | ⟨e1, e3⟩ <;> rcases e' with ⟨f1, f3⟩ | ⟨f1, f3⟩
    · exact e3.trans f3.symm
    · exact absurd f1 e1
    · exact absurd e1 f1
    · exact e3.trans f3.symm
theorem w_nv_nt {G : w_G} {x : Nat} {y z : Int} {w : Wt} (h : w_nv G x y z) (h' : w_nt G x y w) : False := by
  rcases h with ⟨a, e⟩ | ⟨a, e⟩ | ⟨a, e⟩ | ⟨a, e⟩ | ⟨a, e⟩ <;> rcases h' with ⟨b, e'⟩ | ⟨b, e'⟩ <;> omega
theorem w_nt_un {G : w_G} {x : Nat} {y : Int} {w w' : Wt} (h : w_nt G x y w) (h' : w_nt G x y w') : w = w' := by
  rcases h with ⟨a, e⟩ | ⟨a, e⟩ <;> rcases h' with ⟨b, e'⟩ | ⟨b, e'⟩ <;> first | exact e.trans e'.symm | omega
/-- a thrown object -/
theorem l_th (hZ : l_Z n σ H mc mr nn K tl tp rd ms B cn cs) (hc : c_ZZ X mc nn K tl (cn + 1) (cs + 6) tp rd ms B) (hb : l_hb mc mr tl cn cs N U M) (hk : l_k n σ K nn ms B mc mr tl tp cn cs (c_cp H) k) (hS : l_S X n σ) (cp : c_cp X = c_cp H) (hz : m_ZZ J mr us' nn K tl tp rd ms B) : ∀ H', sr_m H' J → sr_fr X H' → k H' := l_n0 hZ hb hk hS hc cp hz (by omega) (Or.inr rfl) (Or.inr rfl)
theorem l_ty (t : Nat) : sw_ty (sw_nw H t 0 6) (sw_n H + 2) = t := if_pos rfl
theorem w_un_sub {S : Wt → Prop} {w : Wt} (h : K w) : w_un K S w := w_cl_base (Or.inl h)
theorem w_clo_add {w : Wt} : w_clo (w_add K w) := w_cl_clo _
theorem w_clo_un {S : Wt → Prop} : w_clo (w_un K S) := w_cl_clo _
theorem w_clo_lrs : ∀ (l : List Wt) {K : Wt → Prop}, w_clo K → w_clo (w_lrs K l)
  | [], _, h => h
  | v :: l, K, h => by
    show w_clo (w_lrs (if v.head? = some 1000 then K else w_add K v) l)
    refine w_clo_lrs l ?_
    split
    · exact h
    · exact w_cl_clo _
theorem s_place (hZ : l_Z n σ H mc mr nn K tl tp rd ms B cn cs) (hb : l_hb mc mr tl cn cs N U M) (hk : l_k n σ K nn ms B mc mr tl tp cn cs (c_cp H) k) (x0 : 0 ≤ x4) (x6 : x4 + 6 ≤ n) : 0 ≤ sw_w (x4 + 1) ∧ sw_w (x4 + 1) < (sw_ln H 1 : Int) ∧ ∀ v126, v126 = sw_iv H 1 (sw_w (x4 + 1)).toNat → sw_c v126 → wm_7 2 v126 1491 H (fun z132 H129 => sw_c z132 → sw_ext H H129 → 0 ≤ sw_w (x4 + 1) ∧ sw_w (x4 + 1) < (sw_ln H129 1 : Int) ∧ ∀ v137, v137 = sw_iv H129 1 (sw_w (x4 + 1)).toNat → sw_c v137 → ∃ I140, sr_m H129 I140 ∧ rm_8 v137 I140 (fun z146 J141 => sw_c z146 → ∀ H142, sr_m H142 J141 → sr_fr H129 H142 → ∃ I153, sr_m H142 I153 ∧ rm_9 I153 (fun z159 J154 => sw_c z159 → ∀ H155, sr_m H155 J154 → sr_fr H142 H155 → (z159 = z132 → (z132 ≠ 0 → k H155) ∧ (z132 = 0 → (0 : Int) < sw_ln H155 1491 ∧ ∀ v163, v163 = sw_iv H155 1491 0 → (Int64.ofInt v163).toInt = v163 → ∀ v166, sw_c v166 → (v166 = 0 ↔ v163 = z146) → (v166 = 0 → k H155) ∧ (v166 ≠ 0 → q H155))) ∧ (z159 ≠ z132 → q H155)))) := by
  obtain ⟨hS, hc, ⟨I, us, hm, hz⟩, hv, h5, hK⟩ := id hZ
  have rm := l_hb_rm hb hc
  have lm0 : c_lm cn cs N U M := c_lm_le hb.1 (by omega) (by omega)
  have hl := hb.2.2.2.1
  have cA0 : c_cA [] := fun a ha => by simp at ha
  refine l_rd1 hS x0 x6 (fun ca => x_place hc (by omega) (by omega) (fun c0 zX cX _ => ⟨l_ty 112, ?_⟩) (fun w a1 a2 _ _ => ⟨by have := hS.2.2.2; omega, fun H6 e6 => ?_⟩) (fun w G a1 a2 zG cG _ _ => ?_))
  · intro _ _
    have SG := l_S_ch hS hc cX cA0
    refine l_rd1 SG x0 x6 (fun _ => ⟨I, l_m_ch hm hc cX cA0, z_place hl hz (fun J us' b1 zJ j0 => ?_) (fun w J us' b1 b2 zJ j0 => ?_) (fun w J us' b1 b2 zJ j0 => ?_)⟩)
    · exact l_te j0 (by decide) (l_th hZ zX hb hk SG (l_cp0 hc cX (by simp)) zJ)
    · rw [c0] at b1; cases b1
    · rw [c0] at b1; cases b1
  · intro _ _
    rw [e6]
    have SG := l_S_si hS (-1)
    refine l_rd1 SG x0 x6 (fun _ => ⟨I, l_m_si hm _, z_place hl hz (fun J us' b1 zJ j0 => ?_) (fun w J us' b1 b2 zJ j0 => ?_) (fun w J us' b1 b2 zJ j0 => ?_)⟩)
    · rw [a1] at b1; cases b1
    · exact l_t0 j0 (l_si_v _) SG.2.2.2 (l_n0 hZ hb hk SG (c_ZZ_si hc _) (c_cp_si _) zJ (by omega) (Or.inl rfl) (Or.inl rfl))
    · omega
  · have cA : c_cA [1417, 1418] := fun a ha => by simp at ha; omega
    have SG0 := l_S_ch hS hc cG cA
    refine ⟨by have := SG0.2.2.2; omega, fun H6 e6 => ?_⟩
    intro _ _
    rw [e6]
    have SG := l_S_si SG0 ((tp.length : Int) + 1)
    refine l_rd1 SG x0 x6 (fun _ => ⟨I, l_m_si (l_m_ch hm hc cG cA) _, z_place hl hz (fun J us' b1 zJ j0 => ?_) (fun w J us' b1 b2 zJ j0 => ?_) (fun w' J us' b1 b2 zJ j0 => ?_)⟩)
    · rw [a1] at b1; cases b1
    · omega
    · have e := Option.some.inj (a1.symm.trans b1)
      subst e
      exact l_t0 j0 (l_si_v _) SG.2.2.2 (l_n0 hZ hb hk SG (c_ZZ_si zG _) ((c_cp_si _).trans (l_cp0 hc cG (by simp))) zJ (by omega) (Or.inl rfl) (Or.inl rfl))
theorem s_post (hZ : l_Z n σ H mc mr nn K tl tp rd ms B cn cs) (hb : l_hb mc mr tl cn cs N U M) (hk : l_k n σ K nn ms B mc mr tl tp cn cs (c_cp H) k) (x0 : 0 ≤ x4) (x6 : x4 + 6 ≤ n) : wm_22 2 1491 H (fun z407 H404 => sw_c z407 → sw_ext H H404 → ∃ I412, sr_m H404 I412 ∧ rm_23 I412 (fun z418 J413 => sw_c z418 → ∀ H414, sr_m H414 J413 → sr_fr H404 H414 → ∃ I425, sr_m H414 I425 ∧ rm_9 I425 (fun z431 J426 => sw_c z431 → ∀ H427, sr_m H427 J426 → sr_fr H414 H427 → (z431 = z407 → (z407 ≠ 0 → k H427) ∧ (z407 = 0 → (0 : Int) < sw_ln H427 1491 ∧ ∀ v435, v435 = sw_iv H427 1491 0 → (Int64.ofInt v435).toInt = v435 → ∀ v438, sw_c v438 → (v438 = 0 ↔ v435 = z418) → (v438 = 0 → k H427) ∧ (v438 ≠ 0 → q H427))) ∧ (z431 ≠ z407 → q H427)))) := by
  obtain ⟨hS, hc, ⟨I, us, hm, hz⟩, hv, h5, hK⟩ := id hZ
  have rm := l_hb_rm hb hc
  have lm0 : c_lm cn cs N U M := c_lm_le hb.1 (by omega) (by omega)
  have hl := hb.2.2.2.1
  have cA0 : c_cA [] := fun a ha => by simp at ha
  refine x_post hc (by omega) (by omega) (fun c0 zX cX _ => ⟨l_ty 120, ?_⟩) (fun G c0 zG cG _ _ => ?_)
  · intro _ _
    have SG := l_S_ch hS hc cX cA0
    refine ⟨I, l_m_ch hm hc cX cA0, z_post hz (fun J us' b1 zJ j0 => ?_) (fun J us' b1 zJ j0 => ?_)⟩
    · exact l_te j0 (by decide) (l_th hZ zX hb hk SG (l_cp0 hc cX (by simp)) zJ)
    · omega
  · have cA : c_cA [2, 1416, 1417] := fun a ha => by simp at ha; omega
    have SG0 := l_S_ch hS hc cG cA
    refine ⟨by have := SG0.2.2.2; omega, fun H6 e6 => ?_⟩
    intro _ _
    rw [e6]
    have SG := l_S_si SG0 (ms.length : Int)
    refine ⟨I, l_m_si (l_m_ch hm hc cG cA) _, z_post hz (fun J us' b1 zJ j0 => ?_) (fun J us' b1 zJ j0 => ?_)⟩
    · omega
    · have tl12 : tp.length ≤ 1200 := by
        obtain ⟨_, _, _, _, a5⟩ := zJ.1.2.2.1
        exact (a5 ms.length tp (by simp)).2.2.1
      have h0 := hb.2.1
      refine l_t0 j0 (l_si_v _) SG.2.2.2 (l_dn SG (c_ZZ_si zG _) zJ (fun m hm => ?_) h5 hK ⟨by omega, by omega, ?_, fun _ => False, Or.inl ⟨fun _ c => c, Or.inr rfl⟩, w_mo_refl, w_mo_refl⟩ hk)
      · obtain ⟨C, Pt, h⟩ := hv m hm
        exact ⟨C, Pt, v_mo_mo (fun _ h => h) (w_msl_app _ _) (Nat.le_refl _) h⟩
      · rw [c_cp_si, l_cp0 hc cG (by simp), List.length_append, List.length_singleton]
        omega
theorem s_make (hZ : l_Z n σ H mc mr nn K tl tp rd ms B cn cs) (hb : l_hb mc mr tl cn cs N U M) (hk : l_k n σ K nn ms B mc mr tl tp cn cs (c_cp H) k) (x0 : 0 ≤ x4) (x6 : x4 + 6 ≤ n) : 0 ≤ sw_w (x4 + 1) ∧ sw_w (x4 + 1) < (sw_ln H 1 : Int) ∧ ∀ v444, v444 = sw_iv H 1 (sw_w (x4 + 1)).toNat → sw_c v444 → 0 ≤ sw_w (x4 + 2) ∧ sw_w (x4 + 2) < (sw_ln H 1 : Int) ∧ ∀ v447, v447 = sw_iv H 1 (sw_w (x4 + 2)).toNat → sw_c v447 → 0 ≤ sw_w (x4 + 3) ∧ sw_w (x4 + 3) < (sw_ln H 1 : Int) ∧ ∀ v450, v450 = sw_iv H 1 (sw_w (x4 + 3)).toNat → sw_c v450 → wm_24 2 v444 v447 v450 1491 H (fun z456 H453 => sw_c z456 → sw_ext H H453 → 0 ≤ sw_w (x4 + 1) ∧ sw_w (x4 + 1) < (sw_ln H453 1 : Int) ∧ ∀ v461, v461 = sw_iv H453 1 (sw_w (x4 + 1)).toNat → sw_c v461 → 0 ≤ sw_w (x4 + 2) ∧ sw_w (x4 + 2) < (sw_ln H453 1 : Int) ∧ ∀ v464, v464 = sw_iv H453 1 (sw_w (x4 + 2)).toNat → sw_c v464 → 0 ≤ sw_w (x4 + 3) ∧ sw_w (x4 + 3) < (sw_ln H453 1 : Int) ∧ ∀ v467, v467 = sw_iv H453 1 (sw_w (x4 + 3)).toNat → sw_c v467 → ∃ I470, sr_m H453 I470 ∧ rm_25 v461 v464 v467 I470 (fun z476 J471 => sw_c z476 → ∀ H472, sr_m H472 J471 → sr_fr H453 H472 → ∃ I483, sr_m H472 I483 ∧ rm_9 I483 (fun z489 J484 => sw_c z489 → ∀ H485, sr_m H485 J484 → sr_fr H472 H485 → (z489 = z456 → (z456 ≠ 0 → k H485) ∧ (z456 = 0 → (0 : Int) < sw_ln H485 1491 ∧ ∀ v493, v493 = sw_iv H485 1491 0 → (Int64.ofInt v493).toInt = v493 → ∀ v496, sw_c v496 → (v496 = 0 ↔ v493 = z476) → (v496 = 0 → k H485) ∧ (v496 ≠ 0 → q H485))) ∧ (z489 ≠ z456 → q H485)))) := by
  obtain ⟨hS, hc, ⟨I, us, hm, hz⟩, hv, h5, hK⟩ := id hZ
  have rm := l_hb_rm hb hc
  have lm0 : c_lm cn cs N U M := c_lm_le hb.1 (by omega) (by omega)
  have hl := hb.2.2.2.1
  have cA0 : c_cA [] := fun a ha => by simp at ha
  have h0 := hb.2.1
  refine l_rd1 hS x0 x6 (fun ca => l_rd2 hS x0 x6 (fun cb => l_rd3 hS x0 x6 (fun cc => x_make lm0 hb.2.2.1 hc (fun c0 zX cX _ => Or.inl ⟨l_ty 112, ?_⟩) (fun c0 c1 zX cX _ => Or.inr ⟨l_ty 128, ?_⟩) (fun w G nn' K' a1 a2 a3 a4 zG cG _ _ => ?_))))
  · intro _ _
    have SG := l_S_ch hS hc cX cA0
    refine l_rd1 SG x0 x6 (fun _ => l_rd2 SG x0 x6 (fun _ => l_rd3 SG x0 x6 (fun _ => ⟨I, l_m_ch hm hc cX cA0, z_make hl hb.2.2.2.2.1 hb.2.2.2.2.2 hz (fun J us' b1 zJ j0 => ?_) (fun J us' b1 b2 zJ j0 => absurd c0 b1) (fun w J us' nn' K' b1 b2 b3 b4 zJ j0 => absurd c0 b1)⟩)))
    exact l_te j0 (by decide) (l_th hZ zX hb hk SG (l_cp0 hc cX (by simp)) zJ)
  · intro _ _
    have SG := l_S_ch hS hc cX cA0
    refine l_rd1 SG x0 x6 (fun _ => l_rd2 SG x0 x6 (fun _ => l_rd3 SG x0 x6 (fun _ => ⟨I, l_m_ch hm hc cX cA0, z_make hl hb.2.2.2.2.1 hb.2.2.2.2.2 hz (fun J us' b1 zJ j0 => absurd b1 c0) (fun J us' b1 b2 zJ j0 => ?_) (fun w J us' nn' K' b1 b2 b3 b4 zJ j0 => absurd c1 b2)⟩)))
    exact l_te j0 (by decide) (l_th hZ zX hb hk SG (l_cp0 hc cX (by simp)) zJ)
  · have cA : c_cA [1417] := fun a ha => by simp at ha; omega
    have SG0 := l_S_ch hS hc cG cA
    refine ⟨by have := SG0.2.2.2; omega, fun H6 e6 => ?_⟩
    intro _ _
    rw [e6]
    have SG := l_S_si SG0 ((((w_tl tl w).idxOf w : Nat) : Int) + 1)
    refine l_rd1 SG x0 x6 (fun _ => l_rd2 SG x0 x6 (fun _ => l_rd3 SG x0 x6 (fun _ => ⟨I, l_m_si (l_m_ch hm hc cG cA) _, z_make hl hb.2.2.2.2.1 hb.2.2.2.2.2 hz (fun J us' b1 zJ j0 => absurd b1 a1) (fun J us' b1 b2 zJ j0 => absurd b2 a2) (fun w' J us' nn'' K'' b1 b2 b3 b4 zJ j0 => ?_)⟩)))
    have s07 : 0 ≤ σ (x4.toNat + 1) ∧ σ (x4.toNat + 1) ≤ 7 := by unfold w_mk1 at a1; omega
    have same : w' = w ∧ nn'' = nn' ∧ K'' = K' := by
      by_cases s0 : σ (x4.toNat + 1) = 0
      · exact ⟨(b3 s0).1.trans (a3 s0).1.symm, (b3 s0).2.1.trans (a3 s0).2.1.symm, by rw [(b3 s0).2.2, (a3 s0).2.2, (b3 s0).1, (a3 s0).1]⟩
      · exact ⟨(b4 s0).1.trans (a4 s0).1.symm, (b4 s0).2.1.trans (a4 s0).2.1.symm, (b4 s0).2.2.trans (a4 s0).2.2.symm⟩
    obtain ⟨e1, e2, e3⟩ := same
    subst e1 e2 e3
    have g5 : w_g5 w' := by
      by_cases s0 : σ (x4.toNat + 1) = 0
      · rw [(b3 s0).1]; exact w_g5_n
      · rw [(b4 s0).1]; exact w_g5_mkt s07.1
    have sub : (∀ v, K v → K'' v) ∧ nn ≤ nn'' ∧ w_clo K'' := by
      by_cases s0 : σ (x4.toNat + 1) = 0
      · rw [(b3 s0).2.2, (b3 s0).2.1]
        exact ⟨fun v hv => w_add_sub hv, by omega, w_clo_add⟩
      · rw [(b4 s0).2.2, (b4 s0).2.1]
        exact ⟨fun v hv => hv, by omega, hK⟩
    have sz : w_sz w' ≤ 300 := by
      by_cases s0 : σ (x4.toNat + 1) = 0
      · rw [(b3 s0).1, w_sz_nm]
        decide
      · rw [(b4 s0).1]
        have hz3 : w_sz (w_mkt (σ (x4.toNat + 1)) (if 1 < σ (x4.toNat + 1) then w_nz tl (σ (x4.toNat + 2)) else []) (if σ (x4.toNat + 1) = 3 then [(σ (x4.toNat + 3)).toNat] else if σ (x4.toNat + 1) = 4 ∨ σ (x4.toNat + 1) = 6 then w_nz tl (σ (x4.toNat + 3)) else []) tp) = (if σ (x4.toNat + 1) = 1 ∨ σ (x4.toNat + 1) = 2 ∨ σ (x4.toNat + 1) = 3 ∨ σ (x4.toNat + 1) = 7 then tp else []).length := by
          unfold w_mkt
          exact w_sz_mk _ _ _ _ _
        rw [hz3]
        split
        · next c =>
          unfold w_mk2 at a2
          omega
        · exact Nat.zero_le _
    refine l_t0 j0 (l_si_v _) SG.2.2.2 (l_dn SG (c_ZZ_si zG _) zJ (fun m hm => ?_) (w_m5_mo (S := fun v => v = w') h5 (w_mo_tl rfl) (fun v hv => by rw [hv]; exact g5)) sub.2.2 ⟨(w_tl_len tl w').1, by omega, ?_, fun v => v = w', Or.inr (Or.inl ⟨⟨w', fun v hv => hv, sz⟩, rfl⟩), w_mo_tl rfl, w_mo_tl rfl⟩ hk)
    · obtain ⟨C, Pt, h⟩ := hv m hm
      exact ⟨C, Pt, v_mo_mo sub.1 (w_msl_refl _) sub.2.1 h⟩
    · rw [c_cp_si, l_cp0 hc cG (by simp)]
      omega
theorem s_compromise (hZ : l_Z n σ H mc mr nn K tl tp rd ms B cn cs) (hb : l_hb mc mr tl cn cs N U M) (hk : l_k n σ K nn ms B mc mr tl tp cn cs (c_cp H) k) (x0 : 0 ≤ x4) (x6 : x4 + 6 ≤ n) : 0 ≤ sw_w (x4 + 1) ∧ sw_w (x4 + 1) < (sw_ln H 1 : Int) ∧ ∀ v502, v502 = sw_iv H 1 (sw_w (x4 + 1)).toNat → sw_c v502 → wm_26 2 v502 1491 H (fun z508 H505 => sw_c z508 → sw_ext H H505 → 0 ≤ sw_w (x4 + 1) ∧ sw_w (x4 + 1) < (sw_ln H505 1 : Int) ∧ ∀ v513, v513 = sw_iv H505 1 (sw_w (x4 + 1)).toNat → sw_c v513 → ∃ I516, sr_m H505 I516 ∧ rm_27 v513 I516 (fun z522 J517 => sw_c z522 → ∀ H518, sr_m H518 J517 → sr_fr H505 H518 → ∃ I529, sr_m H518 I529 ∧ rm_9 I529 (fun z535 J530 => sw_c z535 → ∀ H531, sr_m H531 J530 → sr_fr H518 H531 → (z535 = z508 → (z508 ≠ 0 → k H531) ∧ (z508 = 0 → (0 : Int) < sw_ln H531 1491 ∧ ∀ v539, v539 = sw_iv H531 1491 0 → (Int64.ofInt v539).toInt = v539 → ∀ v542, sw_c v542 → (v542 = 0 ↔ v539 = z522) → (v542 = 0 → k H531) ∧ (v542 ≠ 0 → q H531))) ∧ (z535 ≠ z508 → q H531)))) := by
  obtain ⟨hS, hc, ⟨I, us, hm, hz⟩, hv, h5, hK⟩ := id hZ
  have rm := l_hb_rm hb hc
  have lm0 : c_lm cn cs N U M := c_lm_le hb.1 (by omega) (by omega)
  have hl := hb.2.2.2.1
  have cA0 : c_cA [] := fun a ha => by simp at ha
  have h0 := hb.2.1
  have hno : ∀ m, m < 24 → ¬ v_in (B m) → v_U (B m) = [] ∧ v_pd (B m) = none := fun m hm hi => by
    obtain ⟨C, Pt, h⟩ := hv m hm
    exact (h.2.2.2.2.2.1 hi).2
  refine l_rd1 hS x0 x6 (fun ca => x_compromise hno hc (by omega) (fun c0 zX cX _ => ⟨l_ty 112, ?_⟩) (fun m X hx hm' zX cX _ _ => ?_))
  · intro _ _
    have SG := l_S_ch hS hc cX cA0
    refine l_rd1 SG x0 x6 (fun _ => ⟨I, l_m_ch hm hc cX cA0, z_compromise (by have := hb.2.2.2.2.1; omega) (by omega) hK hz (fun J us' b1 zJ j0 => ?_) (fun m J us' b1 b2 zJ j0 => by omega)⟩)
    exact l_te j0 (by decide) (l_th hZ zX hb hk SG (l_cp0 hc cX (by simp)) zJ)
  · have SG0 := l_S_ch hS hc cX cA0
    refine ⟨by have := SG0.2.2.2; omega, fun H6 e6 => ?_⟩
    intro _ _
    rw [e6]
    have SG := l_S_si SG0 ((w_cnt (w_un K (v_cs m (B m))) tl : Nat) : Int)
    refine l_rd1 SG x0 x6 (fun _ => ⟨I, l_m_si (l_m_ch hm hc cX cA0) _, z_compromise (by have := hb.2.2.2.2.1; omega) (by omega) hK hz (fun J us' b1 zJ j0 => by omega) (fun m2 J us' b1 b2 zJ j0 => ?_)⟩)
    have e : m2 = m := by omega
    subst e
    refine l_t0 j0 (l_si_v _) SG.2.2.2 (l_dn SG (c_ZZ_si zX _) zJ (fun m hm => ?_) h5 w_clo_un ⟨by omega, by omega, ?_, fun _ => False, Or.inl ⟨fun _ c => c, Or.inl rfl⟩, w_mo_refl, w_mo_refl⟩ hk)
    · obtain ⟨C, Pt, h⟩ := hv m hm
      exact ⟨C, Pt, v_mo_mo (fun _ h => w_un_sub h) (w_msl_refl _) (Nat.le_refl _) h⟩
    · rw [c_cp_si, l_cp0 hc cX (by simp)]
      omega
theorem s_member (hZ : l_Z n σ H mc mr nn K tl tp rd ms B cn cs) (hb : l_hb mc mr tl cn cs N U M) (hk : l_k n σ K nn ms B mc mr tl tp cn cs (c_cp H) k) (x0 : 0 ≤ x4) (x6 : x4 + 6 ≤ n) : 0 ≤ sw_w (x4 + 1) ∧ sw_w (x4 + 1) < (sw_ln H 1 : Int) ∧ ∀ v676, v676 = sw_iv H 1 (sw_w (x4 + 1)).toNat → sw_c v676 → 0 ≤ sw_w (x4 + 2) ∧ sw_w (x4 + 2) < (sw_ln H 1 : Int) ∧ ∀ v679, v679 = sw_iv H 1 (sw_w (x4 + 2)).toNat → sw_c v679 → wm_38 2 v676 v679 H (fun z685 H682 => sw_c z685 → sw_ext H H682 → 0 ≤ sw_w (x4 + 1) ∧ sw_w (x4 + 1) < (sw_ln H682 1 : Int) ∧ ∀ v687, v687 = sw_iv H682 1 (sw_w (x4 + 1)).toNat → sw_c v687 → 0 ≤ sw_w (x4 + 2) ∧ sw_w (x4 + 2) < (sw_ln H682 1 : Int) ∧ ∀ v690, v690 = sw_iv H682 1 (sw_w (x4 + 2)).toNat → sw_c v690 → ∃ I693, sr_m H682 I693 ∧ rm_39 v687 v690 I693 (fun z699 J694 => sw_c z699 → ∀ H695, sr_m H695 J694 → sr_fr H682 H695 → (z685 = z699 → k H695) ∧ (z685 ≠ z699 → q H695))) := by
  obtain ⟨hS, hc, ⟨I, us, hm, hz⟩, hv, h5, hK⟩ := id hZ
  have rm := l_hb_rm hb hc
  have lm0 : c_lm cn cs N U M := c_lm_le hb.1 (by omega) (by omega)
  have hl := hb.2.2.2.1
  have cA0 : c_cA [] := fun a ha => by simp at ha
  have fin : ∀ {J : sr_V} {us' : Nat}, m_ZZ J mr us' nn K tl tp rd ms B → ∀ H', sr_m H' J → sr_fr H H' → k H' := fun zJ => l_n0 hZ hb hk hS hc rfl zJ (by omega) (Or.inl rfl) (Or.inl rfl)
  have fin2 : ∀ {Y : sw_H} {J : sr_V} {us' : Nat} {u : Wt}, c_ZZ Y mc nn K (w_tp tl u).2 cn cs tp rd ms B → c_ch [] H Y → m_ZZ J mr us' nn K (w_tp tl u).2 tp rd ms B → ∀ H', sr_m H' J → sr_fr Y H' → k H' := fun zY cY zJ => l_n0 hZ hb hk (l_S_ch hS hc cY cA0) zY (l_cp0 hc cY (by simp)) zJ (w_tp_len tl _) (Or.inl rfl) (Or.inl rfl)
  have hbd : m_bd mr := ⟨by have := hb.2.2.2.2.1; omega, by have := hb.2.2.2.2.2; omega⟩
  have rg : ∀ {m : Nat} {y z : Int}, w_mv (v_in (B m)) (v_pd (B m) ≠ none) (v_La (B m)).length (v_U (B m)).length (v_Lk (B m)).length (v_G (B m)) y z → 0 ≤ y ∧ y ≤ 12 := fun h => by
    rcases h with ⟨a, _⟩ | ⟨a, _⟩ | ⟨a, _⟩ | ⟨a, _⟩ | ⟨a, _⟩ | ⟨a, _⟩ | ⟨a, b, _⟩ | ⟨_, ⟨a, _⟩ | ⟨a, _⟩ | ⟨a, _⟩⟩ <;> omega
  have rg2 : ∀ {G : w_G} {y : Int} {w : Wt}, w_mt G y w → 0 ≤ y ∧ y ≤ 12 := fun h => by
    rcases h with ⟨a, _⟩ | ⟨a, _⟩ | ⟨a, _⟩ | ⟨a, _⟩ <;> omega
  refine l_rd1 hS x0 x6 (fun ca => l_rd2 hS x0 x6 (fun cb => x_member lm0 hb.2.2.1 hc (fun c0 _ _ => ?_) (fun m z a1 a2 a3 _ _ => ?_) (fun m w Y a1 a2 a3 a4 zY cY _ _ => ?_)))
  · exact l_rd1 hS x0 x6 (fun _ => l_rd2 hS x0 x6 (fun _ => ⟨I, hm, z_member hl hbd hz (fun J us' b1 zJ => l_eq rfl (fin zJ)) (fun m z J us' b1 b2 b3 zJ => absurd ⟨by omega, by omega, rg b3⟩ c0) (fun m w J us' b1 b2 b3 b4 zJ => absurd ⟨by omega, by omega, rg2 b4⟩ c0)⟩))
  · refine l_rd1 hS x0 x6 (fun _ => l_rd2 hS x0 x6 (fun _ => ⟨I, hm, z_member hl hbd hz (fun J us' b1 zJ => absurd ⟨by omega, by omega, rg a3⟩ b1) (fun m2 z2 J us' b1 b2 b3 zJ => ?_) (fun m2 w J us' b1 b2 b3 b4 zJ => ?_)⟩))
    · have e : m2 = m := by omega
      subst e
      exact l_eq (w_mv_un a3 b3) (fin zJ)
    · have e : m2 = m := by omega
      subst e
      exact (w_mv_mt a3 b3 b4).elim
  · refine l_rd1 (l_S_ch hS hc cY cA0) x0 x6 (fun _ => l_rd2 (l_S_ch hS hc cY cA0) x0 x6 (fun _ => ⟨I, l_m_ch hm hc cY cA0, z_member hl hbd hz (fun J us' b1 zJ => absurd ⟨by omega, by omega, rg2 a4⟩ b1) (fun m2 z2 J us' b1 b2 b3 zJ => ?_) (fun m2 w2 J us' b1 b2 b3 b4 zJ => ?_)⟩))
    · have e : m2 = m := by omega
      subst e
      exact (w_mv_mt b3 a3 a4).elim
    · have e : m2 = m := by omega
      subst e
      have e := w_mt_un a4 b4
      subst e
      exact l_eq rfl (fin2 zY cY zJ)
theorem s_node (hZ : l_Z n σ H mc mr nn K tl tp rd ms B cn cs) (hb : l_hb mc mr tl cn cs N U M) (hk : l_k n σ K nn ms B mc mr tl tp cn cs (c_cp H) k) (x0 : 0 ≤ x4) (x6 : x4 + 6 ≤ n) : 0 ≤ sw_w (x4 + 1) ∧ sw_w (x4 + 1) < (sw_ln H 1 : Int) ∧ ∀ v704, v704 = sw_iv H 1 (sw_w (x4 + 1)).toNat → sw_c v704 → 0 ≤ sw_w (x4 + 2) ∧ sw_w (x4 + 2) < (sw_ln H 1 : Int) ∧ ∀ v707, v707 = sw_iv H 1 (sw_w (x4 + 2)).toNat → sw_c v707 → 0 ≤ sw_w (x4 + 3) ∧ sw_w (x4 + 3) < (sw_ln H 1 : Int) ∧ ∀ v710, v710 = sw_iv H 1 (sw_w (x4 + 3)).toNat → sw_c v710 → wm_40 2 v704 v707 v710 H (fun z716 H713 => sw_c z716 → sw_ext H H713 → 0 ≤ sw_w (x4 + 1) ∧ sw_w (x4 + 1) < (sw_ln H713 1 : Int) ∧ ∀ v718, v718 = sw_iv H713 1 (sw_w (x4 + 1)).toNat → sw_c v718 → 0 ≤ sw_w (x4 + 2) ∧ sw_w (x4 + 2) < (sw_ln H713 1 : Int) ∧ ∀ v721, v721 = sw_iv H713 1 (sw_w (x4 + 2)).toNat → sw_c v721 → 0 ≤ sw_w (x4 + 3) ∧ sw_w (x4 + 3) < (sw_ln H713 1 : Int) ∧ ∀ v724, v724 = sw_iv H713 1 (sw_w (x4 + 3)).toNat → sw_c v724 → ∃ I727, sr_m H713 I727 ∧ rm_41 v718 v721 v724 I727 (fun z733 J728 => sw_c z733 → ∀ H729, sr_m H729 J728 → sr_fr H713 H729 → (z716 = z733 → k H729) ∧ (z716 ≠ z733 → q H729))) := by
  obtain ⟨hS, hc, ⟨I, us, hm, hz⟩, hv, h5, hK⟩ := id hZ
  have rm := l_hb_rm hb hc
  have lm0 : c_lm cn cs N U M := c_lm_le hb.1 (by omega) (by omega)
  have hl := hb.2.2.2.1
  have cA0 : c_cA [] := fun a ha => by simp at ha
  have cA : c_cA [93] := fun a ha => by simp at ha; omega
  have fin : ∀ {J : sr_V} {us' : Nat}, m_ZZ J mr us' nn K tl tp rd ms B → ∀ H', sr_m H' J → sr_fr H H' → k H' := fun zJ => l_n0 hZ hb hk hS hc rfl zJ (by omega) (Or.inl rfl) (Or.inl rfl)
  have fin1 : ∀ {Y : sw_H} {J : sr_V} {us' : Nat}, c_ZZ Y mc nn K tl cn cs tp rd ms B → c_ch [93] H Y → m_ZZ J mr us' nn K tl tp rd ms B → ∀ H', sr_m H' J → sr_fr Y H' → k H' := fun zY cY zJ => l_n0 hZ hb hk (l_S_ch hS hc cY cA) zY (l_cp0 hc cY (by simp)) zJ (by omega) (Or.inl rfl) (Or.inl rfl)
  have fin2 : ∀ {Y : sw_H} {J : sr_V} {us' : Nat} {u : Wt}, c_ZZ Y mc nn K (w_tp tl u).2 cn cs tp rd ms B → c_ch [93] H Y → m_ZZ J mr us' nn K (w_tp tl u).2 tp rd ms B → ∀ H', sr_m H' J → sr_fr Y H' → k H' := fun zY cY zJ => l_n0 hZ hb hk (l_S_ch hS hc cY cA) zY (l_cp0 hc cY (by simp)) zJ (w_tp_len tl _) (Or.inl rfl) (Or.inl rfl)
  refine l_rd1 hS x0 x6 (fun ca => l_rd2 hS x0 x6 (fun cb => l_rd3 hS x0 x6 (fun cc => x_node lm0 hb.2.2.1 hc (fun c0 _ _ => ?_) (fun m i z Y a1 a2 a3 a4 a5 a6 zY cY _ _ => ?_) (fun m i w Y a1 a2 a3 a4 a5 a6 zY cY _ _ => ?_))))
  · exact l_rd1 hS x0 x6 (fun _ => l_rd2 hS x0 x6 (fun _ => l_rd3 hS x0 x6 (fun _ => ⟨I, hm, z_node hl hz (fun J us' b1 zJ => l_eq rfl (fin zJ)) (fun m i z J us' b1 b2 b3 b4 b5 b6 zJ => absurd ⟨m, i, b1, b2, b3, b4, b5⟩ c0) (fun m i w J us' b1 b2 b3 b4 b5 b6 zJ => absurd ⟨m, i, b1, b2, b3, b4, b5⟩ c0)⟩)))
  · refine l_rd1 (l_S_ch hS hc cY cA) x0 x6 (fun _ => l_rd2 (l_S_ch hS hc cY cA) x0 x6 (fun _ => l_rd3 (l_S_ch hS hc cY cA) x0 x6 (fun _ => ⟨I, l_m_ch hm hc cY cA, z_node hl hz (fun J us' b1 zJ => absurd ⟨m, i, a1, a2, a3, a4, a5⟩ b1) (fun m2 i2 z2 J us' b1 b2 b3 b4 b5 b6 zJ => ?_) (fun m2 i2 w J us' b1 b2 b3 b4 b5 b6 zJ => ?_)⟩)))
    · have e : m2 = m := by omega
      subst e
      have e : i2 = i := by omega
      subst e
      exact l_eq (w_nv_un a6 b6) (fin1 zY cY zJ)
    · have e : m2 = m := by omega
      subst e
      have e : i2 = i := by omega
      subst e
      exact (w_nv_nt a6 b6).elim
  · refine l_rd1 (l_S_ch hS hc cY cA) x0 x6 (fun _ => l_rd2 (l_S_ch hS hc cY cA) x0 x6 (fun _ => l_rd3 (l_S_ch hS hc cY cA) x0 x6 (fun _ => ⟨I, l_m_ch hm hc cY cA, z_node hl hz (fun J us' b1 zJ => absurd ⟨m, i, a1, a2, a3, a4, a5⟩ b1) (fun m2 i2 z2 J us' b1 b2 b3 b4 b5 b6 zJ => ?_) (fun m2 i2 w2 J us' b1 b2 b3 b4 b5 b6 zJ => ?_)⟩)))
    · have e : m2 = m := by omega
      subst e
      have e : i2 = i := by omega
      subst e
      exact (w_nv_nt b6 a6).elim
    · have e : m2 = m := by omega
      subst e
      have e : i2 = i := by omega
      subst e
      have e := w_nt_un a6 b6
      subst e
      exact l_eq rfl (fin2 zY cY zJ)
end
end
