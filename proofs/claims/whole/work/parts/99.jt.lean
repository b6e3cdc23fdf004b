/-! ===== the reference: deliver, by the whole state ===== -/
noncomputable section
section
variable {I J Y : sr_V} {nn nm us us' m mi : Nat} {K K' S : Wt → Prop} {tl tp mk mm lm l : List Wt} {rd : Nat → Int} {ms : List (List Wt)} {x x1 x2 z z' : Int} {B : Nat → v_M} {v v' w : v_M} {P : Nat → Nat → Prop} {Q : Int → sr_V → Prop}
/-- what is had of a member for deliver -/
def v_iv (K : Wt → Prop) (ms : List (List Wt)) (m : Nat) (v : v_M) (C : List w_Ch) (Pt : List (List Wt × Wt × Wt)) : Prop := (v_in v → g_iv m (v_G v) ∧ gg_lv (v_G v) ∧ v_Uk v C) ∧ w_kc K ms (v_La v) C ∧ w_pt ms (v_Lk v) Pt ∧ w_pki K m Pt ∧ (v_La v).length < 340
/-- the first sign of a message -/
theorem z_ft (htk : m_tk Y mk K (Y 24 mi).toNat lm) (h25 : Y 25 mi = lm.length) (h24 : 0 ≤ Y 24 mi) (hne : lm ≠ []) : (∀ t, 1 ≤ t → t ≤ 4 → (w_ft lm t ↔ Y 26 (Y 24 mi).toNat = t)) := by
  intro t t1 t4
  have hl : 0 < lm.length := List.length_pos_iff.mpr hne
  obtain ⟨a1, a2⟩ := m_tk_at htk hl
  obtain ⟨b1, b2⟩ := m_tk_8 htk hl
  rw [Nat.add_zero] at a1 a2 b1 b2
  have e0 : lm[0]? = some (lm[0]'hl) := List.getElem?_eq_getElem hl
  rw [e0, Option.getD_some] at a2 b1 b2
  unfold w_ft
  rw [e0]
  constructor
  · intro h
    have h := Option.some.inj h
    have c := b1.mpr (by rw [h]; rfl)
    rw [w_by_sg c, h] at a2
    unfold w_by at a2
    simp only [List.cons.injEq, and_true, true_and] at a2
    have := (b2 c).2
    omega
  · intro h
    have c : Y 26 (Y 24 mi).toNat < 256 := by omega
    rw [w_by_sg c, h] at a2
    rw [a2]
theorem z_dl_go {C : List w_Ch} {Pt : List (List Wt × Wt × Wt)} (hm : m < 24) (h : m_ZZ Y mk us nn K tl tp rd ms B) (htk : ∀ (k : Nat) (p : List Wt), ms[k]? = some p → m_tk Y mk K (Y 24 k).toNat p) (hmi : ms[mi]? = some lm) (hx5 : w_x5 ms) (hiv : v_iv K ms m (B m) C Pt) (hb : m_bS (v_dS K (B m) C Pt lm) mk) (y0 : Y 1000 0 = 0)
    (q : ∀ z v' J mm, v_dl K mi (B m) C Pt lm z v' → w_mo (v_dS K (B m) C Pt lm) mk mm → m_ZZ J mm us nn K tl tp rd ms (v_up B m v') → J 1000 0 = 0 → Q z J) (s0 : Int) (hs : (lm = [] ∧ s0 = 0) ∨ (lm ≠ [] ∧ s0 = Y 26 (Y 24 mi).toNat)) : rb_21_37 Q mi m s0 Y := by
  have zm := h.2.2.2.2 m hm
  have ein := m_zm_in zm
  have h01 := (m_zm_01 zm).1
  have tk := htk mi lm hmi
  obtain ⟨a1, a2, a3, a4, a5⟩ := h.1.2.2.1.2.2.2.2 mi lm hmi
  have ft : ∀ t, 1 ≤ t → t ≤ 4 → (w_ft lm t ↔ s0 = t) := fun t t1 t4 => by
    rcases hs with ⟨c, e⟩ | ⟨c, e⟩
    · refine ⟨fun hw => ?_, fun e2 => by omega⟩
      rw [c] at hw
      unfold w_ft at hw
      simp at hw
    · rw [z_ft tk a2 a1 c t t1 t4, e]
  have nd := m_L_nd h.1.1
  have self : ∀ {J : sr_V} {m2 : List Wt}, m_ZZ J m2 us nn K tl tp rd ms B → m_ZZ J m2 us nn K tl tp rd ms (v_up B m (B m)) := fun hz => by rw [v_up_self]; exact hz
  unfold rb_21_37
  refine ⟨fun c => ?_, fun c => ?_, fun c => ?_, fun c => ?_, fun c => ?_⟩
  · exact q 1 (B m) Y mk (Or.inl ⟨fun t t1 t4 hw => by have := (ft t t1 t4).mp hw; omega, rfl, rfl⟩) w_mo_refl (self h) y0
  · refine r_deliverPackage2 h.1.1 h.1.2.1 h.1.2.2.1 hmi tk (fun z J hR hL g _ => ?_)
    exact q z (B m) J mk (Or.inr (Or.inl ⟨(ft 1 (by decide) (by decide)).mpr c, hR, rfl⟩)) w_mo_refl (self (m_ZZ_gp h hL (w_le_refl _) g (fun f k p => by unfold m_pj at p; unfold m_sf; omega))) (by rw [g 1000 0 (fun p => by unfold m_pj at p; omega)]; exact y0)
  · have w2 := (ft 2 (by decide) (by decide)).mpr c
    have S1 : v_dS K (B m) C Pt lm (w_mem (v_G (B m))) := Or.inl ⟨w2, Or.inl rfl⟩
    have S2 : v_dS K (B m) C Pt lm (w_hs lm) := Or.inl ⟨w2, Or.inr rfl⟩
    refine r_deliverProposal2 (G := v_G (B m)) (L := v_La (B m)) hm h.1 (hb mk w_mo_refl nd) hmi tk h01 (fun h1 => ⟨zm.2.1 (ein ▸ h1), (hiv.1 (ein ▸ h1)).2.1⟩) zm.2.2.2.1 hiv.2.2.2.2 (fun h1 => ?_) (fun z mm J hR hmm hL hp g _ => ?_)
    · have m1 := w_mo_tl (mk := mk) S1
      have m2 := w_mo_tl (mk := w_tl mk (w_mem (v_G (B m)))) S2
      exact hb _ (w_mo_trans m1 m2) (w_tl_nd (w_tl_nd nd))
    · rw [ein] at hR
      have hmo : w_mo (v_dS K (B m) C Pt lm) mk mm := by
        rcases hmm with e | e | ⟨e0, e⟩
        · rw [e]; exact w_mo_refl
        · rw [e]; exact w_mo_tl S1
        · rw [e]; exact w_mo_trans (w_mo_tl S1) (w_mo_tl S2)
      refine q z _ J mm (Or.inr (Or.inr (Or.inl ⟨w2, hR, rfl⟩))) hmo (z_dp_go hm h hmo.1 hL hp g) ?_
      rw [g 1000 0 (fun p => by unfold m_pdp m_pw m_p2 m_kq m_pj at p; omega)]
      exact y0
  · have w3 := (ft 3 (by decide) (by decide)).mpr c
    refine r_deliverCommit (G := v_G (B m)) (Lk := v_La (B m)) (C := C) (U := v_U (B m)) (pd := v_pd (B m)) (S := v_dS K (B m) C Pt lm) hm h.1 hmi htk h01 (fun h1 => ⟨zm.2.1 (ein ▸ h1), (hiv.1 (ein ▸ h1)).1, (hiv.1 (ein ▸ h1)).2.1⟩) zm.2.2.2.1 hiv.2.1 zm.2.2.2.2.1 (fun h1 => (hiv.1 (ein ▸ h1)).2.2) (fun _ => zm.2.2.1) hx5 h.2.2.2.1 hb (fun h1 v hv => Or.inr (Or.inl ⟨w3, ein ▸ h1, hv⟩)) (fun z o J mm hR hmo hbS hL haft _ => ?_)
    rw [ein] at hR
    have hdl : v_dl K mi (B m) C Pt lm z (v_df (B m) o) := Or.inr (Or.inr (Or.inr (Or.inl ⟨w3, o, hR, rfl⟩)))
    cases o with
    | none =>
      have g : m_gp (m_pD us) Y J := haft
      exact q z _ J mm hdl hmo (self (m_ZZ_g8 h hL hmo.1 g (fun f k p => (m_pE_no (Or.inl p)).1))) (by rw [g 1000 0 (fun p => by have := (m_pE_no (us := us) (Or.inl p)).2.1; omega)]; exact y0)
    | some o =>
      cases o with
      | none =>
        obtain ⟨j27, j46, j47, j28, g⟩ := haft
        refine q z _ J mm hdl hmo (z_dj_go hm h hmo.1 hL (Or.inr ⟨j27, fun c => c⟩) (fun c => c.elim) j46 j47 j28 (m_pk_gp zm.2.2.2.2.2 g (fun f k p => ?_) hmo.1) (m_gp_sub g (fun f k p => ?_))) ?_
        · rcases p with p | p
          · have := (m_pE_no (us := us) (Or.inl p)).2.2.2.2
            unfold m_pl at this
            omega
          · unfold m_plv at p; omega
        · rcases p with p | p
          · exact Or.inl (Or.inl p)
          · unfold m_plv at p
            exact Or.inr (Or.inr (Or.inr (Or.inr (Or.inl ⟨by omega, p.2⟩))))
        · rw [g 1000 0 (fun p => ?_)]
          · exact y0
          · rcases p with p | p
            · have := (m_pE_no (us := us) (Or.inl p)).2.1; omega
            · unfold m_plv at p; omega
      | some G' =>
        obtain ⟨hst, j46, j47, j28, g⟩ := haft
        have hin := d_dcR_in hR
        have j27 : J 27 m = 1 := by
          rw [g 27 m (fun p => ?_)]
          · exact ein ▸ hin
          · rcases p with p | p | p
            · have := (m_pE_no (us := us) (Or.inl p)).2.2.2.2
              unfold m_pl at this
              omega
            · unfold m_pl at p; omega
            · omega
        refine q z _ J mm hdl hmo (z_dj_go hm h hmo.1 hL (Or.inl ⟨j27, trivial⟩) (fun _ => hst) j46 j47 j28 (m_pk_gp zm.2.2.2.2.2 g (fun f k p => ?_) hmo.1) (m_gp_sub g (fun f k p => ?_))) ?_
        · rcases p with p | p | p
          · have := (m_pE_no (us := us) (Or.inl p)).2.2.2.2
            unfold m_pl at this
            omega
          · unfold m_pl at p; omega
          · omega
        · rcases p with p | p | p
          · exact Or.inl (Or.inl p)
          · exact Or.inr (Or.inr (Or.inr (Or.inl p)))
          · exact Or.inr (Or.inr (Or.inr (Or.inr (Or.inl ⟨by omega, p.2⟩))))
        · rw [g 1000 0 (fun p => ?_)]
          · exact y0
          · rcases p with p | p | p
            · have := (m_pE_no (us := us) (Or.inl p)).2.1; omega
            · unfold m_pl at p; omega
            · omega
  · have w4 := (ft 4 (by decide) (by decide)).mpr c
    refine r_deliverWelcome (L := v_Lk (B m)) (Pt := Pt) (S := v_dS K (B m) C Pt lm) hm h.1 hmi htk h01 zm.2.2.2.2.2 hiv.2.2.1 hiv.2.2.2.1 hx5 hb (fun v hv => Or.inr (Or.inr ⟨w4, hv⟩)) (fun z o J mm hR hmo hbS hL haft _ => ?_)
    rw [ein] at hR
    have hdl : v_dl K mi (B m) C Pt lm z (v_wf (B m) o) := Or.inr (Or.inr (Or.inr (Or.inr ⟨w4, o, hR, rfl⟩)))
    cases o with
    | none =>
      have g : m_gp (m_pE us) Y J := haft
      exact q z _ J mm hdl hmo (self (m_ZZ_g8 h hL hmo.1 g (fun f k p => (m_pE_no p).1))) (by rw [g 1000 0 (fun p => by have := (m_pE_no (us := us) p).2.1; omega)]; exact y0)
    | some o =>
      obtain ⟨G', i⟩ := o
      obtain ⟨hst, j27, j46, j47, j28, hk, g⟩ := haft
      refine q z _ J mm hdl hmo (z_dj_go hm h hmo.1 hL (Or.inl ⟨j27, trivial⟩) (fun _ => hst) j46 j47 j28 hk g) ?_
      rw [g 1000 0 (fun p => ?_)]
      · exact y0
      · rcases p with p | p
        · have := (m_pE_no (us := us) p).2.1; omega
        · unfold m_pjn m_p2 m_pl at p
          rcases p with p | p | p | p | p <;> omega
theorem z_deliver {C : Nat → List w_Ch} {Pt : Nat → List (List Wt × Wt × Wt)} (h : m_ZZ I mk us nn K tl tp rd ms B) (hx5 : w_x5 ms) (hiv : ∀ m, m < 24 → v_iv K ms m (B m) (C m) (Pt m))
    (hb : ∀ (m mi : Nat) lm, x1 = mi → x2 = m → m < 24 → ms[mi]? = some lm → m_bS (v_dS K (B m) (C m) (Pt m) lm) mk)
    (q1 : ∀ J us', ¬ (0 ≤ x1 ∧ x1 < ms.length ∧ 0 ≤ x2 ∧ x2 < 24) → m_ZZ J mk us' nn K tl tp rd ms B → J 1000 0 = 1 → Q 0 J)
    (q : ∀ (m mi : Nat) lm z v' J mm us', x1 = mi → x2 = m → m < 24 → ms[mi]? = some lm → v_dl K mi (B m) (C m) (Pt m) lm z v' → w_mo (v_dS K (B m) (C m) (Pt m) lm) mk mm → m_ZZ J mm us' nn K tl tp rd ms (v_up B m v') → J 1000 0 = 0 → Q z J) : rm_21 x1 x2 I Q := by
  have m22 : I 1000 22 = ms.length := h.1.2.2.1.1
  have m300 := h.1.2.2.1.2.1
  have thr : ¬ (0 ≤ x1 ∧ x1 < ms.length ∧ 0 ≤ x2 ∧ x2 < 24) → rb_21_15 Q x1 x2 1 I := fun c => by
    unfold rb_21_15
    intro I1 e1 v e _
    rw [e1, su_eq] at e
    refine ⟨fun c => by omega, fun _ => ?_⟩
    obtain ⟨u1, hz1⟩ := m_ZZ_th h 1
    rw [e1]
    exact q1 (su I 1000 0 1) u1 c hz1 (su_eq I 1000 0 1)
  have go : 0 ≤ x1 → x1 < ms.length → 0 ≤ x2 → x2 < 24 → rb_21_15 Q x1 x2 0 I := fun h1 h2 h3 h4 => by
    obtain ⟨mi, em⟩ : ∃ mi : Nat, x1 = mi := ⟨x1.toNat, by omega⟩
    obtain ⟨m, ex⟩ : ∃ m : Nat, x2 = m := ⟨x2.toNat, by omega⟩
    have hm : m < 24 := by omega
    have hlt : mi < ms.length := by omega
    obtain ⟨lm, hmi⟩ : ∃ lm, ms[mi]? = some lm := ⟨ms[mi]'hlt, List.getElem?_eq_getElem hlt⟩
    unfold rb_21_15
    intro I1 e1 v e _
    rw [e1, su_eq] at e
    refine ⟨fun _ => ?_, fun c => by omega⟩
    obtain ⟨u1, hz1⟩ := m_ZZ_th h 0
    rw [← e1] at hz1
    have i0 : I1 1000 0 = 0 := by rw [e1]; exact su_eq _ _ _ _
    refine r_infer hz1.1.1 (fun Y LY hk f0 => ?_)
    have g0 := m_fr_gp f0
    have zY : m_ZZ Y mk u1 nn K tl tp rd ms B := m_ZZ_gp hz1 LY (w_le_refl _) g0 (fun f k p => by
      simp only [List.mem_cons, List.not_mem_nil, or_false] at p
      unfold m_sf; omega)
    have y0 : Y 1000 0 = 0 := by
      rw [g0 1000 0 (fun p => by simp only [List.mem_cons, List.not_mem_nil, or_false] at p; omega)]
      exact i0
    have htk := m_tk_all zY.1 hk
    obtain ⟨a1, a2, a3, a4, a5⟩ := zY.1.2.2.1.2.2.2.2 mi lm hmi
    have us3 := m_wr_us zY.1
    have u23 := zY.1.2.2.2
    subst em
    subst ex
    have go2 := z_dl_go (Q := Q) hm zY htk hmi hx5 (hiv m hm) (hb m mi lm rfl rfl hm hmi) y0 (fun z v' J mm c1 c2 c3 c4 => q m mi lm z v' J mm u1 rfl rfl hm hmi c1 c2 c3 c4)
    refine ⟨by omega, by omega, ?_⟩
    intro v48 e48 _
    rw [Int.toNat_natCast, a2] at e48
    refine ⟨fun c => ⟨by omega, by omega, ?_⟩, fun c => go2 0 (Or.inl ⟨List.length_eq_zero_iff.mp (by omega), rfl⟩)⟩
    intro v51 e51 _
    rw [Int.toNat_natCast] at e51
    refine ⟨by omega, by omega, ?_⟩
    intro v54 e54 _
    rw [e51] at e54
    exact go2 v54 (Or.inr ⟨fun c2 => by rw [c2] at e48; exact c e48, e54⟩)
  unfold rm_21
  refine ⟨fun c => thr (by omega), fun c v e _ => ?_⟩
  rw [m22] at e
  exact ⟨fun c2 => thr (by omega), fun c2 => ⟨fun c3 => thr (by omega), fun c3 => ⟨fun c4 => go c (by omega) c3 c4, fun c4 => thr (by omega)⟩⟩⟩
end
end
