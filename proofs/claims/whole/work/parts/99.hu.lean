/-! ===== the reference: a COMMIT from its shape on ===== -/
noncomputable section
/-- what the reference has of the path -/
def d_c3 (I : sr_V) (mk : List Wt) (fr e1 : Nat) : Option p_P → Prop
  | none => I 1000 100 = 0
  | some (_, ns) => I 1000 100 = 1 ∧ I 1000 111 = ((fr + (e1 + 1) : Nat) : Int) ∧ m_pns I mk fr ns
variable {I J X : sr_V} {nn us fr : Nat} {K : Wt → Prop} {tl mk mm lm : List Wt} {Q : Int → sr_V → Prop} {m mi l : Nat} {sg cf tg : Wt} {G : w_G} {S : Wt → Prop} {L : List w_Ch} {ep sd com : Int} {b e1 : Nat} {es : List p_E} {pt : Option p_P} {ms : List (List Wt)} {U : List (Wt × Wt)}
theorem d_h100 (h : d_c3 I mk fr e1 pt) : match (generalizing := false) pt with
  | none => I 1000 100 = 0
  | some (_, ns) => I 1000 100 = 1 ∧ m_pns I mk fr ns := by
  cases pt with
  | none => exact h
  | some p =>
    obtain ⟨f, ns⟩ := p
    exact ⟨h.1, h.2.2⟩
theorem r_dc_sh (hm : m < 24) (hw : m_wr I mk nn K tl ms us) (hst : m_st I mk m G) (hi : g_iv m G) (hlv : gg_lv G) (hU : m_up I mk m U) (hli : m_li I mk K L) (hT : m_tr I mk 48 (h_ap (gg_T G) L)) (hh0 : ∀ x, x < t_w (h_ap (gg_T G) L) → w_az mk (I 44 (1488 + x)) [] ∨ w_az mk (I 44 (1488 + x)) (w_hcy G (h_ap (gg_T G) L) x)) (h83 : I 1000 83 = k_ms G L) (hcm : p_cm K lm ep (l : Int) b e1 es pt sg cf tg) (h101 : I 1000 101 = (l : Nat)) (h102 : I 1000 102 = ((fr + (lm.length - 3) : Nat) : Int)) (h104 : w_at mk (I 1000 104) cf) (h100 : d_c3 I mk fr e1 pt) (hx : m_tk I mk K fr lm) (hfr : fr + lm.length ≤ us) (hlm : lm.length ≤ 1200) (hd : h_done (gg_T G) L (l : Int)) (hok : ∀ c ∈ L, p_cok c.1) (h5 : h_p5 L) (hx5 : ∀ w ∈ lm, w.head? = some 5 → w_i5 w) (hne : gg_lf G ≠ l) (hsl : t_is (gg_T G) l) (hLU : ∀ c ∈ L, c.1.1 = 2 → h_go c = (gg_lf G : Int) → (∃ v, (c.2.2, v) ∈ U) ∧ ∀ v, (c.2.2, v) ∈ U → (h_lf c).2.1 = w_p5 v) (hz : w_at mk 1 w_z) (hb : m_bS S mk) (hS : ∀ v, d_mS G L l lm pt v → S v)
    (q : ∀ z o J mm, ((¬ d_shp (h_ap (gg_T G) L) (k_ms G L) l L pt ∧ z = 8 ∧ o = none) ∨ (d_shp (h_ap (gg_T G) L) (k_ms G L) l L pt ∧ d_fin G L l pt lm cf z o)) → w_mo S mk mm → m_bS S mm → m_L J mm nn K tl → d_aft I us m J mm o → Q z J) : rm_225 I (fun z285 I281 => sw_c z285 → (z285 ≠ 0 → rm_226 m I281 (fun I288 => ∀ v294, v294 = I288 1000 100 → sw_c v294 → (v294 = 0 → rb_110_142 Q m fr m I288) ∧ (v294 ≠ 0 → rm_227 I288 (fun z302 I298 => sw_c z302 → (z302 ≠ 0 → rb_110_142 Q m fr m I298) ∧ (z302 = 0 → Q 9 I298))))) ∧ (z285 = 0 → Q 8 I281)) := by
  obtain ⟨a1, a2, a3, a4⟩ := d_T1_ok hst.1 hi hlv hok h5 hd
  obtain ⟨ha, hr, _⟩ := id hd
  obtain ⟨o1, o2, o3⟩ := h_ap_own hi.2.2.2.2.2.1 hok hsl ha hr
  have d16 := t_d_16 a1.1
  have w31 := t_w_4 a1.1
  have l16 : l < 16 := by have := o2.1; omega
  have us3 := m_wr_us hw
  have hus : I 1000 23 = us := hw.2.2.2
  have hl3 : 3 ≤ lm.length := hcm.1
  have lfw := hst.1.2.1
  have lf16 : gg_lf G < 16 := by have := t_w_4 hst.2.2.2.1.1.1; omega
  have hmsk : 0 ≤ k_ms G L ∧ k_ms G L < 65536 := h_msk_ok hr L.length (Nat.le_refl _)
  have hrs : ∀ k, k < t_dp (h_ap (gg_T G) L) → ∀ y ∈ w_rs (h_ap (gg_T G) L) k (t_si l k), y < 31 := fun k hk y hy => by
    obtain ⟨s1, _, s3, _⟩ := t_si_ok a1.1 o2.1 hk
    have := (w_rs_in a1 a2 a3 k _ s1 s3 y hy).1
    omega
  have own := fun hn : ¬ h_rm L (gg_lf G) => d_own_ok hst.1 hi hok ha hr hLU hn
  refine r_isShapeRight (pt := pt) (fr := fr) o2.1 hT hrs h83 hmsk h101 hli (d_h100 h100) (fun J1 shp wJ g1 => ?_) (fun J1 shp g1 => ?_)
  rotate_left
  · intro _
    exact ⟨fun c => absurd rfl c, fun _ => q 8 none J1 mk (Or.inl ⟨shp, rfl, rfl⟩) w_mo_refl hb (m_L_gp hw.1 g1 (fun f k p => by unfold m_psh m_pwy m_prs at p; omega)) (m_pD_sh g1)⟩
  intro _
  refine ⟨fun _ => ?_, fun c => absurd c (by decide)⟩
  have n1 : ∀ f k, (18 ≤ f ∧ f ≤ 54) ∨ f = 16 ∨ f = 6 ∨ (77 ≤ f ∧ f ≤ 82) ∨ (96 ≤ f ∧ f ≤ 98) ∨ (f = 1000 ∧ (k = 22 ∨ k = 23 ∨ k = 76 ∨ k = 83 ∨ k = 95 ∨ (100 ≤ k ∧ k ≤ 111))) → J1 f k = I f k := fun f k hf => g1 f k (by unfold m_psh m_pwy m_prs; omega)
  have L1 := m_L_gp hw.1 g1 (fun f k p => by unfold m_psh m_pwy m_prs at p; omega)
  have st1 := m_st_gp hst g1 (fun f k p q => by unfold m_pl at p; unfold m_psh m_pwy m_prs at q; omega)
  have T1 := m_tr_gp hT g1 (fun f k p q => by unfold m_pl at p; unfold m_psh m_pwy m_prs at q; omega)
  have U1 := m_up_gp hU g1 (fun f k p => by unfold m_psh m_pwy m_prs at p; omega) (w_le_refl _)
  have li1 := m_li_gp hli g1 (fun f k p => by unfold m_psh m_pwy m_prs at p; omega)
  refine r_updateOwn (s := d_own (h_ap (gg_T G) L) (2 * gg_lf G)) hm L1 st1 T1 U1 li1 (fun x hx => by rw [n1 44 _ (by omega)]; exact hh0 x hx) (fun c hc c2 cg => ⟨(hLU c hc c2 cg).1, fun v hv => ?_⟩) (fun J2 hx2 ho2 g2 => ?_)
  · have k1 := (h_ap_oth hi.2.2.2.2.2.1 hok (g_is hst.1) ha (h_up_rm ha hc c2 cg) hr).1
    have e : t_ky (h_ap (gg_T G) L) (2 * gg_lf G) = w_p5 v := by rw [k1, h_kb_c ha hc c2 cg]; exact (hLU c hc c2 cg).2 v hv
    exact (d_own_eq e).symm
  have n2 : ∀ f k, (18 ≤ f ∧ f ≤ 43) ∨ (45 ≤ f ∧ f ≤ 54) ∨ (f = 44 ∧ k < 1488) ∨ f = 16 ∨ f = 6 ∨ (77 ≤ f ∧ f ≤ 82) ∨ (96 ≤ f ∧ f ≤ 98) ∨ (f = 1000 ∧ (k = 22 ∨ k = 23 ∨ k = 76 ∨ k = 83 ∨ k = 95 ∨ (100 ≤ k ∧ k ≤ 111))) → J2 f k = I f k := fun f k hf => by rw [g2 f k (by unfold m_p44; omega), n1 f k (by omega)]
  have L2 := m_L_gp L1 g2 (fun f k p => by unfold m_p44 at p; omega)
  have st2 := m_st_gp st1 g2 (fun f k p q => by unfold m_pl at p; unfold m_p44 at q; omega)
  have T2 := m_tr_44 T1 g2
  have li2 := m_li_gp li1 g2 (fun f k p => by unfold m_p44 at p; omega)
  have gI2 : m_gp (m_pD us) I J2 := m_gp_trans (m_pD_sh g1) (m_pD_44 g2)
  have x2 : m_tk J2 mk K fr lm := m_tk_up hx L2 (w_le_refl _) (fun i _ => n2 26 _ (by omega)) (funext (fun k => n2 16 k (by omega)))
  have hown : ¬ h_rm L (gg_lf G) → w_az mk (J2 44 (1488 + 2 * gg_lf G)) (d_own (h_ap (gg_T G) L) (2 * gg_lf G)) := fun hn => by
    obtain ⟨k1, _, _, k4⟩ := own hn
    have lw : 2 * gg_lf G < t_w (h_ap (gg_T G) L) := by have := k1.1; rw [t_w_e]; omega
    rcases ho2 with h | ⟨h, no⟩
    · exact Or.inr h
    · have := h lw
      rw [k4 no] at this
      exact this
  have sne : ¬ h_rm L (gg_lf G) → d_own (h_ap (gg_T G) L) (2 * gg_lf G) ≠ [] := fun hn e => by
    -- a public key of nothing is not held
    obtain ⟨k1, _, k3, k4⟩ := own hn
    rcases ho2 with h | ⟨_, no⟩
    · exact w_at_ne L2 h e
    · have h2 := hst.2.2.2.2.2.2.2.1 (2 * gg_lf G) lfw
      have e4 := k4 no
      rw [e] at e4
      have kk := hi.2.2.2.2.1
      have e5 : t_ky (h_ap (gg_T G) L) (2 * gg_lf G) = t_ky (gg_T G) (2 * gg_lf G) := by rw [(h_ap_oth hi.2.2.2.2.2.1 hok (g_is hst.1) ha hn hr).1, h_kb_no L no]
      unfold w_hcy at e4
      rw [if_pos ⟨lfw, k1.2, e5⟩] at e4
      rw [e4] at kk
      -- the key has a part
      have hk := w_az_ne (hst.2.2.2.1.2.2.1 (2 * gg_lf G) lfw).2.1 hst.1.2.2.1
      rw [kk] at hk
      exact m_p5_part hw.1 hk
  intro v294 e294 _
  rw [n2 1000 100 (by omega)] at e294
  cases pt with
  | none =>
    have h100 : I 1000 100 = 0 := h100
    refine ⟨fun _ => ?_, fun c => absurd (e294.trans h100) c⟩
    refine r_dc_142n (T := h_ap (gg_T G) L) (s := d_own (h_ap (gg_T G) L) (2 * gg_lf G)) (S := S) (cf := cf) hm L2 st2 T2 li2 x2 (by omega) hl3 hlm (by rw [n2 1000 102 (by omega)]; exact h102) (by rw [n2 1000 104 (by omega)]; exact h104) (by rw [n2 1000 100 (by omega)]; exact h100) hz sne (fun hn x hx => ?_) (fun hn => (d_iv0 hi a1 a2 a3 a4 (own hn).1 (own hn).2.1 (own hn).2.2.1).1) hb hS (fun J hr j1 j2 j3 j4 gJ => ?_) (fun J mm hn hc mo bm LJ sJ j1 j2 j3 gJ => ?_) (fun J mm hn hc mo bm LJ gJ => ?_)
    · unfold d_h0
      by_cases e : x = 2 * gg_lf G
      · rw [if_pos e, e]; exact hown hn
      · rw [if_neg e]; exact hx2 x hx e
    · exact q 0 (some none) J mk (Or.inr ⟨shp, Or.inl ⟨hr, rfl, rfl⟩⟩) w_mo_refl hb (m_L_gp L2 gJ (fun f k p => by unfold m_plv at p; omega)) ⟨j1, j2, j3, j4, m_gp_trans (m_gp_sub gI2 (fun f k p => Or.inl p)) (m_gp_sub gJ (fun f k p => Or.inr p))⟩
    · exact q 0 (some (some _)) J mm (Or.inr ⟨shp, Or.inr ⟨hn, Or.inl ⟨hc, rfl, rfl⟩⟩⟩) mo bm LJ ⟨sJ, j1, j2, j3, m_gp_trans (m_gp_sub gI2 (fun f k p => Or.inl p)) (m_pD_dc gJ)⟩
    · exact q 12 none J mm (Or.inr ⟨shp, Or.inr ⟨hn, Or.inr ⟨hc, rfl, rfl⟩⟩⟩) mo bm LJ (m_gp_trans gI2 (m_gp_sub gJ (fun f k p => p.elim Or.inl (fun p => Or.inr (Or.inr (Or.inl p))))))
  | some pp =>
    obtain ⟨f, ns⟩ := pp
    obtain ⟨h100, h111, hpn⟩ : I 1000 100 = 1 ∧ I 1000 111 = ((fr + (e1 + 1) : Nat) : Int) ∧ m_pns I mk fr ns := h100
    have shp' : d_sh (h_ap (gg_T G) L) (k_ms G L) l ns := shp
    refine ⟨fun c => by omega, fun _ => ?_⟩
    have w1 := wJ (by simp)
    have w2 : m_wy J2 (h_ap (gg_T G) L) l := ⟨by rw [g2 1000 93 (by unfold m_p44; omega)]; exact w1.1, fun j hj => by rw [g2 90 j (by unfold m_p44; omega), g2 91 j (by unfold m_p44; omega), g2 94 j (by unfold m_p44; omega)]; exact w1.2 j hj⟩
    have p2 := m_pns_gp (m_pns_gp hpn g1 (fun f k p => by unfold m_psh m_pwy m_prs at p; omega)) g2 (fun f k p => by unfold m_p44 at p; omega)
    have me2 : m_me J2 mk := fun k hk => by rw [n2 20 k (by omega), n2 21 k (by omega)]; exact hw.2.1 k hk
    obtain ⟨n5, f5⟩ := p_cm_n5 hx5 hcm
    have lfok : t_lfok f := by
      obtain ⟨s, hs⟩ := p_cm_lf hcm
      exact (p_lf_ok (m_tk_vl hx) (Nat.le_refl _) hs).1
    refine r_isPathLeafRight (T := h_ap (gg_T G) L) (S := S) o2.1 T2 w2 p2 shp'.1 o2.2 a4 x2 (by rw [n2 1000 23 (by omega)]; omega) hcm (by rw [n2 1000 101 (by omega)]; exact h101) (by rw [n2 1000 111 (by omega)]; exact h111) me2 hb L2 (fun v hv => hS v (Or.inl hv)) (fun J3 m3 lr ph mo3 b3 L3 T3 pk3 z44 z2l g3 => ?_) (fun J3 m3 nl mo3 b3 L3 g3 => ?_)
    rotate_left
    · intro _
      exact ⟨fun c => absurd rfl c, fun _ => q 9 none J3 m3 (Or.inr ⟨shp, Or.inl ⟨nl, rfl, rfl⟩⟩) mo3 b3 L3 (m_gp_trans gI2 (m_pD_qr l16 g3))⟩
    intro _
    refine ⟨fun _ => ?_, fun c => absurd c (by decide)⟩
    have n3 : ∀ f k, (18 ≤ f ∧ f ≤ 35) ∨ (36 ≤ f ∧ f ≤ 44 ∧ k < 1488) ∨ (45 ≤ f ∧ f ≤ 54) ∨ f = 16 ∨ (77 ≤ f ∧ f ≤ 82) ∨ (90 ≤ f ∧ f ≤ 94) ∨ (f = 1000 ∧ (k = 22 ∨ k = 23 ∨ k = 76 ∨ k = 83 ∨ k = 93 ∨ (100 ≤ k ∧ k ≤ 111))) → J3 f k = J2 f k := fun f k hf => g3 f k (fun p => by
      unfold m_pqr m_pql at p
      rcases p with (p | p | p) | p
      · rcases p with p | ⟨p1, p2, j, p3, p4⟩
        · unfold m_p2 at p; omega
        · omega
      · unfold m_psp at p; omega
      · omega
      · unfold m_pd at p; omega)
    have st3 : m_st J3 m3 m G := m_st_le (m_st_eq st2 (fun f h1 h2 => n3 f m (by omega)) (fun f x h1 h2 h3 => n3 f _ (by omega))) mo3.1
    have gI3 : m_gp (m_pD us) I J3 := m_gp_trans gI2 (m_pD_qr l16 g3)
    have li3 := m_li_up' li2 L3 mo3.1 n3
    have x3 : m_tk J3 m3 K fr lm := m_tk_up x2 L3 mo3.1 (fun i _ => n3 26 _ (by omega)) (funext (fun k => n3 16 k (by omega)))
    have w3 : m_wy J3 (h_ap (gg_T G) L) l := ⟨by rw [n3 1000 93 (by omega)]; exact w2.1, fun j hj => by rw [n3 90 j (by omega), n3 91 j (by omega), n3 94 j (by omega)]; exact w2.2 j hj⟩
    have T2ok := d_T2_ok (ns := ns) a1 a2 a3 a4 l16 lfok lr.2.2 ⟨n5, f5⟩
    refine r_dc_142p (T := h_ap (gg_T G) L) (l := l) (f := f) (ns := ns) (s := d_own (h_ap (gg_T G) L) (2 * gg_lf G)) (S := S) (cf := cf) (msk := k_ms G L) hm L3 st3 T3 li3 x3 (by omega) hl3 hlm (by rw [n3 1000 102 (by omega), n2 1000 102 (by omega)]; exact h102) (by rw [n3 1000 104 (by omega), n2 1000 104 (by omega)]; exact w_le_at mo3.1 h104) (by rw [n3 1000 100 (by omega), n2 1000 100 (by omega)]; exact h100) a1 o2.1 ⟨T2ok.1, T2ok.2.1, T2ok.2.2.1⟩ hi.2.2.2.1 hne (fun hn => (own hn).1) w3 pk3 (by rw [n3 1000 83 (by omega), n2 1000 83 (by omega)]; exact h83) hmsk shp' hcm n5 sne (fun hn x hx => ?_) (fun hn => (d_iv1 hi a1 a4 (own hn).1 (own hn).2.1 (own hn).2.2.1 o2.1 hne T2ok n5).1) b3 (fun v hv => hS v (Or.inr (Or.inl hv))) (fun v hv => hS v (Or.inr (Or.inr hv))) (fun J hr j1 j2 j3 j4 gJ => ?_) (fun J hn hp LJ gJ => ?_) (fun J mm hn hp hc mo bm LJ gJ => ?_) (fun J mm hn hp hc he mo bm LJ sJ j1 j2 j3 gJ => ?_) (fun J mm hn hp hc he mo bm LJ gJ => ?_)
    · unfold d_h2
      by_cases e : x = 2 * gg_lf G
      · rw [if_pos e, e, g3 44 _ (fun p => ?_)]
        · exact w_le_az mo3.1 (hown hn)
        · unfold m_pqr m_pql at p
          rcases p with (p | p | p) | p
          · rcases p with p | ⟨p1, p2, j, p3, p4⟩
            · unfold m_p2 at p; omega
            · have := (d_way l16 p3).2; omega
          · unfold m_psp at p; omega
          · omega
          · unfold m_pd at p; omega
      · rw [if_neg e]
        by_cases c3 : x % 2 = 1 ∧ x = t_ab l (w_h x) ∧ w_h x ≤ t_dp (h_ap (gg_T G) L)
        · rw [if_pos c3]
          obtain ⟨c4, c5, c6⟩ := c3
          have h0 : w_h x ≠ 0 := fun e => by
            rw [e, t_ab_0] at c5
            omega
          have := z44 (w_h x - 1) (by omega)
          rw [show w_h x - 1 + 1 = w_h x by omega, ← c5] at this
          exact Or.inl ⟨this, rfl⟩
        · rw [if_neg c3]
          by_cases e2 : x = 2 * l
          · rw [e2, z2l]
            exact Or.inl ⟨rfl, w_hcy_lf hi.2.2.2.1 (fun e => hne e.symm)⟩
          · rw [g3 44 _ (fun p => ?_)]
            · exact w_le_az mo3.1 (hx2 x hx e)
            · unfold m_pqr m_pql at p
              rcases p with (p | p | p) | p
              · rcases p with p | ⟨p1, p2, j, p3, p4⟩
                · unfold m_p2 at p; omega
                · obtain ⟨y1, y2⟩ := d_way l16 p3
                  have ex : x = t_ab l (j + 1) := by omega
                  by_cases jd : j < t_dp (h_ap (gg_T G) L)
                  · exact c3 (by rw [ex, y1]; exact ⟨y2, rfl, by omega⟩)
                  · have := t_ab_far ⟨t_dp (h_ap (gg_T G) L), by have := a1.1; omega⟩ ⟨l, l16⟩ ⟨j + 1, by omega⟩ o2.1 (by show t_dp (h_ap (gg_T G) L) < j + 1; omega)
                    have : t_w (h_ap (gg_T G) L) ≤ t_ab l (j + 1) := this
                    omega
              · unfold m_psp at p; omega
              · omega
              · unfold m_pd at p; omega
    · exact q 0 (some none) J m3 (Or.inr ⟨shp, Or.inr ⟨⟨lr, ph⟩, Or.inl ⟨hr, rfl, rfl⟩⟩⟩) mo3 b3 (m_L_gp L3 gJ (fun f k p => by unfold m_plv at p; omega)) ⟨j1, j2, j3, j4, m_gp_trans (m_gp_sub gI3 (fun f k p => Or.inl p)) (m_gp_sub gJ (fun f k p => Or.inr p))⟩
    · exact q 10 none J m3 (Or.inr ⟨shp, Or.inr ⟨⟨lr, ph⟩, Or.inr ⟨hn, Or.inl ⟨hp, rfl, rfl⟩⟩⟩⟩) mo3 b3 LJ (m_gp_trans gI3 (m_pD_cl l16 a1.1 gJ))
    · exact q 11 none J mm (Or.inr ⟨shp, Or.inr ⟨⟨lr, ph⟩, Or.inr ⟨hn, Or.inr ⟨hp, Or.inl ⟨hc, rfl, rfl⟩⟩⟩⟩⟩) (w_mo_trans mo3 mo) bm LJ (m_gp_trans gI3 (m_pD_cl l16 a1.1 gJ))
    · refine q 0 (some (some _)) J mm (Or.inr ⟨shp, Or.inr ⟨⟨lr, ph⟩, Or.inr ⟨hn, Or.inr ⟨hp, Or.inr ⟨hc, Or.inl ⟨he, rfl, rfl⟩⟩⟩⟩⟩⟩) (w_mo_trans mo3 mo) bm LJ ⟨sJ, j1, j2, j3, m_gp_trans (m_gp_sub gI3 (fun f k p => Or.inl p)) (m_gp_sub gJ (fun f k p => ?_))⟩
      rcases p with p | p
      · exact Or.inl (m_pD_cl1 l16 a1.1 p)
      · exact m_pD_dc1 p
    · refine q 12 none J mm (Or.inr ⟨shp, Or.inr ⟨⟨lr, ph⟩, Or.inr ⟨hn, Or.inr ⟨hp, Or.inr ⟨hc, Or.inr ⟨he, rfl, rfl⟩⟩⟩⟩⟩⟩) (w_mo_trans mo3 mo) bm LJ (m_gp_trans gI3 (m_gp_sub gJ (fun f k p => ?_)))
      rcases p with p | p | p
      · exact m_pD_cl1 l16 a1.1 p
      · exact Or.inl p
      · exact Or.inr (Or.inr (Or.inl p))
end
