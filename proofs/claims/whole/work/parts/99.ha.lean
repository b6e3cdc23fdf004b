/-! ===== the class: gatherChanges ===== -/
noncomputable section
section
variable {T : w_T} {L : List w_Ch} {c : w_Ch} {com : Int}
theorem h_own_24 (h4 : t_dp T ≤ 4) (ok : p_cok c.1) (h : h_own T c) : 0 ≤ h_go c ∧ h_go c < 24 := by
  have d16 := t_d_16 h4
  by_cases c1 : c.1.1 = 1
  · have a := (h.1 c1).1.1
    have a : w_sok (h_lf c).1 _ _ _ := a
    unfold h_go
    rw [if_pos c1]
    exact ⟨a.1, a.2.1⟩
  · obtain ⟨b1, b2, _⟩ := h.2.1 c1
    refine ⟨b1, ?_⟩
    have : ((2 ^ t_dp T : Nat) : Int) ≤ 16 := by omega
    omega
/-- what the class asks of one more is what the reference asks -/
theorem h_C_snoc (h4 : t_dp T ≤ 4) (hok : ∀ d ∈ L ++ [c], p_cok d.1) (how : ∀ l, t_is T l → 0 ≤ t_ow T l) (hown : ∀ d ∈ L, h_own T d) : (h_done T (L ++ [c]) com → h_own T c ∧ L.length < 32) ∧ (h_own T c → (h_C T (L ++ [c]) com ↔ h_done T (L ++ [c]) com)) := by
  refine ⟨fun h => ⟨h_all_own h.1 hok c (List.mem_append.mpr (Or.inr (List.mem_singleton.mpr rfl))), ?_⟩, fun h => h_C_done h4 (fun d hd => ?_) hok how⟩
  · have := h_len h4 hok h
    rw [List.length_append, List.length_singleton] at this
    omega
  · rcases List.mem_append.mp hd with x | x
    · exact hown d x
    · rw [List.mem_singleton] at x; rw [x]; exact h
end
variable {H G Z X Y : sw_H} {mk mm tl tp l0 l1 : List Wt} {ms : List (List Wt)} {rd : Nat → Int} {nn nm r k o h l x y g g1 g2 n m p : Nat} {K K' S : Wt → Prop} {cn cs msk N U M z wp : Int} {T T2 T0 : w_T} {Q : sw_H → Prop} {P : Int → sw_H → Prop} {A : List Nat} {w s n0 cm jn : Wt} {G' : w_G} {L : List w_Ch} {f : p_L} {d : w_Ch} {La : Nat → List (Wt × Nat)} {C : List w_Ch}
/-- HASHes of kept proposals are those of their messages -/
def w_kh (ms : List (List Wt)) (Lk : List (Wt × Nat)) : Prop := ∀ (i k : Nat) (h : Wt), Lk[i]? = some (h, k) → ∃ p, ms[k]? = some p ∧ h = w_t 1 [] [] [] p
/-- what gathering changes -/
def c_Ag : List Nat := c_Ac ++ [52]
theorem c_Ag_m {a : Nat} : a ∈ c_Ag ↔ a = 14 ∨ a = 15 ∨ (44 ≤ a ∧ a ≤ 49) ∨ (53 ≤ a ∧ a ≤ 84) ∨ a = 52 := by
  unfold c_Ag
  rw [List.mem_append, c_Ac_m, List.mem_singleton]
  omega
theorem c_Ag_hl : ∀ a ∈ c_Ag, c_hl a := fun a ha => by rw [c_Ag_m] at ha; unfold c_hl; omega
theorem c_ci_drop {zz : Int} (h : c_ci H mk K ms (L ++ [d])) (hz : zz = (L.length : Nat)) : c_ci (sw_si H 44 1 zz) mk K ms L := by
  have f : c_fr [44] H (sw_si H 44 1 zz) := c_fr_si _ _ _ _
  obtain ⟨h1, h2, h3, h4⟩ := h
  rw [List.length_append, List.length_singleton] at h3
  refine ⟨c_Ch_fr h1 f, by rw [c_si_eq, hz], by omega, fun k c hc => ?_⟩
  have hk := h_lt hc
  refine c_le_eq (h4 k c (by rw [List.getElem?_append_left hk]; exact hc)) (fun a ha => by rw [f.2.2.2.2.2 a (by simp; omega)]) (f.2.2.2.2.2 _ (by simp; omega)) (f.2.2.2.2.1 _ _) (fun j => f.2.2.2.2.1 _ _)
theorem c_gc_5 (hm : m < 24) (lm : c_lm cn cs N U M) (bd : c_bl mk tl N U M) (hkc : w_kc K ms (La m) C) (hkh : w_kh ms (La m)) (hvl : ∀ p ∈ ms, w_vl p) (hlv : gg_lv G') (hpl : c_pl g) (hH : c_BS H mk nn K tl cn cs tp rd ms La) (hgH : c_gp H mk g G') (r4 : sw_rv H (120 + 54 * m) 4 = g) (t44 : sw_ty H 44 = 24)
    (q : ∀ J, c_BS J mk nn K tl cn cs tp rd ms La → c_ci J mk K ms (k_L G' C) → sw_iv J 44 2 = (h_nad (k_L G' C) : Nat) → c_ch c_Ag H J → Q J) :
    ∀ (n k : Nat) {G : sw_H} {L' : List w_Ch}, c_BS G mk nn K tl cn cs tp rd ms La → c_ci G mk K ms L' → (L' = [] ∨ h_done (gg_T G') L' (gg_lf G')) → (∀ c ∈ L', p_cok c.1) → h_ga (gg_T G') (gg_lf G') L' (C.drop k) = k_L G' C → c_ch c_Ag H G → k ≤ (La m).length → (La m).length - k < n → wl_178_5 Q n 2 (120 + 54 * m) k G
  | 0, _, _, _, _, _, _, _, _, _, _, h => by omega
  | n + 1, k, G, L', hB, hci, hdn, hok, hga, cG, hk, hn => by
    obtain ⟨W0, X0, MS0, KS0⟩ := id hH
    have fl0 := W0.1.2.2.2.1
    have ad0 := W0.1.2.2.2.2
    obtain ⟨W, Xx, MS, KS⟩ := id hB
    obtain ⟨o0, o1, o2, o3, o4, o5, o6, o7, o8, o9, o10, o11, o12, o13⟩ := id Xx.1
    obtain ⟨b1, b2⟩ := c_pl_b hpl
    have b3 := c_pl_m hpl hm
    have ml := c_W_len lm bd
    have fl := W.1.2.2.2.1
    have ad := W.1.2.2.2.2
    have nAg : ∀ a, a = 120 + 54 * m ∨ (g ≤ a ∧ a ≤ g + 22) ∨ a = 2 → a ∉ c_Ag := fun a ha cc => by rw [c_Ag_m] at cc; omega
    have gG := c_gp_ch hgH fl0 ad0 cG (fun a ha => by rw [c_Ag_m] at ha; omega) (w_le_refl _)
    have r4G : sw_rv G (120 + 54 * m) 4 = g := by rw [(c_fx_iv fl0 ad0 cG (q := 120 + 54 * m) (by unfold c_fix; omega) (nAg _ (Or.inl rfl))).2 4]; exact r4
    have t44G : sw_ty G 44 = 24 := by rw [(c_fx_ty fl0 cG (q := 44) (by unfold c_fix; omega)).1]; exact t44
    have gs := gG.1
    have tr := gG.2.2.2.2.1
    have g3 := gG.2.2.2.1
    have h4 := tr.2.1.1
    have d16 := t_d_16 h4
    have lf16 : gg_lf G' < 16 := by have := g_lf gG.2.1; omega
    have how : ∀ l, t_is (gg_T G') l → 0 ≤ t_ow (gg_T G') l ∧ t_ow (gg_T G') l < 24 := fun l hl => by
      have hw : 2 * l < t_w (gg_T G') := by have := hl.1; rw [t_w_e]; omega
      exact ⟨(tr.2.1.2.2 l hw hl.2).1, (hlv l hw hl.2).1⟩
    have hown : ∀ c ∈ L', h_own (gg_T G') c := fun c hc => by
      rcases hdn with e | e
      · rw [e] at hc; cases hc
      · exact h_all_own e.1 hok c hc
    obtain ⟨kp, pp⟩ := KS.1 m hm
    obtain ⟨pp1, pp2, pp3⟩ := pp
    unfold wl_178_5
    intro v5 e5 _
    rw [pp1] at e5
    subst e5
    refine ⟨fun c => ?_, fun c => ?_⟩
    · have ek : k = (La m).length := by omega
      have eL : L' = k_L G' C := by
        rw [ek, ← hkc.1, List.drop_length] at hga
        exact hga
      rw [o8]
      refine ⟨t44G, ?_⟩
      intro q8 e8
      rw [r4G]
      refine ⟨gs.2.2.1, ?_⟩
      intro q11 e11
      rw [e11, gs.2.2.2.1]
      refine ⟨tr.1.2.2.1, ?_⟩
      intro q14 e14
      refine ⟨gs.2.2.1, ?_⟩
      intro q17 e17 v20 e20 _
      rw [e17, g3] at e20
      subst e20
      rw [e8, e14]
      refine c_areRight (cm := gg_lf G') (by omega) W hci tr (fun c hc => h_own_24 h4 (hok c hc) (hown c hc)) how (by omega) (fun z Z _ ciZ WZ fZ adz => ?_)
      intro _ _
      have cZ := c_fr_ch fl fZ (by simp)
      have BZ := c_BS_ch hB WZ cZ (w_le_refl _) (fun a ha => by simp at ha; unfold c_hl; omega)
      have hdi : h_di L' (gg_lf G') L'.length := by
        rcases hdn with e | e
        · rw [e]; intro j c hj; exact absurd hj (Nat.not_lt_zero _)
        · exact h_all_di e.1
      refine q Z BZ (by rw [← eL]; exact ciZ) (by rw [← eL]; exact (adz hdi).1) (c_ch_t cG (c_ch_sub cZ (fun a ha => by simp at ha; rw [c_Ag_m]; omega)))
    · obtain ⟨⟨hh, mi⟩, hLk⟩ : ∃ u, (La m)[k]? = some u := ⟨_, List.getElem?_eq_getElem (by omega)⟩
      obtain ⟨pm, ep, lf, v, sg, tg, hp, hr, hC⟩ := hkc.2 k mi hh hLk
      obtain ⟨pm', hp', ehh⟩ := hkh k mi hh hLk
      have epm : pm' = pm := by rw [hp] at hp'; injection hp' with hp'; exact hp'.symm
      rw [epm] at ehh
      obtain ⟨u7, u8⟩ := pp3 k mi hh hLk
      obtain ⟨kp1, kp2, kp3, kp4, kp5, kp6, kp7⟩ := kp
      have vlp := hvl pm (List.mem_of_getElem? hp)
      obtain ⟨pr1, pr2, pr3, pr4, pr5, pr6, pr7⟩ := hr
      obtain ⟨M1, M2, M3⟩ := Xx.2.2.2
      obtain ⟨q1', q2', q3', ra, q4', q5', q6'⟩ := M3 mi pm hp
      have t80 : sw_ty G (sw_rv G 1416 mi) = 80 := (q6'.choose_spec).1.1
      have milt : mi < ms.length := (List.getElem?_eq_some_iff.mp hp).1
      have okv : p_cok v := p_ct_ok vlp (Nat.le_refl _) pr5
      have lf16' := p_16_sl vlp (Nat.le_refl _) pr4
      have ednk : C.drop k = (v, lf, hh) :: C.drop (k + 1) := by
        have kl : k < C.length := by rw [hkc.1]; omega
        rw [List.drop_eq_getElem_cons kl]
        have : C[k] = (v, lf, hh) := by
          have := hC
          rw [List.getElem?_eq_getElem kl] at this
          injection this
        rw [this]
      rw [ednk] at hga
      have hok2 : ∀ c ∈ L' ++ [(v, lf, hh)], p_cok c.1 := fun c hc => by
        rcases List.mem_append.mp hc with x | x
        · exact hok c x
        · rw [List.mem_singleton] at x; rw [x]; exact okv
      obtain ⟨sn1, sn2⟩ := h_C_snoc (com := gg_lf G') h4 hok2 (fun l hl => (how l hl).1) hown
      have nxt : ∀ {Z : sw_H} {L2 : List w_Ch}, c_BS Z mk nn K tl cn cs tp rd ms La → c_ci Z mk K ms L2 → (L2 = [] ∨ h_done (gg_T G') L2 (gg_lf G')) → (∀ c ∈ L2, p_cok c.1) → h_ga (gg_T G') (gg_lf G') L2 (C.drop (k + 1)) = k_L G' C → c_ch c_Ag G Z → wb_178_43 Q (wl_178_5 Q n) 2 (120 + 54 * m) k Z := fun {Z L2} a1 a2 a3 a4 a5 a6 => by
        unfold wb_178_43
        intro y1 ey
        rw [sw_s1 (by omega)] at ey
        subst ey
        exact c_gc_5 hm lm bd hkc hkh hvl hlv hpl hH hgH r4 t44 q n (k + 1) a1 a2 a3 a4 a5 (c_ch_t cG a6) (by omega) (by omega)
      -- not taken
      have no : ∀ {Z : sw_H}, ¬ h_done (gg_T G') (L' ++ [(v, lf, hh)]) (gg_lf G') → c_BS Z mk nn K tl cn cs tp rd ms La → c_ci Z mk K ms L' → c_ch c_Ag G Z → wb_178_43 Q (wl_178_5 Q n) 2 (120 + 54 * m) k Z := fun {Z} nd a1 a2 a6 => nxt a1 a2 hdn hok (by rw [← hga, h_ga_0 nd]) a6
      rw [o4]
      refine ⟨o13.1, ?_⟩
      intro q28 e28
      refine ⟨kp1.1, ?_⟩
      intro q31 e31
      rw [e31]
      have l7 : (La m).length ≤ sw_ln G (sw_rv G (120 + 54 * m) 7) := by have a := kp2; have b := pp2; unfold c_ka at a b; omega
      refine ⟨by omega, by omega, ?_⟩
      intro v34 e34 _
      rw [Int.toNat_natCast] at e34
      have e34 : v34 = (mi : Int) := by rw [e34]; exact u7
      subst e34
      rw [e28]
      refine ⟨by omega, by rw [o13.2]; omega, ?_⟩
      rw [Int.toNat_natCast]
      refine ⟨t80, ?_⟩
      intro q37 e37
      rw [o8]
      refine ⟨t44G, ?_⟩
      intro q43 e43
      rw [e37]
      refine c_u16At (i := 5) W.1.1 q6' (by omega) (Nat.le_refl _) pr4 ?_
      intro _ _
      rw [r4G]
      refine ⟨gs.2.2.1, ?_⟩
      intro q51 e51
      rw [e43, e51]
      refine c_isTakenIn (mi := mi) (e := pm.length) (i := 7) (hs := hh) ml hci W ⟨hp, rfl, q1', q4', q3', q6'⟩ ⟨gs.2.2.2.1, by omega, tr⟩ (Nat.le_refl _) pr5 ⟨lf16'.2.1, lf16'.2.2.1⟩ (fun _ => ehh) (fun l32 => ?_) (fun zt Z l32 hz WZ fZ => ?_)
      · intro _ _
        refine ⟨fun _ => no (fun hd => ?_) hB hci (c_ch_refl _ _), fun cc => absurd rfl cc⟩
        have := (sn1 hd).2
        omega
      · intro _ _
        have cZ : c_ch c_Ac G Z := c_al_ch fZ.1 (fl 3 (by decide) (by decide)) (fun cc => by rw [c_Ac_m] at cc; omega)
        have cZ2 : c_ch c_Ag G Z := c_ch_sub cZ (fun a ha => List.mem_append.mpr (Or.inl ha))
        have BZ := c_BS_ch hB WZ cZ2 (w_le_refl _) c_Ag_hl
        have flZ := WZ.1.2.2.2.1
        rcases hz with ⟨e1, hown1, ciZ⟩ | ⟨e0, hno, ciZ⟩
        · subst e1
          refine ⟨fun cc => absurd cc (by decide), fun _ => ?_⟩
          have gZ := c_gp_ch gG fl ad cZ2 (fun a ha => by rw [c_Ag_m] at ha; omega) (w_le_refl _)
          have r4Z : sw_rv Z (120 + 54 * m) 4 = g := by rw [(c_fx_iv fl ad cZ2 (q := 120 + 54 * m) (by unfold c_fix; omega) (nAg _ (Or.inl rfl))).2 4]; exact r4G
          have t44Z : sw_ty Z 44 = 24 := by rw [(c_fx_ty fl cZ2 (q := 44) (by unfold c_fix; omega)).1]; exact t44G
          have OZ := BZ.2.1.1
          rw [OZ.2.2.2.2.2.2.2.2.1]
          refine ⟨t44Z, ?_⟩
          intro q62 e62
          rw [r4Z]
          refine ⟨gZ.1.2.2.1, ?_⟩
          intro q65 e65
          rw [e65, gZ.1.2.2.2.1]
          refine ⟨gZ.2.2.2.2.1.1.2.2.1, ?_⟩
          intro q68 e68
          refine ⟨gZ.1.2.2.1, ?_⟩
          intro q71 e71 v74 e74 _
          rw [e71, gZ.2.2.2.1] at e74
          subst e74
          rw [e62, e68]
          have hown2 : ∀ c ∈ L' ++ [(v, lf, hh)], h_own (gg_T G') c := fun c hc => by
            rcases List.mem_append.mp hc with x | x
            · exact hown c x
            · rw [List.mem_singleton] at x; rw [x]; exact hown1
          refine c_areRight (cm := gg_lf G') (by omega) WZ ciZ gZ.2.2.2.2.1 (fun c hc => h_own_24 h4 (hok2 c hc) (hown2 c hc)) how (by omega) (fun za Y ha ciY WY fY _ => ?_)
          intro _ _
          have cY := c_fr_ch flZ fY (by simp)
          have cY2 : c_ch c_Ag G Y := c_ch_t cZ2 (c_ch_sub cY (fun a ha => by simp at ha; rw [c_Ag_m]; omega))
          have BY := c_BS_ch BZ WY cY (w_le_refl _) (fun a ha => by simp at ha; unfold c_hl; omega)
          rcases ha with ⟨ea, hC1⟩ | ⟨ea, hC0⟩
          · subst ea
            have dn := (sn2 hown1).mp hC1
            exact ⟨fun _ => nxt BY ciY (Or.inr dn) hok2 (by rw [← hga, h_ga_1 dn]) cY2, fun cc => absurd cc (by decide)⟩
          · subst ea
            have ndn : ¬ h_done (gg_T G') (L' ++ [(v, lf, hh)]) (gg_lf G') := fun cc => hC0 ((sn2 hown1).mpr cc)
            refine ⟨fun cc => absurd rfl cc, fun _ => ?_⟩
            have OY := BY.2.1.1
            have t44Y : sw_ty Y 44 = 24 := by rw [fY.2.2.1]; exact t44Z
            rw [OY.2.2.2.2.2.2.2.2.1]
            refine ⟨t44Y, ?_⟩
            intro q82 e82
            rw [e82]
            have len1 : sw_iv Y 44 1 = ((L'.length + 1 : Nat) : Int) := by rw [ciY.2.1, List.length_append, List.length_singleton]
            unfold wm_281
            intro v1 e1 _
            rw [len1] at e1
            refine ⟨fun cc => absurd cc (by omega), fun _ => ?_⟩
            intro v4 e4 _ V eV
            rw [len1] at e4
            have ez : sw_w (v4 - 1) = ((L'.length : Nat) : Int) := by rw [e4, sw_w_s (by omega) (by omega)]; omega
            rw [ez] at eV
            clear ez
            intro _
            have fV : c_fr [44] Y V := by rw [eV]; exact c_fr_si _ _ _ _
            have WV := c_W_fr WY fV (fun a ha => by simp at ha; unfold c_fix; omega)
            have cV := c_V_ch WY.1 fV (fun a ha => by simp at ha; unfold c_fix; omega)
            have BV := c_BS_ch BY WV cV (w_le_refl _) (fun a ha => by simp at ha; unfold c_hl; omega)
            exact no ndn BV (by rw [eV]; exact c_ci_drop ciY rfl) (c_ch_t cY2 (c_ch_sub cV (fun a ha => by simp at ha; rw [c_Ag_m]; omega)))
        · subst e0
          refine ⟨fun _ => no (fun hd => hno (sn1 hd).1) BZ ciZ cZ2, fun cc => absurd rfl cc⟩
theorem c_gatherChanges (hm : m < 24) (lm : c_lm cn cs N U M) (bd : c_bl mk tl N U M) (hkc : w_kc K ms (La m) C) (hkh : w_kh ms (La m)) (hvl : ∀ p ∈ ms, w_vl p) (hlv : gg_lv G') (hpl : c_pl g) (hH : c_BS H mk nn K tl cn cs tp rd ms La) (hgH : c_gp H mk g G') (r4 : sw_rv H (120 + 54 * m) 4 = g) (t44 : sw_ty H 44 = 24) (hCh : c_Ch H)
    (q : ∀ J, c_BS J mk nn K tl cn cs tp rd ms La → c_ci J mk K ms (k_L G' C) → sw_iv J 44 2 = (h_nad (k_L G' C) : Nat) → c_ch c_Ag H J → Q J) : wm_178 2 (120 + 54 * m) H Q := by
  obtain ⟨W, Xx, MS, KS⟩ := id hH
  obtain ⟨b1, b2⟩ := c_pl_b hpl
  have b3 := c_pl_m hpl hm
  have fl := W.1.2.2.2.1
  have ad := W.1.2.2.2.2
  unfold wm_178
  rw [Xx.1.2.2.2.2.2.2.2.2.1]
  refine ⟨t44, ?_⟩
  intro q93 e93
  rw [e93]
  unfold wm_277
  intro Z eZ
  intro _
  have fZ : c_fr [44] H Z := by rw [eZ]; exact c_fr_si _ _ _ _
  have WZ := c_W_fr W fZ (fun a ha => by simp at ha; unfold c_fix; omega)
  have cZ := c_V_ch W.1 fZ (fun a ha => by simp at ha; unfold c_fix; omega)
  have BZ := c_BS_ch hH WZ cZ (w_le_refl _) (fun a ha => by simp at ha; unfold c_hl; omega)
  refine ⟨(La m).length + 1, c_gc_5 (H := H) hm lm bd hkc hkh hvl hlv hpl hH hgH r4 t44 q ((La m).length + 1) 0 BZ (show c_ci Z mk K ms [] from ⟨c_Ch_fr hCh fZ, by rw [eZ, c_si_eq]; rfl, by decide, fun k c hc => by cases hc⟩) (Or.inl rfl) (fun c hc => by cases hc) rfl (c_ch_sub cZ (fun a ha => by simp at ha; rw [c_Ag_m]; omega)) (Nat.zero_le _) (by omega)⟩
end
