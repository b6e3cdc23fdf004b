/-! ===== the class: commit: with and without a path ===== -/
noncomputable section
variable {H G Z X Y : sw_H} {mk mm tl tp lt l0 l1 : List Wt} {ms : List (List Wt)} {rd : Nat → Int} {nn nm r k o h l x y g g1 g2 n m p : Nat} {K K' K2 Kr S : Wt → Prop} {cn cs cn' cs' msk N U M z wp x2 : Int} {T T1 T2 T0 : w_T} {Q : sw_H → Prop} {P : Int → sw_H → Prop} {A : List Nat} {w s n0 cm jn sc : Wt} {G' : w_G} {L : List w_Ch} {f : p_L} {d : w_Ch} {La : Nat → List (Wt × Nat)} {C : List w_Ch} {hd : Nat → Wt} {Ul : List (Wt × Wt)}
theorem c_Ch_ch (h : c_Ch H) (fl : c_full H) (ad : c_ads H) (c : c_ch A H G) (h44 : 44 ∉ A) (h51 : 51 ∉ A) : c_Ch G := by
  have nt : ∀ a, 44 ≤ a → a ≤ 84 → sw_ty G a = sw_ty H a ∧ sw_ln G a = sw_ln H a := fun a h1 h2 => c_fx_ty fl c (q := a) (by unfold c_fix; omega)
  have v44 := (c_fx_iv fl ad c (q := 44) (by unfold c_fix; omega) h44).2
  have v51 := (c_fx_iv fl ad c (q := 51) (by unfold c_fix; omega) h51).2
  obtain ⟨c0, c3, c4, c5, c6, c7, c8, c9, c12, ct, c47, c51, c52, clf⟩ := h
  exact ⟨by rw [v44]; exact c0, by rw [v44]; exact c3, by rw [v44]; exact c4, by rw [v44]; exact c5, by rw [v44]; exact c6, by rw [v44]; exact c7, by rw [v44]; exact c8, by rw [v44]; exact c9, by rw [v44]; exact c12, fun a ha => by rw [(nt a (by omega) (by omega)).1, (nt a (by omega) (by omega)).2]; exact ct a ha, by rw [(nt 47 (by omega) (by omega)).1, (nt 47 (by omega) (by omega)).2]; exact c47, by rw [(nt 51 (by omega) (by omega)).1, (nt 51 (by omega) (by omega)).2]; exact c51, by rw [(nt 52 (by omega) (by omega)).1, (nt 52 (by omega) (by omega)).2]; exact c52, fun k hk => by rw [v51, (nt (53 + k) (by omega) (by omega)).1]; exact clf k hk⟩
theorem c_hqN (h : c_hq H mk nn K tl cn cs tp rd ms K' L) (hW : c_W G mm nm K2 tl cn' cs') (c : c_ch A H G) (hl : w_le mk mm) (hA : ∀ a ∈ A, (3 < a ∧ a < 44) ∨ (84 < a ∧ a < 1416) ∨ (1420 ≤ a ∧ a ≤ 1491)) : c_hq G mm nm K2 tl cn' cs' tp rd ms K' L := by
  obtain ⟨h1, h2, h3, h4, h5, h6⟩ := h
  have fl := h1.1.2.2.2.1
  have ad := h1.1.2.2.2.2
  exact ⟨hW, c_X_ch h1.1 h2 c hW.1 hl (fun a ha => by have := hA a ha; omega), c_ci_ch h3 fl ad c (fun a ha => by have := hA a ha; omega) (fun cc => by have := hA _ cc; omega) hl, by rw [(c_fx_ty fl c (q := 44) (by unfold c_fix; omega)).1]; exact h4, by rw [(c_fx_ty fl c (q := 1421) (by unfold c_fix; omega)).2]; exact h5, by rw [(c_fx_ty fl c (q := 1420) (by unfold c_fix; omega)).1]; exact h6⟩
theorem c_cg_ch (hm : m < 24) (p1 : c_pl g1) (p2 : c_pl g2) (h : c_cg H m g1 g2) (fl : c_full H) (ad : c_ads H) (c : c_ch A H G) (hA : ∀ a ∈ A, a ≠ 120 + 54 * m ∧ (a ≠ g1 ∧ a ≠ g1 + 1 ∧ a ≠ g1 + 5) ∧ a ≠ g2 ∧ a ≠ g2 + 1 ∧ a ≠ g2 + 5) : c_cg G m g1 g2 := by
  obtain ⟨h1, h2, h3, h4, h5, h6, h7, h8, h9⟩ := h
  have im := (c_fx_iv fl ad c (q := 120 + 54 * m) (by unfold c_fix; omega) (fun cc => (hA _ cc).1 rfl)).2
  have t49 := c_fx_ty fl c (q := 120 + 54 * m + 49) (by unfold c_fix; omega)
  exact ⟨c_gs_ch h1 fl ad c (fun a ha _ => ⟨(hA a ha).2.1.2.1, (hA a ha).2.1.2.2⟩) (fun cc => absurd rfl (hA _ cc).2.1.1), c_gs_ch h2 fl ad c (fun a ha _ => ⟨(hA a ha).2.2.2.1, (hA a ha).2.2.2.2⟩) (fun cc => absurd rfl (hA _ cc).2.2.1), by rw [im]; exact h3, h4, by rw [im]; exact h5, by rw [t49.1]; exact h6, by rw [t49.2]; exact h7, h8, h9⟩
/-- what stands when the head of a commit is written -/
def c_d5 (H : sw_H) (mk : List Wt) (nn : Nat) (K : Wt → Prop) (tl : List Wt) (cn cs : Int) (tp : List Wt) (rd : Nat → Int) (ms : List (List Wt)) (La : Nat → List (Wt × Nat)) (m g1 g2 : Nat) (G' : w_G) (L : List w_Ch) (Ul : List (Wt × Wt)) : Prop := c_BS H mk nn K tl cn cs tp rd ms La ∧ c_hq H mk nn K tl cn cs tp rd ms K L ∧ c_adl H (h_0 (gg_T G') L) L L.length ∧ c_gp H mk g1 G' ∧ c_cg H m g1 g2 ∧ c_tr H mk (g2 + 1) (k_T1 G' L) ∧ (sw_iv H g2 2 = w_epn G' ∧ sw_iv H g2 3 = (gg_lf G' : Nat)) ∧ (c_Pa H ∧ sw_iv H 91 0 = 0 ∧ sw_ty H 1422 = 48) ∧ sw_iv H 44 2 = (h_nad L : Nat) ∧ c_up H mk m Ul
theorem c_cm_58 (hm : m < 24) (lm : c_lm (cn + 4) (cs + 2400) N U M) (p1 : c_pl g1) (p2 : c_pl g2) (hne : g1 ≠ g2) (hi : g_iv m G') (hdn : L = [] ∨ h_done (gg_T G') L (gg_lf G')) (hok : ∀ c ∈ L, p_cok c.1) (h5 : h_p5 L) (hwp : wp = 0 ∨ wp = 1) (h300 : ms.length < 300) (h299 : k_ad G' L ≠ [] → ms.length < 299) (hd5 : c_d5 H mk nn K tl cn cs tp rd ms La m g1 g2 G' L Ul) (hrr : c_rr H mk 1420 1421 (w_ch0 G' L)) (hz : w_at mk 1 w_z) (hUn : ∀ u ∈ Ul, u.2 ≠ w_nm nn) (hb : c_bS (k_S G' m nn wp L) mk tl N U M)
    (q : ∀ J mm cn' cs', w_mo (k_S G' m nn wp L) mk mm → c_BS J mm (k_nn G' nn wp L) (k_K K G' m nn wp L) tl cn' cs' tp rd (ms ++ k_ms2 G' m nn wp L) La → c_gp J mm g2 (k_G G' m nn wp L) → (∀ f, sw_iv J (120 + 54 * m) f = if f = 6 then (ms.length : Int) else sw_iv H (120 + 54 * m) f) → (∀ f, sw_rv J (120 + 54 * m) f = sw_rv H (120 + 54 * m) f) → (cn' = cn + 2 * (k_ms2 G' m nn wp L).length ∧ cs' = cs + (((k_ms2 G' m nn wp L).map (fun l => 2 + l.length)).sum : Nat)) → c_Out J → c_Pa J → sw_iv J 91 0 = 0 → c_Ch J → c_ch (c_Acm m g2) H J → P ms.length J) : ∀ E : Nat → sw_H → Prop, wb_93_58 P E 2 (120 + 54 * m) g1 g2 wp H := by
  intro E
  obtain ⟨B, hq, adl, gp1, cg, tr, ⟨e2, e3⟩, ⟨Pa, h91, t48⟩, hadds, up⟩ := id hd5
  obtain ⟨a1, a2, a3, a4, a5⟩ := k_T1_ok gp1.2.1 hi hok h5 hdn
  obtain ⟨b1, b2⟩ := c_pl_b p1
  obtain ⟨b3, b4⟩ := c_pl_b p2
  have b5 := c_pl_m p2 hm
  have b6 := c_pl_d p1 p2 hne
  have b7 := c_pl_m p1 hm
  have b8 := c_pl_a p2 hm (k := 49) (by decide) (by decide)
  have lm0 : c_lm cn cs N U M := c_lm_le lm (by omega) (by omega)
  have W := B.1
  have fl := W.1.2.2.2.1
  have ad := W.1.2.2.2.2
  have d4 := a1.1
  have d16 := t_d_16 d4
  have l16 : gg_lf G' < 16 := by have := a5.1; omega
  have w31 := t_w_4 d4
  have l32 := k_len hi hok hdn
  have chl := w_ch0_len (G := G') hok l32
  have O := hq.2.1.1
  have t20 : sw_ty H 1420 = 80 := hq.2.2.2.2.2
  have ln : sw_ln H 1421 = 1400 := hq.2.2.2.2.1
  have fxo : ∀ a ∈ [1420, 1421], c_fix a := fun a ha => by simp at ha; unfold c_fix; omega
  have fxo2 : ∀ a ∈ [1420, 1421], c_fix a ∧ (15 < a ∨ a = 2) := fun a ha => by simp at ha; unfold c_fix; omega
  have fx22 : ∀ a ∈ [g2 + 22], c_fix a := fun a ha => by simp at ha; unfold c_fix; omega
  have fx222 : ∀ a ∈ [g2 + 22], c_fix a ∧ (15 < a ∨ a = 2) := fun a ha => ⟨fx22 a ha, by simp at ha; omega⟩
  -- the end, from a heap D behind the secrets
  have fin : ∀ {D : sw_H} {md : List Wt} {x7 : Int}, w_mo (k_S G' m nn wp L) mk md → c_bS (k_S G' m nn wp L) md tl N U M → c_e7 D md (k_nn G' nn wp L) K tl cn cs tp rd ms La g1 g2 G' (k_T2 G' m nn wp L) (k_hd G' nn wp L) → c_wq D md (k_nn G' nn wp L) K tl cn cs tp rd ms K L (h_0 (gg_T G') L) (k_T1 G' L) (k_ms G' L) (gg_lf G') (w_nm (nn + 1)) wp → c_rr D md 1420 1421 (k_lt G' m nn wp L) → (k_lt G' m nn wp L).length ≤ 1100 → w_at md x7 (k_cs G' nn wp L) → c_Pa D → sw_iv D 91 0 = 0 → c_ch (c_Acm m g2) H D → (∀ f, sw_iv D (120 + 54 * m) f = sw_iv H (120 + 54 * m) f) → (∀ f, sw_rv D (120 + 54 * m) f = sw_rv H (120 + 54 * m) f) → sw_iv D 44 2 = sw_iv H 44 2 → wb_93_87 P E 2 (120 + 54 * m) g1 g2 wp x7 D := fun {D md x7} m1 m2 h7 wq rD lD xD PaD n91 cD iD rD' i44 => by
    have flD := h7.1.1.1.2.2.2.1
    have adD := h7.1.1.1.2.2.2.2
    have nA : ∀ a ∈ c_A87 m g2, a = 2 ∨ a = 1416 ∨ a = 14 ∨ a = 15 ∨ a = 16 ∨ a = 1420 ∨ a = 1421 ∨ a = 120 + 54 * m ∨ a = g2 := fun a ha => by unfold c_A87 at ha; simp at ha; exact ha
    refine c_cm_fin hm lm p1 p2 hne gp1.2.1 hi hdn hok h5 hwp h300 h299 h7 wq rD lD xD (by rw [i44]; exact hadds) m2 (fun J mm cn' cs' j1 BJ gJ iJ rJ ccs oJ cJ => ?_) E
    refine q J mm cn' cs' (w_mo_trans m1 j1) BJ gJ (fun f => by rw [iJ f, iD]) (fun f => by rw [rJ, rD']) ccs oJ (c_Pa_ch PaD flD adD cJ (fun cc => by have := nA _ cc; omega)) ?_ (c_Ch_ch wq.1.2.2.1.1 flD adD cJ (fun cc => by have := nA _ cc; omega) (fun cc => by have := nA _ cc; omega)) (c_ch_t cD (c_ch_sub cJ (fun a ha => by have := nA a ha; rw [c_Acm_m]; omega)))
    rw [(c_fx_iv flD adD cJ (q := 91) (by unfold c_fix; omega) (fun cc => by have := nA _ cc; omega)).1 0]
    exact n91
  -- a byte is put
  have put : ∀ (zz : Int), 0 ≤ zz → zz < 256 → (∀ D1, c_d5 D1 mk nn K tl cn cs tp rd ms La m g1 g2 G' L Ul → c_rr D1 mk 1420 1421 (w_ch0 G' L ++ [w_by zz]) → c_fr [1420, 1421] H D1 → (wp = 0 → wb_93_75 P E 2 (120 + 54 * m) g1 g2 wp 1 D1) ∧ (wp ≠ 0 → wm_183 2 (120 + 54 * m) g2 D1 (fun z156 H153 => sw_c z156 → sw_ext D1 H153 → wb_93_75 P E 2 (120 + 54 * m) g1 g2 wp z156 H153))) → wb_93_66 P E 2 (120 + 54 * m) g1 g2 wp zz 1420 H := fun zz z0 z1 kk => by
    unfold wb_93_66
    refine c_s_byte hrr (by rw [ln]; omega) z0 z1 (fun D1 rD fD => ?_)
    intro _
    have WD := c_W_fr W fD fxo2
    have cD := c_V_ch W.1 fD fxo
    have nD : ∀ a, a ≠ 1420 → a ≠ 1421 → sw_iv D1 a = sw_iv H a := fun a h1 h2 => fD.2.2.2.2.2 a (by simp; exact ⟨h1, h2⟩)
    refine kk D1 ⟨c_BS_ch B WD cD (w_le_refl _) (fun a ha => by simp at ha; unfold c_hl; omega), c_hq_ch hq WD cD (w_le_refl _) (fun a ha => by simp at ha; omega), ⟨by rw [nD 44 (by decide) (by decide)]; exact adl.1, fun j c hj hc h1 => by rw [nD 50 (by decide) (by decide)]; exact adl.2 j c hj hc h1⟩, c_gp_fr W.1 gp1 fD (fun a ha => ⟨fxo a ha, by simp at ha; omega⟩), c_cg_fr cg fD, c_tr_fr W.1 tr fD (fun a ha => ⟨fxo a ha, by simp at ha; omega⟩), ⟨by rw [nD g2 (by omega) (by omega)]; exact e2, by rw [nD g2 (by omega) (by omega)]; exact e3⟩, ⟨c_Pa_fr Pa fD, by rw [nD 91 (by decide) (by decide)]; exact h91, by rw [fD.2.2.1]; exact t48⟩, by rw [nD 44 (by decide) (by decide)]; exact hadds, ⟨by rw [nD (120 + 54 * m) (by omega) (by omega)]; exact up.1, up.2.1, fun i hh v hv => by rw [nD (120 + 54 * m + 49) (by omega) (by omega)]; exact up.2.2 i hh v hv⟩⟩ rD fD
  unfold wb_93_58
  rw [O.2.2.2.2.2.2.2.2.2.2.2.1]
  refine ⟨t20, ?_⟩
  intro q162 e162
  rw [e162]
  rcases hwp with e0 | e0
  · subst e0
    refine ⟨fun _ => put 0 (by decide) (by decide) (fun D1 hD rD fD => ⟨fun _ => ?_, fun cc => absurd rfl cc⟩), fun cc => absurd rfl cc⟩
    have ecs : k_cs G' nn 0 L = w_z := if_pos rfl
    have enn : k_nn G' nn 0 L = nn := if_pos rfl
    have eT2 : k_T2 G' m nn 0 L = k_T1 G' L := if_pos rfl
    have elt : k_lt G' m nn 0 L = w_ch0 G' L ++ [w_by 0] := if_pos rfl
    have ehd : k_hd G' nn 0 L = w_hcy G' (k_T1 G' L) := if_pos rfl
    obtain ⟨BD, hqD, adlD, gpD, cgD, trD, ⟨e2D, e3D⟩, ⟨PaD, n91D, t48D⟩, haD, upD⟩ := id hD
    have WD := BD.1
    have flD := WD.1.2.2.2.1
    have OD := hqD.2.1.1
    have key : t_ky (k_T1 G' L) (2 * gg_lf G') = w_p5 (gg_hd G' (2 * gg_lf G')) := a4.1.trans hi.2.2.2.2.1
    have w2 : 2 * gg_lf G' < t_w (k_T1 G' L) := by have := a5.1; rw [t_w_e]; omega
    have sne : gg_hd G' (2 * gg_lf G') ≠ [] := c_p5_ne WD.1.1 (by rw [← key]; exact w_az_ne (trD.2.2.2.1 _ w2).1 a5.2)
    have ehc : w_hcy G' (k_T1 G' L) (2 * gg_lf G') = gg_hd G' (2 * gg_lf G') := by unfold w_hcy; rw [if_pos ⟨gp1.2.1.2.1, a5.2, a4.1⟩]
    unfold wb_93_75
    rw [OD.2.1]
    refine ⟨(c_nothing WD).1, ?_⟩
    intro q131 e131
    rw [e131]
    refine c_carry cgD WD.1 gpD trD e3D a5.1 key sne upD (fun Z fZ h1 h2 h3 => ?_)
    intro _
    refine ⟨fun _ => ?_, fun cc => absurd rfl cc⟩
    have WZ := c_W_fr WD fZ fx222
    have cZ := c_V_ch WD.1 fZ fx22
    have nZ : ∀ a, a ≠ g2 + 22 → sw_iv Z a = sw_iv D1 a := fun a ha => fZ.2.2.2.2.2 a (by simp; exact ha)
    have nD : ∀ a, a ≠ 1420 → a ≠ 1421 → sw_iv D1 a = sw_iv H a := fun a h1 h2 => fD.2.2.2.2.2 a (by simp; exact ⟨h1, h2⟩)
    have hqZ := c_hq_ch hqD WZ cZ (w_le_refl _) (fun a ha => by simp at ha; omega)
    refine fin w_mo_refl hb ?_ ?_ (by rw [elt]; exact c_rr_ch WD.1 rD cZ WZ.1 (w_le_refl _) (by simp; omega) (by simp; omega)) (by rw [elt, List.length_append, List.length_singleton]; omega) (by rw [ecs]; exact hz) (c_Pa_fr PaD fZ) (by rw [nZ 91 (by omega)]; exact n91D) (c_ch_sub (c_ch_trans (c_V_ch W.1 fD fxo) cZ) (fun a ha => by simp at ha; rw [c_Acm_m]; omega)) (fun f => by rw [nZ _ (by omega), nD _ (by omega) (by omega)]) (fun f => by rw [fZ.2.2.2.2.1, fD.2.2.2.2.1]) (by rw [nZ _ (by omega), nD _ (by omega) (by omega)])
    · rw [enn, eT2, ehd]
      refine ⟨c_BS_cg p2 BD WZ cZ (w_le_refl _) (fun a ha => by simp at ha; right; omega), c_gp_fr WD.1 gpD fZ (fun a ha => ⟨fx22 a ha, by simp at ha; omega⟩), (c_cg_fr cgD fZ).2.1, c_tr_fr WD.1 trD fZ (fun a ha => ⟨fx22 a ha, by simp at ha; omega⟩), fun x hx => ?_, h2, by rw [nZ g2 (by omega)]; exact e2D, by rw [nZ g2 (by omega)]; exact e3D⟩
      by_cases cx : x = 2 * gg_lf G'
      · rw [cx]
        rcases h3 with ⟨h3, _⟩ | ⟨h3, _⟩
        · exact h3
        · rw [ehc]; exact Or.inr h3
      · exact h1 x hx cx
    · rw [enn]
      exact ⟨hqZ, fun j c hj h1' => by rw [nZ 50 (by omega)]; exact adlD.2 j c (h_lt hj) hj h1', by rw [fZ.2.2.1]; exact PaD.1, fun cc => absurd rfl cc⟩
  · subst e0
    refine ⟨fun cc => absurd cc (by decide), fun _ => put 1 (by decide) (by decide) (fun D1 hD rD fD => ⟨fun cc => absurd cc (by decide), fun _ => ?_⟩)⟩
    have ecs : k_cs G' nn 1 L = w_pcs (k_T1 G' L) (gg_lf G') nn := if_neg (by decide)
    have enn : k_nn G' nn 1 L = w_pnn (k_T1 G' L) (gg_lf G') nn := if_neg (by decide)
    have eT2 : k_T2 G' m nn 1 L = w_pT2 (k_T1 G' L) (gg_lf G') m nn := if_neg (by decide)
    have elt : k_lt G' m nn 1 L = w_ch0 G' L ++ [w_by 1] ++ w_ptx (k_T1 G' L) (gg_lf G') m nn (k_ms G' L) := if_neg (by decide)
    have ehd : k_hd G' nn 1 L = w_hp G' (k_T1 G' L) (gg_lf G') nn := if_neg (by decide)
    obtain ⟨c1, c2, c3⟩ := k_ad_ok gp1.2.1 hi hok h5 hdn
    obtain ⟨BD, hqD, adlD, gpD, cgD, trD, ⟨e2D, e3D⟩, ⟨PaD, n91D, t48D⟩, haD, upD⟩ := id hD
    have WD := BD.1
    have flD := WD.1.2.2.2.1
    have adD := WD.1.2.2.2.2
    have nD : ∀ a, a ≠ 1420 → a ≠ 1421 → sw_iv D1 a = sw_iv H a := fun a h1 h2 => fD.2.2.2.2.2 a (by simp; exact ⟨h1, h2⟩)
    have okT2 := t_ok_pT2 (nn := nn) l16 hm a1
    refine c_writePath (T := k_T1 G' L) (l := gg_lf G') (msk := k_ms G' L) hm lm0 p2 hb hqD.2.1.1 WD BD.2.2.1 t48D PaD n91D cgD.2.1 trD e3D a5.1 hqD.2.2.2.1 adlD.1 c2 rD hqD.2.2.2.2.1 (by rw [List.length_append, List.length_singleton]; omega) (fun k hk y hy => ?_) (fun v hv => Or.inl ⟨by decide, hv⟩) (fun zw J mj j1 j2 WJ trJ aJ rJ pkJ pwJ PaJ a85 cJ => ?_)
    · rw [← w_pT2_rq (m := m) (nn := nn) a5.1 d4 hk] at hy
      exact w_rs_in okT2 (t_inv_pT2 l16 d4 a2) (t_pk_pT2 a3) k _ (t_si_ok d4 a5.1 hk).1 (by rw [t_dp_w t_pT2_dp]; exact (t_si_ok d4 a5.1 hk).2.2.1) y (List.mem_filter.mp hy).1
    · intro _ _
      have flJ := WJ.1.2.2.2.1
      have adJ := WJ.1.2.2.2.2
      have nAw : ∀ a ∈ c_Aw g2, a = 14 ∨ a = 15 ∨ a = 16 ∨ (1420 ≤ a ∧ a ≤ 1422) ∨ (85 ≤ a ∧ a ≤ 93) ∨ (g2 + 1 ≤ a ∧ a ≤ g2 + 21) := fun a ha => c_Aw_m.mp ha
      have BJ := c_BS_cg p2 BD WJ cJ j1.1 (fun a ha => by have := nAw a ha; unfold c_hl; omega)
      have hqJ := c_hqN hqD WJ cJ j1.1 (fun a ha => by have := nAw a ha; omega)
      have gpJ := c_gp_ch gpD flD adD cJ (fun a ha => by have := nAw a ha; omega) j1.1
      have ivJ : ∀ a, c_fix a → a ∉ c_Aw g2 → ∀ f, sw_iv J a f = sw_iv D1 a f := fun a hf hn => (c_fx_iv flD adD cJ (q := a) hf hn).1
      have rvJ : ∀ f, sw_rv J (120 + 54 * m) f = sw_rv D1 (120 + 54 * m) f := (c_fx_iv flD adD cJ (q := 120 + 54 * m) (by unfold c_fix; omega) (fun cc => by have := nAw _ cc; omega)).2
      have g2J := ivJ g2 (by unfold c_fix; omega) (fun cc => by have := nAw _ cc; omega)
      have rvg2 : ∀ f, sw_rv J g2 f = sw_rv D1 g2 f := (c_fx_iv flD adD cJ (q := g2) (by unfold c_fix; omega) (fun cc => by have := nAw _ cc; omega)).2
      have tyJ : ∀ a, c_fix a → sw_ty J a = sw_ty D1 a ∧ sw_ln J a = sw_ln D1 a := fun a hf => c_fx_ty flD cJ hf
      obtain ⟨s1, s2, s3, s4, s5, s6, s7, s8, s9⟩ := id cgD
      have gs2J : c_gs J g2 := ⟨s2.1, s2.2.1, by rw [(tyJ g2 (by unfold c_fix; omega)).1]; exact s2.2.2.1, by rw [rvg2]; exact s2.2.2.2.1, by rw [rvg2]; exact s2.2.2.2.2.1, by rw [(tyJ (g2 + 22) (by unfold c_fix; omega)).1]; exact s2.2.2.2.2.2.1, by rw [(tyJ (g2 + 22) (by unfold c_fix; omega)).2]; exact s2.2.2.2.2.2.2.1, trJ.1⟩
      have cgJ : c_cg J m g1 g2 := ⟨gpJ.1, gs2J, by rw [rvJ]; exact s3, s4, by rw [rvJ]; exact s5, by rw [(tyJ _ (by unfold c_fix; omega)).1]; exact s6, by rw [(tyJ _ (by unfold c_fix; omega)).2]; exact s7, s8, s9⟩
      have upJ : c_up J mj m Ul := ⟨by rw [ivJ _ (by unfold c_fix; omega) (fun cc => by have := nAw _ cc; omega)]; exact upD.1, upD.2.1, fun i hh v hv => by rw [ivJ _ (by unfold c_fix; omega) (fun cc => by have := nAw _ cc; omega)]; exact w_le_at j1.1 (upD.2.2 i hh v hv)⟩
      have key : t_ky (w_pT2 (k_T1 G' L) (gg_lf G') m nn) (2 * gg_lf G') = w_p5 (w_nm nn) := fu_eq
      have e3J : sw_iv J g2 3 = (gg_lf G' : Nat) := by rw [g2J]; exact e3D
      have e2J : sw_iv J g2 2 = w_epn G' := by rw [g2J]; exact e2D
      have l2 : gg_lf G' < 2 ^ t_dp (w_pT2 (k_T1 G' L) (gg_lf G') m nn) := by rw [t_pT2_dp]; exact a5.1
      have OJ := hqJ.2.1.1
      unfold wb_93_75
      rw [OJ.2.1]
      refine ⟨(c_nothing WJ).1, ?_⟩
      intro q131 e131
      rw [e131]
      refine c_carry cgJ WJ.1 gpJ trJ e3J l2 key (List.cons_ne_nil _ _) upJ (fun Z fZ h1 h2 h3 => ?_)
      intro _
      refine ⟨fun cc => absurd cc (by decide), fun _ => ?_⟩
      have WZ := c_W_fr WJ fZ fx222
      have cZ := c_V_ch WJ.1 fZ fx22
      have nZ : ∀ a, a ≠ g2 + 22 → sw_iv Z a = sw_iv J a := fun a ha => fZ.2.2.2.2.2 a (by simp; exact ha)
      have PaZ := c_Pa_fr PaJ fZ
      have pkZ := c_pk2_fr pkJ fZ (fun a ha => by simp at ha; omega)
      rw [fZ.2.2.2.2.1 2 9, OJ.2.2.2.2.2.2.2.2.2.1]
      refine ⟨PaZ.1, ?_⟩
      intro q139 e139
      rw [e139]
      refine c_tellAll PaZ (c_gs_fr gs2J fZ) (by omega) pkZ d4 a5.1 (by rw [nZ g2 (by omega)]; exact e3J) (fun Y fY t1 t2 t3 => ?_)
      intro _
      have fY2 := c_fr_t fZ fY
      have WY := c_W_fr WJ fY2 fx222
      have cY := c_V_ch WJ.1 fY2 fx22
      have nY : ∀ a, a ≠ g2 + 22 → sw_iv Y a = sw_iv J a := fun a ha => fY2.2.2.2.2.2 a (by simp; exact ha)
      have hqY := c_hq_ch hqJ WY cY (w_le_refl _) (fun a ha => by simp at ha; omega)
      have nkl := w_nk_len (T0 := k_T1 G' L) (msk := k_ms G' L) (n0 := w_nm (nn + 1)) (l := gg_lf G') okT2 l2 (t_dp (k_T1 G' L)) (by rw [t_pT2_dp]; exact Nat.le_refl _)
      have ltl : (k_lt G' m nn 1 L).length ≤ 1100 := by
        have e7 := w_lh_len (w_plf (k_T1 G' L) (gg_lf G') m nn).1 (w_plf (k_T1 G' L) (gg_lf G') m nn).2.1 (w_plf (k_T1 G' L) (gg_lf G') m nn).2.2.1 (w_plf (k_T1 G' L) (gg_lf G') m nn).2.2.2.1 (w_plf (k_T1 G' L) (gg_lf G') m nn).2.2.2.2.1
        have e2 : ∀ z : Int, (w_b16 z).length = 2 := fun _ => rfl
        rw [elt]
        unfold w_ptx w_lfw
        rw [List.length_append, List.length_append, List.length_append, List.length_append, List.length_append, List.length_singleton, List.length_singleton, e2]
        omega
      refine fin j1 j2 ?_ ?_ (by rw [elt]; exact c_rr_ch WJ.1 rJ cY WY.1 (w_le_refl _) (by simp; omega) (by simp; omega)) ltl (by rw [ecs]; exact aJ) (c_Pa_fr PaJ fY2) ?_ (c_ch_sub (c_ch_trans (c_V_ch W.1 fD fxo) (c_ch_trans cJ cY)) (fun a ha => ?_)) (fun f => by rw [nY _ (by omega), ivJ _ (by unfold c_fix; omega) (fun cc => by have := nAw _ cc; omega), nD _ (by omega) (by omega)]) (fun f => by rw [fY2.2.2.2.2.1, rvJ, fD.2.2.2.2.1]) (by rw [nY _ (by omega), ivJ 44 (by unfold c_fix; omega) (fun cc => by have := nAw _ cc; omega), nD _ (by omega) (by omega)])
      · rw [enn, eT2, ehd]
        refine ⟨c_BS_cg p2 BJ WY cY (w_le_refl _) (fun a ha => by simp at ha; right; omega), c_gp_fr WJ.1 gpJ fY2 (fun a ha => ⟨fx22 a ha, by simp at ha; omega⟩), c_gs_fr gs2J fY2, c_tr_fr WJ.1 trJ fY2 (fun a ha => ⟨fx22 a ha, by simp at ha; omega⟩), fun x hx => ?_, fun x hx hx2 => ?_, by rw [nY g2 (by omega)]; exact e2J, by rw [nY g2 (by omega)]; exact e3J⟩
        · rw [t_dp_w t_pT2_dp] at hx
          have wc : ∀ y, y < t_w (k_T1 G' L) → y ≠ 2 * gg_lf G' → (∀ i k : Nat, (t_wl (k_T1 G' L) (gg_lf G') (t_dp (k_T1 G' L)))[i]? = some k → y ≠ t_ab (gg_lf G') (k + 1)) → w_az mj (sw_iv Y (g2 + 22) y) (w_hcy G' (w_pT2 (k_T1 G' L) (gg_lf G') m nn) y) := fun y hy hy2 hy3 => by
            rw [t3 y hy2 hy3]
            exact h1 y (by rw [t_dp_w t_pT2_dp]; exact hy) hy2
          unfold w_hp
          by_cases x1 : x = 2 * gg_lf G'
          · rw [if_pos x1, x1, t1, nZ 85 (by omega)]
            exact Or.inr a85
          · rw [if_neg x1]
            by_cases x2 : x % 2 = 1 ∧ x = t_ab (gg_lf G') (w_h x) ∧ w_h x ≤ t_dp (k_T1 G' L)
            · rw [if_pos x2]
              obtain ⟨xa, xb, xc⟩ := x2
              have h0 : w_h x ≠ 0 := fun e => by
                have := (w_h_0 ⟨x, by omega⟩).mp e
                have : x % 2 = 0 := this
                omega
              obtain ⟨j, ej⟩ : ∃ j, w_h x = j + 1 := ⟨w_h x - 1, by omega⟩
              rw [ej, Nat.add_sub_cancel]
              rw [ej] at xb xc
              by_cases x3 : t_cb (k_T1 G' L) (gg_lf G') j = 0
              · rw [if_pos x3]
                have bl : t_ky (w_pT2 (k_T1 G' L) (gg_lf G') m nn) x = [] := by rw [xb, w_pT2_on a5.1 d4 (by omega), if_pos x3]
                have := wc x hx x1 (fun i k hk cc => ?_)
                · rw [w_hcy_bl bl] at this; exact this
                · obtain ⟨k1, k2, _⟩ := t_wl_at hk
                  have := t_ab_inj l16 (by omega) (by omega) (xb.symm.trans cc)
                  have : j = k := by omega
                  rw [this] at x3
                  exact k2 x3
              · rw [if_neg x3]
                obtain ⟨i, hi'⟩ := List.getElem?_of_mem ((t_wl_m (T := k_T1 G' L) (l := gg_lf G') (t_dp (k_T1 G' L))).mpr ⟨by omega, x3⟩)
                have := t2 i j hi'
                rw [← xb] at this
                rw [this, nZ 90 (by omega)]
                exact Or.inr (pwJ i j hi').2.1
            · rw [if_neg x2]
              have off : ∀ j, j < t_dp (k_T1 G' L) → x ≠ t_ab (gg_lf G') (j + 1) := fun j hj e => x2 (by
                have e1 : w_h (t_ab (gg_lf G') (j + 1)) = j + 1 := (w_h_ab ⟨gg_lf G', l16⟩ ⟨j + 1, by omega⟩).1
                rw [e, e1]
                exact ⟨t_ab_o l16 (by omega) (by omega), rfl, hj⟩)
              have := wc x hx x1 (fun i k hk cc => off k (t_wl_at hk).1 cc)
              rw [w_hcy_eq (w_pT2_of2 d4 x1 off)] at this
              exact this
        · have hx' := hx
          rw [t_dp_w t_pT2_dp] at hx'
          rw [t3 x (by have := a5.1; rw [t_w_e] at hx'; omega) (fun i k hk cc => ?_)]
          · exact h2 x hx hx2
          · have := t_ab_w d4 a5.1 (h := k + 1) (by have := (t_wl_at hk).1; omega)
            omega
      · rw [enn]
        refine ⟨hqY, fun j c hj h1' => by rw [nY 50 (by omega), ivJ 50 (by unfold c_fix; omega) (fun cc => by have := nAw _ cc; omega)]; exact adlD.2 j c (h_lt hj) hj h1', by rw [fY2.2.2.1]; exact PaJ.1, fun _ => ⟨c_Pa_fr PaJ fY2, c_pk2_fr pkJ fY2 (fun a ha => by simp at ha; omega), c_pw_ch pwJ flJ adJ cY (fun a ha => by simp at ha; omega) (w_le_refl _)⟩⟩
      · rw [nY 91 (by omega)]
        exact pkJ.2.2.1 0 (Nat.zero_le _)
      · rw [List.mem_append, List.mem_append] at ha
        rw [c_Acm_m]
        rcases ha with ha | ha | ha
        · simp at ha; omega
        · have := nAw a ha; omega
        · simp at ha; omega
end
