/-! ===== the class: a COMMIT whose changes are right ===== -/
noncomputable section
/-- all that taking a COMMIT may touch, but the member -/
def c_Atc (g : Nat) : List Nat := 14 :: 15 :: 16 :: ((List.range 51).map (fun i => 44 + i) ++ (List.range 23).map (fun i => g + i))
theorem c_Atc_m {g a : Nat} : a ∈ c_Atc g ↔ (14 ≤ a ∧ a ≤ 16) ∨ (44 ≤ a ∧ a ≤ 94) ∨ (g ≤ a ∧ a ≤ g + 22) := by
  unfold c_Atc
  simp only [List.mem_cons, List.mem_append, List.mem_map, List.mem_range]
  constructor
  · rintro (h | h | h | ⟨i, h1, h2⟩ | ⟨i, h1, h2⟩) <;> omega
  · rintro (h | h | h)
    · omega
    · exact Or.inr (Or.inr (Or.inr (Or.inl ⟨a - 44, by omega, by omega⟩)))
    · exact Or.inr (Or.inr (Or.inr (Or.inr ⟨a - g, by omega, by omega⟩)))
/-- the class's tools -/
def c_tol (X : sw_H) : Prop := c_Ch X ∧ c_Pa X ∧ sw_iv X 91 0 = 0 ∧ c_Ta X ∧ c_Re X
/-- what becomes of the class -/
def c_daft (H : sw_H) (m g gm : Nat) (X : sw_H) (mm : List Wt) : Option (Option w_G) → Prop
  | none => c_gs X g ∧ (∀ f, sw_rv X 94 f = sw_rv H 94 f) ∧ c_ch (c_Atc g) H X
  | some none => c_gs X g ∧ (∀ f, sw_iv X (120 + 54 * m) f = if f = 3 then 0 else if f = 6 then -1 else if f = 9 then 0 else if f = 11 then 0 else sw_iv H (120 + 54 * m) f) ∧ (∀ f, sw_rv X (120 + 54 * m) f = sw_rv H (120 + 54 * m) f) ∧ (∀ f, sw_rv X 94 f = sw_rv H 94 f) ∧ c_ch ((120 + 54 * m) :: c_Atc g) H X
  | some (some G2) => c_tkn H m g gm X mm G2 (c_Atc g)
variable {H Z X : sw_H} {nn g gm r ra m l : Nat} {K S : Wt → Prop} {tl mk mm lm : List Wt} {cn cs N U M ep : Int} {P : Int → sw_H → Prop} {T : w_T} {G : w_G} {s cf sg tg : Wt} {A : List Nat} {Ul : List (Wt × Wt)} {b e1 : Nat} {es : List p_E} {pt : Option p_P} {L : List w_Ch} {ms : List (List Wt)} {o : Option (Option w_G)}
theorem c_daft_tr (hm : m < 24) (hpl : c_pl g) (fl : c_full H) (ad : c_ads H) (c : c_ch A H Z) (hA : ∀ a ∈ A, (13 < a ∧ a < 17) ∨ (43 < a ∧ a < 94) ∨ (g ≤ a ∧ a ≤ g + 22)) (h : c_daft Z m g gm X mm o) : c_daft H m g gm X mm o := by
  have pm := c_pl_m hpl hm
  obtain ⟨p1, p2⟩ := c_pl_b hpl
  have vm := c_fx_iv fl ad c (q := 120 + 54 * m) (by unfold c_fix; omega) (fun cc => by have := hA _ cc; omega)
  have v94 := c_fx_iv fl ad c (q := 94) (by unfold c_fix; omega) (fun cc => by have := hA _ cc; omega)
  have up : c_ch (c_Atc g) H Z := c_ch_sub c (fun a ha => by rw [c_Atc_m]; have := hA a ha; omega)
  cases o with
  | none => exact ⟨h.1, fun f => by rw [h.2.1 f, v94.2], c_ch_t up h.2.2⟩
  | some o =>
    cases o with
    | none => exact ⟨h.1, fun f => by rw [h.2.1 f, vm.1], fun f => by rw [h.2.2.1 f, vm.2], fun f => by rw [h.2.2.2.1 f, v94.2], c_ch_t (c_ch_sub up (fun a ha => List.mem_cons_of_mem _ ha)) h.2.2.2.2⟩
    | some G2 => exact ⟨h.1, fun f => by rw [h.2.1 f, vm.1], fun f => by rw [h.2.2.1 f, vm.2], fun f => by rw [h.2.2.2.1 f, v94.2], c_ch_t (c_ch_sub up (fun a ha => List.mem_cons_of_mem _ (List.mem_cons_of_mem _ ha))) h.2.2.2.2⟩
theorem c_tkn_up {G2 : w_G} (h : c_tkn H m g gm X mm G2 A) (hA : ∀ a ∈ A, a ∈ c_Atc g) : c_daft H m g gm X mm (some (some G2)) := ⟨h.1, h.2.1, h.2.2.1, h.2.2.2.1, c_ch_sub h.2.2.2.2 (fun a ha => by
  rw [List.mem_cons, List.mem_cons] at ha ⊢
  rcases ha with h | h | h
  · exact Or.inl h
  · exact Or.inr (Or.inl h)
  · exact Or.inr (Or.inr (hA a h)))⟩
theorem c_pv_at {f : p_L} {ns : List p_N} (h : c_pv H mk (f, ns)) : c_Lf H mk 22 f ∧ c_pn H mk ns := by
  obtain ⟨m, k, p, so, ph, g⟩ := f
  exact h
/-- before the spare group follows -/
def c_tca (H : sw_H) (mk : List Wt) (nn : Nat) (K : Wt → Prop) (tl : List Wt) (cn cs : Int) (m g gm r ra : Nat) (lm : List Wt) (G : w_G) (Ul : List (Wt × Wt)) : Prop := c_W H mk nn K tl cn cs ∧ c_Ta H ∧ sw_rv H 94 6 = g ∧ c_gs H g ∧ sw_rv H (120 + 54 * m) 4 = gm ∧ c_gp H mk gm G ∧ c_ma H m ∧ c_up H mk m Ul ∧ c_sg H (w_d mk) r ra lm ∧ (¬ c_ow H r ∧ ¬ c_ow H ra) ∧ sw_ty H 18 = 72
theorem c_tcb_of (h : c_tca H mk nn K tl cn cs m g gm r ra lm G Ul) (i2 : sw_iv H g 2 = w_epn G) (i3 : sw_iv H g 3 = gg_lf G) : c_tcb H mk nn K tl cn cs m g gm r ra lm G Ul := ⟨h.1, h.2.1, h.2.2.1, h.2.2.2.1, i2, i3, h.2.2.2.2⟩
theorem c_tca_ch (hm : m < 24) (hpl : c_pl g) (hplm : c_pl gm) (hne : g ≠ gm) (hr : 1491 < r ∧ 1491 < ra) (h : c_tca H mk nn K tl cn cs m g gm r ra lm G Ul) (hW : c_W Z mm nn K tl cn cs) (c : c_ch A H Z) (hl : w_le mk mm) (hg : c_gs Z g) (hA : ∀ a ∈ A, (13 < a ∧ a < 94 ∧ a ≠ 18) ∨ (g ≤ a ∧ a ≤ g + 22)) : c_tca Z mm nn K tl cn cs m g gm r ra lm G Ul := by
  obtain ⟨h1, h2, h3, h4, h7, h8, h9, h10, h11, h12, h13⟩ := h
  obtain ⟨p1, p2⟩ := c_pl_b hpl
  obtain ⟨p3, p4⟩ := c_pl_b hplm
  have pd := c_pl_d hpl hplm hne
  have pm := c_pl_m hpl hm
  have pa := c_pl_a hpl hm (k := 49) (by decide) (by decide)
  have fl := h1.1.2.2.2.1
  have ad := h1.1.2.2.2.2
  have v94 := c_fx_iv fl ad c (q := 94) (by unfold c_fix; omega) (fun cc => by have := hA _ cc; omega)
  have nm : 120 + 54 * m ∉ A := fun cc => by have := hA _ cc; omega
  have vm := c_fx_iv fl ad c (q := 120 + 54 * m) (by unfold c_fix; omega) nm
  obtain ⟨s1, s2⟩ := c_sg_far h1 hW h11 c hl h12 ⟨fun cc => by have := hA _ cc; omega, fun cc => by have := hA _ cc; omega⟩
  exact ⟨hW, c_Ta_ch h2 fl ad c (fun cc => by have := hA _ cc; omega), by rw [v94.2]; exact h3, hg, by rw [vm.2]; exact h7, c_gp_ch h8 fl ad c (fun a ha => by have := hA _ ha; omega) hl, c_ma_ch h9 hm fl ad c (fun cc => absurd cc nm), c_up_ch h10 hm fl ad c (fun cc => absurd cc nm) (fun cc => by have := hA _ cc; omega) hl, s1, s2, by rw [(c_fx_ty fl c (q := 18) (by unfold c_fix; omega)).1]; exact h13⟩
theorem c_gs_tr (h : c_gs H g) (fl : c_full H) (ad : c_ads H) (c : c_ch A H Z) (hA : g ∉ A) (ht : c_ts Z (g + 1)) : c_gs Z g := by
  obtain ⟨a1, a2, a3, a4, a5, a6, a7, a8⟩ := h
  have v := c_fx_iv fl ad c (q := g) (by unfold c_fix; omega) hA
  have y1 := c_fx_ty fl c (q := g) (by unfold c_fix; omega)
  have y2 := c_fx_ty fl c (q := g + 22) (by unfold c_fix; omega)
  exact ⟨a1, a2, by rw [y1.1]; exact a3, by rw [v.2]; exact a4, by rw [v.2]; exact a5, by rw [y2.1]; exact a6, by rw [y2.2]; exact a7, ht⟩
/-- who is removed leaves; the others go on -/
theorem c_tc_62 (hm : m < 24) (hpl : c_pl g) (hplm : c_pl gm) (h : c_tca H mk nn K tl cn cs m g gm r ra lm G Ul) (t44 : sw_ty H 44 = 24) (hrm : b_is (sw_iv H 44 11) (fun j => h_rm L (j : Int))) (qn : ¬ h_rm L (gg_lf G) → wb_208_75 P 94 (120 + 54 * m) r 0 H) (qr : ∀ X, h_rm L (gg_lf G) → c_W X mk nn K tl cn cs → c_daft H m g gm X mk (some none) → c_fr [120 + 54 * m] H X → P 0 X) : wb_208_62 P 94 (120 + 54 * m) r 0 H := by
  obtain ⟨h1, h2, h3, h4, h7, h8, h9, h10, h11, h12, h13⟩ := id h
  obtain ⟨t94, r0, r1, r2, r3, r4, _⟩ := id h2
  obtain ⟨p1, p2⟩ := c_pl_b hpl
  have pm := c_pl_m hpl hm
  have lf16 : gg_lf G < 24 := by
    have := h8.2.1.2.1
    have := t_w_4 h8.2.2.2.2.1.2.1.1
    omega
  unfold wb_208_62
  refine ⟨fun c => absurd rfl c, fun _ => ?_⟩
  rw [r3]
  refine ⟨t44, ?_⟩
  intro q30 e30
  rw [h7]
  refine ⟨h8.1.2.2.1, ?_⟩
  intro q33 e33 v36 e36 _
  rw [e33, h8.2.2.2.1] at e36
  rw [e30, e36]
  refine c_isRem hrm lf16 (fun z hz => ?_)
  intro _ _
  rcases hz with ⟨ez, hrr⟩ | ⟨ez, hrr⟩
  · refine ⟨fun c => by omega, fun _ => ?_⟩
    refine c_leave (fun X fX iX => ?_)
    intro _
    have fx : ∀ a ∈ [120 + 54 * m], c_fix a ∧ (15 < a ∨ a = 2) := fun a ha => by simp at ha; unfold c_fix; omega
    have cX := c_V_ch h1.1 fX (fun a ha => (fx a ha).1)
    refine qr X hrr (c_W_fr h1 fX fx) ⟨c_gs_fr h4 fX, iX, fun f => fX.2.2.2.2.1 _ f, fun f => fX.2.2.2.2.1 _ f, c_ch_sub cX (fun a ha => ?_)⟩ fX
    rw [List.mem_singleton] at ha
    rw [ha]
    exact List.mem_cons_self ..
  · exact ⟨fun _ => qn hrr, fun c => absurd ez c⟩
theorem c_tc_no (z : Int) (hz : z ≠ 0) (h : P z X) : wb_208_62 P 94 (120 + 54 * m) r z X := by
  unfold wb_208_62 wb_208_75 wb_208_89
  exact ⟨fun _ => ⟨fun _ => ⟨fun _ => h, fun c => absurd c hz⟩, fun c => absurd c hz⟩, fun c => absurd c hz⟩
theorem c_tc_43 (hm : m < 24) (lmm : c_lm cn cs N U M) (hb : c_bS S mk tl N U M) (hpl : c_pl g) (hplm : c_pl gm) (hne : g ≠ gm) (hr : 1491 < r ∧ 1491 < ra) (h : c_tca H mk nn K tl cn cs m g gm r ra lm G Ul) (hci : c_ci H mk K ms L) (h2 : sw_iv H 44 2 = (h_nad L : Nat)) (hrm : b_is (sw_iv H 44 11) (fun j => h_rm L (j : Int))) (t44 : sw_ty H 44 = 24) (hPa : c_Pa H) (h91 : sw_iv H 91 0 = 0) (hRe : c_Re H) (hcv : c_cmv H mk ep (l : Int) b e1 pt) (hcm : p_cm K lm ep (l : Int) b e1 es pt sg cf tg) (hvl : w_vl lm) (hlm : lm.length ≤ 1200) (hi : g_iv m G) (hlv : gg_lv G) (hd : h_done (gg_T G) L (l : Int)) (hok : ∀ c ∈ L, p_cok c.1) (h5 : h_p5 L) (hx5 : ∀ w ∈ lm, w.head? = some 5 → w_i5 w) (hnl : gg_lf G ≠ l) (hsl : t_is (gg_T G) l) (hLU : ∀ c ∈ L, c.1.1 = 2 → h_go c = (gg_lf G : Int) → (∃ v, (c.2.2, v) ∈ Ul) ∧ ∀ v, (c.2.2, v) ∈ Ul → (h_lf c).2.1 = w_p5 v) (hz : w_at mk 1 w_z) (hS : ∀ v, d_mS G L l lm pt v → S v)
    (q : ∀ z o X mm, ((¬ d_shp (h_ap (gg_T G) L) (k_ms G L) l L pt ∧ z = 8 ∧ o = none) ∨ (d_shp (h_ap (gg_T G) L) (k_ms G L) l L pt ∧ d_fin G L l pt lm cf z o)) → w_mo S mk mm → c_bS S mm tl N U M → c_W X mm nn K tl cn cs → c_tol X → c_daft H m g gm X mm o → P z X) : wb_208_43 P 94 (120 + 54 * m) r 0 H := by
  obtain ⟨h1, h2a, h3, h4, h7, h8, h9, h10, h11, h12, h13⟩ := id h
  obtain ⟨t94, r0, r1, r2, r3, r4, _⟩ := id h2a
  obtain ⟨p1, p2⟩ := c_pl_b hpl
  obtain ⟨p3, p4⟩ := c_pl_b hplm
  have pd := c_pl_d hpl hplm hne
  have pm := c_pl_m hpl hm
  have gok := h8.2.1
  obtain ⟨a1, a2, a3, a4⟩ := d_T1_ok gok hi hlv hok h5 hd
  obtain ⟨ha, hroom, _⟩ := id hd
  obtain ⟨o1, o2, o3⟩ := h_ap_own hi.2.2.2.2.2.1 hok hsl ha hroom
  have d16 := t_d_16 a1.1
  have w31 := t_w_4 a1.1
  have l16 : l < 16 := by have := o2.1; omega
  have hl3 : 3 ≤ lm.length := hcm.1
  have own := fun hn : ¬ h_rm L (gg_lf G) => d_own_ok gok hi hok ha hroom hLU hn
  have fl := h1.1.2.2.2.1
  have ad := h1.1.2.2.2.2
  -- the confirmation that was read
  have ecf : lm[lm.length - 2]? = some cf := p_t_sl (Nat.le_refl _) hcm.2.2.2.2.2.2.2.1
  have hcf2 : cf.head? ≠ some 1000 := by rw [(p_t_in hcm.2.2.2.2.2.2.2.1).2.2.2.1]; decide
  -- the own secret
  have car : ¬ h_rm L (gg_lf G) → (∀ u ∈ Ul, u.2 ≠ d_own (h_ap (gg_T G) L) (2 * gg_lf G)) → w_hcy G (h_ap (gg_T G) L) (2 * gg_lf G) = d_own (h_ap (gg_T G) L) (2 * gg_lf G) := fun hn hu => by
    refine (own hn).2.2.2 (fun c hc hcc => ?_)
    obtain ⟨⟨v, hv⟩, hall⟩ := hLU c hc hcc.1 hcc.2
    have k1 := (h_ap_oth hi.2.2.2.2.2.1 hok (g_is gok) ha hn hroom).1
    have e : t_ky (h_ap (gg_T G) L) (2 * gg_lf G) = w_p5 v := by rw [k1, h_kb_c ha hc hcc.1 hcc.2]; exact hall v hv
    exact hu _ hv (d_own_eq e).symm
  unfold wb_208_43
  refine ⟨fun c => absurd rfl c, fun _ => ?_⟩
  rw [h3]
  refine ⟨h4.2.2.1, ?_⟩
  intro q51 e51
  rw [h7]
  refine ⟨h8.1.2.2.1, ?_⟩
  intro q54 e54
  rw [e51, e54]
  refine c_follow h4 h8 (by omega) (fun A1 trA e2A e3A fA => ?_)
  intro _
  have fxA : ∀ a ∈ c_rgg g, c_fix a := fun a ha => by rw [c_rgg_m] at ha; unfold c_fix; omega
  have WA := c_W_fr h1 fA (fun a ha => ⟨fxA a ha, by rw [c_rgg_m] at ha; omega⟩)
  have cA := c_V_ch h1.1 fA fxA
  have ciA := c_ci_fr hci fA (fun a ha => by rw [c_rgg_m] at ha; omega)
  have tcA := c_tca_ch hm hpl hplm hne hr h WA cA (w_le_refl _) (c_gs_fr h4 fA) (fun a ha => by rw [c_rgg_m] at ha; omega)
  have nA : ∀ a, a < g ∨ g + 21 < a → sw_iv A1 a = sw_iv H a := fun a ha => fA.2.2.2.2.2 a (fun cc => by rw [c_rgg_m] at cc; omega)
  rw [fA.2.2.2.2.1 94 3, r3]
  refine ⟨by rw [fA.2.2.1]; exact t44, ?_⟩
  intro q62 e62
  rw [tcA.2.2.1]
  refine ⟨tcA.2.2.2.1.2.2.1, ?_⟩
  intro q65 e65
  rw [e65, tcA.2.2.2.1.2.2.2.1]
  refine ⟨trA.1.2.2.1, ?_⟩
  intro q68 e68
  rw [e62, e68]
  refine c_applyTo (T := gg_T G) (by omega) WA.1 ciA trA (fun k c hc h1 => ?_) hroom (fun B1 VB ciB trB adlB n44 fB => ?_)
  · obtain ⟨_, ⟨a2, a3, _⟩, _⟩ := (ha k c hc).2 h1
    exact ⟨a2, by omega⟩
  intro _
  have fxB : ∀ a ∈ c_Ap (g + 1), c_fix a := fun a ha => by rw [c_Ap_m] at ha; unfold c_fix; omega
  have WB := c_W_fr WA fB (fun a ha => ⟨fxB a ha, by rw [c_Ap_m] at ha; omega⟩)
  have cB := c_V_ch WA.1 fB fxB
  have tcB := c_tca_ch hm hpl hplm hne hr tcA WB cB (w_le_refl _) (c_gs_fr tcA.2.2.2.1 fB) (fun a ha => by rw [c_Ap_m] at ha; omega)
  have nB : ∀ a, a ≠ 44 → a ≠ 50 → a < g + 1 ∨ g + 21 < a → sw_iv B1 a = sw_iv A1 a := fun a h1 h2 h3 => fB.2.2.2.2.2 a (fun cc => by rw [c_Ap_m] at cc; omega)
  have cHB := c_ch_trans cA cB
  have mAB : ∀ a ∈ c_rgg g ++ c_Ap (g + 1), a = 44 ∨ a = 50 ∨ (g ≤ a ∧ a ≤ g + 21) := fun a ha => by
    rw [List.mem_append, c_rgg_m, c_Ap_m] at ha; omega
  have i2B : sw_iv B1 g 2 = w_epn G := by rw [nB g (by omega) (by omega) (by omega)]; exact e2A
  have i3B : sw_iv B1 g 3 = gg_lf G := by rw [nB g (by omega) (by omega) (by omega)]; exact e3A
  have t44B : sw_ty B1 44 = 24 := by rw [fB.2.2.1, fA.2.2.1]; exact t44
  have rmB : b_is (sw_iv B1 44 11) (fun j => h_rm L (j : Int)) := by rw [n44 11 (by decide), nA 44 (by omega)]; exact hrm
  have h2B : sw_iv B1 44 2 = (h_nad L : Nat) := by rw [n44 2 (by decide), nA 44 (by omega)]; exact h2
  have PaB := c_Pa_fr (c_Pa_fr hPa fA) fB
  have ReB := c_Re_fr (c_Re_fr hRe fA) fB
  have vB : ∀ a, a < 44 ∨ (50 < a ∧ a < 96) → sw_iv B1 a = sw_iv H a := fun a ha => by rw [nB a (by omega) (by omega) (by omega), nA a (by omega)]
  have n91B : sw_iv B1 91 0 = 0 := by rw [vB 91 (by omega)]; exact h91
  have tolB : c_tol B1 := ⟨ciB.1, PaB, n91B, tcB.2.1, ReB⟩
  -- what is told of B1 is told of H
  have dB : ∀ {X : sw_H} {mm : List Wt} {o : Option (Option w_G)}, c_daft B1 m g gm X mm o → c_daft H m g gm X mm o := fun {X mm o} d => c_daft_tr hm hpl fl ad cHB (fun a ha => by have := mAB a ha; omega) d
  rw [tcB.2.2.1]
  refine ⟨tcB.2.2.2.1.2.2.1, ?_⟩
  intro q76 e76
  rw [e76, tcB.2.2.2.1.2.2.2.1]
  refine ⟨trB.1.2.2.1, ?_⟩
  intro q79 e79
  rw [e79]
  -- who leaves
  have tol_m : ∀ {B X : sw_H}, c_tol B → c_fr [120 + 54 * m] B X → c_tol X := fun {B X} t f => ⟨c_Ch_fr t.1 f, c_Pa_fr t.2.1 f, by rw [f.2.2.2.2.2 91 (by simp <;> omega)]; exact t.2.2.1, by
    obtain ⟨y1, y2, y3, y4, y5, y6, y7, y8⟩ := t.2.2.2.1
    unfold c_Ta
    simp only [f.2.2.1, f.2.2.2.2.1]
    exact ⟨y1, y2, y3, y4, y5, y6, y7, y8⟩, c_Re_fr t.2.2.2.2 f⟩
  cases pt with
  | none =>
    have hno : sw_iv B1 18 11 = -1 := by rw [vB 18 (by omega)]; exact hcv.2.2.2.2
    refine c_checkPath0 (L := L) tcB.2.1 tcB.2.2.2.2.2.2.2.2.2.2 t44B hno ciB.2.1 h2B (fun shp => ?_) (fun shp => ?_)
    rotate_left
    · intro _ _
      exact c_tc_no 8 (by decide) (q 8 none B1 mk (Or.inl ⟨fun h => h shp, rfl, rfl⟩) w_mo_refl hb WB tolB (dB ⟨tcB.2.2.2.1, fun _ => rfl, c_ch_refl _ _⟩))
    intro _ _
    have shp : d_shp (h_ap (gg_T G) L) (k_ms G L) l L none := shp
    refine c_tc_62 hm hpl hplm tcB t44B rmB (fun hn => ?_) (fun X hrr WX dX fX => ?_)
    rotate_left
    · exact q 0 (some none) X mk (Or.inr ⟨shp, Or.inl ⟨hrr, rfl, rfl⟩⟩) w_mo_refl hb WX (tol_m tolB fX) (dB dX)
    obtain ⟨k1, k2, k3, k4⟩ := own hn
    have sne : d_own (h_ap (gg_T G) L) (2 * gg_lf G) ≠ [] := c_p5_ne WB.1.1 (by rw [← k3]; exact w_az_ne (trB.2.2.2.1 _ (by have := k1.1; rw [t_w_e]; omega)).1 k1.2)
    refine c_tc_n (T := h_ap (gg_T G) L) (s := d_own (h_ap (gg_T G) L) (2 * gg_lf G)) (S := S) (cf := cf) hm lmm hb hpl hplm hne hr (c_tcb_of tcB i2B i3B) trB hno k1.1 k3 sne (car hn) hl3 hlm ecf hcf2 hz (d_iv0 hi a1 a2 a3 a4 k1 k2 k3).1 hS (fun X mm y1 y2 y3 y4 y5 => ?_) (fun X mm y1 y2 y3 y4 yg y5 y6 => ?_)
    · have cX := y5.2.2.2.2
      have inA : ∀ a ∈ [14, 15, 16, g, g + 22], a ∈ c_Atc g := fun a ha => by rw [c_Atc_m]; simp at ha; omega
      have flB := WB.1.2.2.2.1
      have adB := WB.1.2.2.2.2
      refine q 0 (some (some _)) X mm (Or.inr ⟨shp, Or.inr ⟨hn, Or.inl ⟨y1, rfl, rfl⟩⟩⟩) y2 y3 y4 ⟨c_Ch_ch ciB.1 flB adB cX (by simp <;> omega) (by simp <;> omega), c_Pa_ch PaB flB adB cX (fun cc => by simp at cc; omega), by rw [(c_fx_iv flB adB cX (q := 91) (by unfold c_fix; omega) (by simp <;> omega)).1]; exact n91B, c_Ta_ch tcB.2.1 flB adB cX (fun _ f hf => by rw [y5.2.2.2.1 f, if_neg (by omega)]), c_Re_ch ReB flB adB cX (fun a ha => by simp at ha; omega)⟩ (dB (c_tkn_up y5 inA))
    · have flB := WB.1.2.2.2.1
      have adB := WB.1.2.2.2.2
      exact q 12 none X mm (Or.inr ⟨shp, Or.inr ⟨hn, Or.inr ⟨y1, rfl, rfl⟩⟩⟩) y2 y3 y4 ⟨c_Ch_ch ciB.1 flB adB y6 (by simp <;> omega) (by simp <;> omega), c_Pa_ch PaB flB adB y6 (fun cc => by simp at cc; omega), by rw [(c_fx_iv flB adB y6 (q := 91) (by unfold c_fix; omega) (by simp <;> omega)).1]; exact n91B, c_Ta_ch tcB.2.1 flB adB y6 (fun _ f hf => y5 f), c_Re_ch ReB flB adB y6 (fun a ha => by simp at ha; omega)⟩ (dB ⟨yg, y5, c_ch_sub y6 (fun a ha => by rw [c_Atc_m]; simp at ha; omega)⟩)
  | some pp =>
    obtain ⟨f, ns⟩ := pp
    obtain ⟨n5, f5⟩ := p_cm_n5 hx5 hcm
    have lfok : t_lfok f := by
      obtain ⟨s, hs⟩ := p_cm_lf hcm
      exact (p_lf_ok hvl (Nat.le_refl _) hs).1
    have pvB : c_pv B1 mk (f, ns) := c_pv_fr hcv.2.2.2.2 (fun p h1 h2 => vB p (by omega)) (by rw [vB 18 (by omega)])
    obtain ⟨lfB, pnB⟩ := c_pv_at pvB
    have hmsk := h_msk_ok hroom L.length (Nat.le_refl _)
    have hmsk : 0 ≤ k_ms G L ∧ k_ms G L < 65536 := hmsk
    have h576 : (w_sq (h_ap (gg_T G) L) (k_ms G L) l (t_wl (h_ap (gg_T G) L) l (t_dp (h_ap (gg_T G) L)))).length ≤ 576 := by
      have := w_sq_len (msk := k_ms G L) a1 o2.1 (t_wl (h_ap (gg_T G) L) l (t_dp (h_ap (gg_T G) L))) (fun k hk => ((t_wl_m _).mp hk).1)
      have := t_wl_len (T := h_ap (gg_T G) L) (l := l) (t_dp (h_ap (gg_T G) L))
      have := a1.1
      omega
    have inAq : ∀ a ∈ c_Acq (g + 1), (13 < a ∧ a < 17) ∨ (43 < a ∧ a < 94) ∨ (g < a ∧ a ≤ g + 22) := fun a ha => by rw [c_Acq_m] at ha; omega
    have flB := WB.1.2.2.2.1
    have adB := WB.1.2.2.2.2
    have v94q : ∀ {X : sw_H}, c_ch (c_Acq (g + 1)) B1 X → ∀ f, sw_rv X 94 f = sw_rv B1 94 f := fun {X} c => (c_fx_iv flB adB c (q := 94) (by unfold c_fix; omega) (fun cc => by rw [c_Acq_m] at cc; omega)).2
    have gsq : ∀ {X : sw_H}, c_ch (c_Acq (g + 1)) B1 X → c_ts X (g + 1) → c_gs X g := fun {X} c t => c_gs_tr tcB.2.2.2.1 flB adB c (fun cc => by rw [c_Acq_m] at cc; omega) t
    have tolq : ∀ {X : sw_H}, c_ch (c_Acq (g + 1)) B1 X → c_Pa X → sw_iv X 91 0 = 0 → c_tol X := fun {X} c pa n91 => ⟨c_Ch_ch ciB.1 flB adB c (fun cc => by rw [c_Acq_m] at cc; omega) (fun cc => by rw [c_Acq_m] at cc; omega), pa, n91, c_Ta_ch tcB.2.1 flB adB c (fun cc => by rw [c_Acq_m] at cc; omega), c_Re_ch ReB flB adB c (fun a ha => by rw [c_Acq_m] at ha; omega)⟩
    refine c_checkPath (T := h_ap (gg_T G) L) (msk := k_ms G L) (S := S) lmm hb WB tcB.2.1 ReB PaB n91B tcB.2.2.2.2.2.2.2.2.2.2 t44B adlB.1 ⟨by omega, by omega⟩ (by rw [vB 18 (by omega)]; exact hcv.2.1) pnB lfB lfok trB (by omega) (by omega) o2.1 o2.2 (fun n hn => w_i5_ne (n5 n hn)) h576 (fun v hv => hS v (Or.inl hv)) (fun X y1 y2 y3 y4 yt y5 => ?_) (fun X mm y1 y2 y3 y4 y5 y6 y7 yt y8 => ?_) (fun X mm shp lrp mo3 b3 WX trX pkX h88 PaX cX => ?_)
    · intro _ _
      exact c_tc_no 8 (by decide) (q 8 none X mk (Or.inl ⟨y1, rfl, rfl⟩) w_mo_refl hb y2 (tolq y5 y4 y3) (dB ⟨gsq y5 yt, v94q y5, c_ch_sub y5 (fun a ha => by rw [c_Atc_m]; have := inAq a ha; omega)⟩))
    · intro _ _
      exact c_tc_no 9 (by decide) (q 9 none X mm (Or.inr ⟨y1, Or.inl ⟨y2, rfl, rfl⟩⟩) y3 y4 y5 (tolq y8 y7 y6) (dB ⟨gsq y8 yt, v94q y8, c_ch_sub y8 (fun a ha => by rw [c_Atc_m]; have := inAq a ha; omega)⟩))
    intro _ _
    have n91X : sw_iv X 91 0 = 0 := by
      have := pkX.2.2.1 0 (by omega)
      rw [this]
      rfl
    have tolX := tolq cX PaX n91X
    have gsX := c_gs_tr tcB.2.2.2.1 flB adB cX (fun cc => by rw [c_Acq_m] at cc; omega) trX.1
    have tcX := c_tca_ch hm hpl hplm hne hr tcB WX cX mo3.1 gsX (fun a ha => by have := inAq a ha; omega)
    have vX : ∀ a, c_fix a → (16 < a ∧ a < 85) ∨ a = g ∨ a = 94 → (∀ f, sw_iv X a f = sw_iv B1 a f) ∧ ∀ f, sw_rv X a f = sw_rv B1 a f := fun a hf ha => c_fx_iv flB adB cX hf (fun cc => by rw [c_Acq_m] at cc; omega)
    have dX : ∀ {Y : sw_H} {mm : List Wt} {o : Option (Option w_G)}, c_daft X m g gm Y mm o → c_daft H m g gm Y mm o := fun {Y mm o} d => dB (c_daft_tr hm hpl flB adB cX (fun a ha => by have := inAq a ha; omega) d)
    have rmX : b_is (sw_iv X 44 11) (fun j => h_rm L (j : Int)) := by rw [(vX 44 (by unfold c_fix; omega) (by omega)).1]; exact rmB
    have t44X : sw_ty X 44 = 24 := by rw [(c_fx_ty flB cX (q := 44) (by unfold c_fix; omega)).1]; exact t44B
    have shp' : d_shp (h_ap (gg_T G) L) (k_ms G L) l L (some (f, ns)) := shp
    refine c_tc_62 hm hpl hplm tcX t44X rmX (fun hn => ?_) (fun Y hrr WY dY fY => ?_)
    rotate_left
    · exact q 0 (some none) Y mm (Or.inr ⟨shp', Or.inr ⟨lrp, Or.inl ⟨hrr, rfl, rfl⟩⟩⟩) mo3 b3 WY (tol_m tolX fY) (dX dY)
    obtain ⟨k1, k2, k3, k4⟩ := own hn
    have sne : d_own (h_ap (gg_T G) L) (2 * gg_lf G) ≠ [] := c_p5_ne WB.1.1 (by rw [← k3]; exact w_az_ne (trB.2.2.2.1 _ (by have := k1.1; rw [t_w_e]; omega)).1 k1.2)
    have T2ok := d_T2_ok (ns := ns) a1 a2 a3 a4 l16 lfok lrp.1.2.2 ⟨n5, f5⟩
    have pvX : c_pn X mm ns := by
      refine ⟨by rw [(vX 18 (by unfold c_fix; omega) (by omega)).1]; exact pnB.1, fun i k s t hi hn => ?_⟩
      obtain ⟨x1, x2, x3⟩ := pnB.2 i k s t hi hn
      rw [(vX 19 (by unfold c_fix; omega) (by omega)).1, (vX 20 (by unfold c_fix; omega) (by omega)).1, (vX 21 (by unfold c_fix; omega) (by omega)).1]
      exact ⟨w_le_at mo3.1 x1, x2, x3⟩
    have flX := WX.1.2.2.2.1
    have adX := WX.1.2.2.2.2
    -- the tools behind
    have tolZ : ∀ {Y : sw_H} {A : List Nat}, c_ch A X Y → (∀ a ∈ A, (13 < a ∧ a < 17) ∨ a = 90 ∨ a = 94 ∨ a = 120 + 54 * m ∨ (g ≤ a ∧ a ≤ g + 22)) → (∀ f, f < 6 → sw_rv Y 94 f = sw_rv X 94 f) → c_tol Y := fun {Y A} c hA hf => ⟨c_Ch_ch tolX.1 flX adX c (fun cc => by have := hA _ cc; omega) (fun cc => by have := hA _ cc; omega), c_Pa_ch PaX flX adX c (fun cc => by have := hA _ cc; omega), by rw [(c_fx_iv flX adX c (q := 91) (by unfold c_fix; omega) (fun cc => by have := hA _ cc; omega)).1]; exact n91X, c_Ta_ch tcX.2.1 flX adX c (fun _ => hf), c_Re_ch tolX.2.2.2.2 flX adX c (fun a ha => by have := hA a ha; omega)⟩
    have in90 : ∀ a ∈ [14, 15, 16, 90, 94, g, g + 22], (13 < a ∧ a < 17) ∨ a = 90 ∨ a = 94 ∨ a = 120 + 54 * m ∨ (g ≤ a ∧ a ≤ g + 22) := fun a ha => by simp at ha; omega
    have in91 : ∀ a ∈ [14, 15, 16, 90, 94, g, g + 22], a ∈ c_Atc g := fun a ha => by rw [c_Atc_m]; simp at ha; omega
    refine c_tc_p (T := h_ap (gg_T G) L) (l := l) (f := f) (ns := ns) (s := d_own (h_ap (gg_T G) L) (2 * gg_lf G)) (S := S) (cf := cf) (msk := k_ms G L) hm lmm b3 hpl hplm hne hr (c_tcb_of tcX (by rw [(vX g (by unfold c_fix; omega) (by omega)).1]; exact i2B) (by rw [(vX g (by unfold c_fix; omega) (by omega)).1]; exact i3B)) a1 a2 trX ⟨T2ok.1, T2ok.2.1, T2ok.2.2.1⟩ o2.1 k1 hnl k3 sne (car hn) PaX tolX.2.2.2.2 pkX h88 pvX shp h576 hcm n5 hl3 hlm ecf hcf2 (d_iv1 hi a1 a4 k1 k2 k3 o2.1 hnl T2ok n5).1 (fun v hv => hS v (Or.inr (Or.inl hv))) (fun v hv => hS v (Or.inr (Or.inr hv))) (fun Y y1 y2 yg y3 y4 => ?_) (fun Y my y1 y2 y3 y4 y5 yg y6 y7 => ?_) (fun Y my y1 y2 y3 y4 y5 y6 y7 => ?_) (fun Y my y1 y2 y3 y4 y5 y6 yg y7 y8 => ?_)
    · exact q 10 none Y mm (Or.inr ⟨shp', Or.inr ⟨lrp, Or.inr ⟨hn, Or.inl ⟨y1, rfl, rfl⟩⟩⟩⟩) mo3 b3 y2 (tolZ y4 in90 (fun f _ => y3 f)) (dX ⟨yg, y3, c_ch_sub y4 in91⟩)
    · exact q 11 none Y my (Or.inr ⟨shp', Or.inr ⟨lrp, Or.inr ⟨hn, Or.inr ⟨y1, Or.inl ⟨y2, rfl, rfl⟩⟩⟩⟩⟩) (w_mo_trans mo3 y3) y4 y5 (tolZ y7 in90 (fun f _ => y6 f)) (dX ⟨yg, y6, c_ch_sub y7 in91⟩)
    · exact q 0 (some (some _)) Y my (Or.inr ⟨shp', Or.inr ⟨lrp, Or.inr ⟨hn, Or.inr ⟨y1, Or.inr ⟨y2, Or.inl ⟨y3, rfl, rfl⟩⟩⟩⟩⟩⟩) (w_mo_trans mo3 y4) y5 y6 (tolZ y7.2.2.2.2 (fun a ha => by simp at ha; omega) (fun f hf => by rw [y7.2.2.2.1 f, if_neg (by omega)])) (dX (c_tkn_up y7 (fun a ha => by rw [c_Atc_m]; simp at ha; omega)))
    · exact q 12 none Y my (Or.inr ⟨shp', Or.inr ⟨lrp, Or.inr ⟨hn, Or.inr ⟨y1, Or.inr ⟨y2, Or.inr ⟨y3, rfl, rfl⟩⟩⟩⟩⟩⟩) (w_mo_trans mo3 y4) y5 y6 (tolZ y8 in90 (fun f _ => y7 f)) (dX ⟨yg, y7, c_ch_sub y8 in91⟩)
end
