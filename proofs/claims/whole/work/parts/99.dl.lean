/-! ===== the class: what is sent and kept, as one; propose: the end ===== -/
noncomputable section
variable {H Z X Y : sw_H} {nn nm r ra g m n : Nat} {K K' S : Wt → Prop} {tl tl' tp mk mm l b : List Wt} {ms : List (List Wt)} {rd : Nat → Int} {a c x y cn cs cn' cs' N U M kd : Int} {Q : sw_H → Prop} {P : Int → sw_H → Prop} {A B : List Nat} {w h : Wt} {La : Nat → List (Wt × Nat)} {L : List (Wt × Nat)} {G' : w_G}
/-- a cell of the class's tools: no member's, no message's, no group's -/
def c_hl (a : Nat) : Prop := a ≠ 2 ∧ 3 < a ∧ (a < 96 ∨ (1420 ≤ a ∧ a ≤ 1491))
/-- terms, messages, members, proposals -/
def c_BS (H : sw_H) (mk : List Wt) (nn : Nat) (K : Wt → Prop) (tl : List Wt) (cn cs : Int) (tp : List Wt) (rd : Nat → Int) (ms : List (List Wt)) (La : Nat → List (Wt × Nat)) : Prop := c_W H mk nn K tl cn cs ∧ c_X H mk tp rd ms ∧ c_MS H mk ∧ c_KS H mk ms La
theorem c_BS_ch (h : c_BS H mk nn K tl cn cs tp rd ms La) (hW : c_W Z mm nm K' tl' cn' cs') (k : c_ch A H Z) (hl : w_le mk mm) (hA : ∀ a ∈ A, c_hl a) : c_BS Z mm nm K' tl' cn' cs' tp rd ms La := by
  obtain ⟨h1, h2, h3, h4⟩ := h
  have fl := h1.1.2.2.2.1
  have ad := h1.1.2.2.2.2
  have mem : ∀ m, m < 24 → ∀ i, i < 54 → 120 + 54 * m + i ∉ A := fun m hm i hi c => by have := hA _ c; unfold c_hl at this; omega
  have memv : ∀ m, m < 24 → (∀ f, sw_iv Z (120 + 54 * m) f = sw_iv H (120 + 54 * m) f) ∧ ∀ f, sw_rv Z (120 + 54 * m) f = sw_rv H (120 + 54 * m) f := fun m hm => c_fx_iv fl ad k (by unfold c_fix; omega) (mem m hm 0 (by omega))
  refine ⟨hW, c_X_ch h1.1 h2 k hW.1 hl (fun a ha => by have := hA a ha; unfold c_hl at this; omega), c_MS_ch h3 fl ad k (fun c => by have := hA _ c; unfold c_hl at this; omega) (fun m hm c => absurd c (mem m hm 0 (by omega))) hl, c_KS_ch h1.1 h2 h4 k hl (fun c => by have := hA _ c; unfold c_hl at this; omega) (fun m hm => ?_) (fun i hi c => ?_)⟩
  · obtain ⟨e1, e2⟩ := memv m hm
    obtain ⟨kp, _⟩ := h4.1 m hm
    have n7 : c_ka H m 7 ∉ A := fun c => by
      have := hA _ c
      unfold c_hl at this
      have := kp.2.2.2.2.2.1
      omega
    have n8 : c_ka H m 8 ∉ A := fun c => by
      have := hA _ c
      unfold c_hl at this
      have := kp.2.2.2.2.2.2
      omega
    exact ⟨e1 9, e2 7, e2 8, n7, n8⟩
  · obtain ⟨l, hl⟩ : ∃ l, ms[i]? = some l := ⟨ms[i]'hi, List.getElem?_eq_getElem hi⟩
    obtain ⟨g1, _⟩ := h2.2.2.2.2.2 i l hl
    have := hA _ c
    unfold c_hl at this
    omega
theorem c_BS_fr (h : c_BS H mk nn K tl cn cs tp rd ms La) (hW : c_W Z mk nn K tl cn cs) (k : c_fr A H Z) (hA : ∀ a ∈ A, c_hl a ∧ 10 < a) : c_BS Z mk nn K tl cn cs tp rd ms La := c_BS_ch h hW (c_V_ch h.1.1 k (fun a ha => by have := hA a ha; unfold c_hl at this; unfold c_fix; omega)) (w_le_refl _) (fun a ha => (hA a ha).1)
/-- a message more -/
theorem c_KS_send (hV : c_V H mk nn K tl cn cs) (hX : c_X H mk tp rd ms) (hK : c_KS H mk ms La) (k : c_ch [2, 1416] H Z) (hnw : c_nwm H Z ms.length) : c_KS Z mk (ms ++ [l]) La := by
  have fl := hV.2.2.2.1
  have ad := hV.2.2.2.2
  obtain ⟨w1, w2, w3⟩ := hnw
  have memv : ∀ m, m < 24 → (∀ f, sw_iv Z (120 + 54 * m) f = sw_iv H (120 + 54 * m) f) ∧ ∀ f, sw_rv Z (120 + 54 * m) f = sw_rv H (120 + 54 * m) f := fun m hm => c_fx_iv fl ad k (by unfold c_fix; omega) (by simp; omega)
  have ka : ∀ m f, m < 24 → c_ka Z m f = c_ka H m f := fun m f hm => (memv m hm).2 f
  refine ⟨fun m hm => ?_, ?_, ?_⟩
  · obtain ⟨kp, p1, p2, p3⟩ := hK.1 m hm
    obtain ⟨⟨t7, t8⟩, e1, e2, e3, ⟨o7, o8⟩, l7, l8⟩ := kp
    have n7 : sw_ty H (c_ka H m 7) ≠ 0 := by rw [t7]; decide
    have n8 : sw_ty H (c_ka H m 8) ≠ 0 := by rw [t8]; decide
    have s7 := k.1.2 _ n7
    have s8 := k.1.2 _ n8
    have i7 := (k.2.1 _ n7 o7 (by simp; omega)).1
    have i8 := (k.2.1 _ n8 o8 (by simp; omega)).1
    refine ⟨?_, ?_⟩
    · unfold c_kp
      rw [ka m 7 hm, ka m 8 hm, s7.1, s7.2, s8.1, s8.2]
      exact ⟨⟨t7, t8⟩, e1, e2, e3, ⟨c_ch_no k n7 o7, c_ch_no k n8 o8⟩, l7, l8⟩
    · unfold c_pp
      rw [ka m 7 hm, ka m 8 hm, s8.2, (memv m hm).1 9]
      refine ⟨p1, p2, fun i kk h hi => ?_⟩
      rw [i7, i8]
      exact p3 i kk h hi
  · intro m m' f f' hm hm' hf hf' e
    rw [ka m f hm, ka m' f' hm'] at e
    exact hK.2.1 m m' f f' hm hm' hf hf' e
  · intro m f i hm hf hi
    rw [List.length_append] at hi
    simp at hi
    rw [ka m f hm]
    have ty : sw_ty H (c_ka H m f) ≠ 0 := by
      obtain ⟨kp, _⟩ := hK.1 m hm
      rcases hf with e | e
      · rw [e, kp.1.1]; decide
      · rw [e, kp.1.2]; decide
    by_cases ci : i = ms.length
    · subst ci
      intro e
      rw [e, w3] at ty
      exact ty rfl
    · rw [w1 i ci]
      obtain ⟨l, hl⟩ : ∃ l, ms[i]? = some l := ⟨ms[i]'(by omega), List.getElem?_eq_getElem (by omega)⟩
      obtain ⟨g1, g2, _, a, _, _, s, q, _⟩ := hX.2.2.2.2.2 i l hl
      have tr : sw_ty H (sw_rv H 1416 i) ≠ 0 := by rw [q.1]; decide
      rw [(k.2.1 _ tr g2 (by simp; omega)).2 0]
      exact hK.2.2 m f i hm hf (by omega)
theorem c_BS_send (lm : c_lm cn cs N U M) (bd : c_bl mk tl N U M) (h : c_BS H mk nn K tl cn cs tp rd ms La) (hr : c_rr H mk 1420 1421 l) (hl : l.length ≤ 1200) (h3 : ms.length < 300) (q : ∀ G, c_BS G mk nn (w_lrs K l) tl (cn + 2) (cs + 2 + l.length) tp rd (ms ++ [l]) La → c_rr G mk 1420 1421 l → c_ch [2, 1416] H G → P ms.length G) : wm_163 2 H P := by
  obtain ⟨h1, h2, h4, h5⟩ := h
  refine c_send2 lm bd h1 h2 hr hl h3 (fun G WG XG rG cG nG => q G ⟨WG, XG, ?_, c_KS_send h1.1 h2 h5 cG nG⟩ rG cG)
  exact c_MS_ch h4 h1.1.2.2.2.1 h1.1.2.2.2.2 cG (by simp) (fun m hm c => by simp at c; omega) (w_le_refl _)
def c_ptl (Q : Int → sw_H → Prop) (x0 x4 : Nat) (H56 : sw_H) : Prop := sw_ty H56 (sw_rv H56 x0 11) = 80 ∧ ∀ q61, q61 = sw_rv H56 x0 11 → sw_ty H56 (sw_rv H56 x0 1) = 32 ∧ ∀ q64, q64 = sw_rv H56 x0 1 → ∀ v67, v67 = sw_iv H56 x4 1 → sw_c v67 → sw_ty H56 (sw_rv H56 x0 11) = 80 ∧ ∀ q70, q70 = sw_rv H56 x0 11 → sw_ty H56 (sw_rv H56 x4 4) = 40 ∧ ∀ q73, q73 = sw_rv H56 x4 4 → wm_172 q64 v67 q70 q73 H56 (fun z79 H76 => sw_c z79 → sw_ext H56 H76 → wm_58 q61 (sw_w (256 + z79)) H76 (fun H81 => sw_ext H76 H81 → sw_ty H81 (sw_rv H81 x0 11) = 80 ∧ ∀ q86, q86 = sw_rv H81 x0 11 → sw_ty H81 (sw_rv H81 x0 1) = 32 ∧ ∀ q89, q89 = sw_rv H81 x0 1 → sw_ty H81 (sw_rv H81 x0 11) = 80 ∧ ∀ q92, q92 = sw_rv H81 x0 11 → sw_ty H81 (sw_rv H81 x4 4) = 40 ∧ ∀ q95, q95 = sw_rv H81 x4 4 → wm_173 q89 q92 q95 H81 (fun z101 H98 => sw_c z101 → sw_ext H81 H98 → wm_58 q86 (sw_w (256 + z101)) H98 (fun H103 => sw_ext H98 H103 → wm_163 x0 H103 (fun z111 H108 => sw_c z111 → sw_ext H103 H108 → sw_ty H108 (sw_rv H108 x0 1) = 32 ∧ ∀ q116, q116 = sw_rv H108 x0 1 → sw_ty H108 (sw_rv H108 x0 11) = 80 ∧ ∀ q119, q119 = sw_rv H108 x0 11 → wm_164 q116 q119 H108 (fun z125 H122 => sw_c z125 → sw_ext H108 H122 → wm_174 x4 z111 z125 H122 (fun H127 => sw_ext H122 H127 → Q z111 H127)))))))
theorem c_prop_tail (hm : m < 24) (lm : c_lm cn cs N U M) (lm2 : c_lm (cn + 2) (cs + 2 + (w_prM G' m b).length) N U M) (hB : c_BS H mk nn K tl cn cs tp rd ms La) (hr : c_rr H mk 1420 1421 b) (hln : sw_ln H 1421 = 1400) (hb : b.length ≤ 1100) (hg : c_gp H mk (sw_rv H (120 + 54 * m) 4) G') (hpl : c_pl (sw_rv H (120 + 54 * m) 4)) (h300 : ms.length < 300) (hL3 : (La m).length < 340) (bd : c_bl (w_tls mk (w_prE G' m b)) tl N U M) (q : ∀ X cn' cs', ((cn' = cn + 2 ∧ cs' = cs + 2 + (w_prM G' m b).length ∧ sw_ln X (c_ka X m 8) = sw_ln H (c_ka H m 8)) ∨ (cn' = cn + 4 ∧ cs' = cs + 2 + (w_prM G' m b).length + 4 * sw_ln H (c_ka H m 8) ∧ sw_ln X (c_ka X m 8) = 2 * sw_ln H (c_ka H m 8) ∧ sw_ln H (c_ka H m 8) < 340)) → c_BS X (w_tls mk (w_prE G' m b)) nn (w_lrs K (w_prM G' m b)) tl cn' cs' tp rd (ms ++ [w_prM G' m b]) (w_upd La m (w_kp (La m) (w_hs (w_prM G' m b)) ms.length)) → (∀ f, f ≠ 9 → sw_iv X (120 + 54 * m) f = sw_iv H (120 + 54 * m) f) → (∀ f, f ≠ 7 → f ≠ 8 → sw_rv X (120 + 54 * m) f = sw_rv H (120 + 54 * m) f) → c_ch [14, 15, 1420, 1421, 2, 1416, 120 + 54 * m, c_ka H m 7, c_ka H m 8] H X → c_Out X → P ms.length X) : c_ptl P 2 (120 + 54 * m) H := by
  have ed : w_tls mk (w_prE G' m b) = w_tl (w_tl (w_tl (w_tl mk (w_prS G' m b)) (w_mem G')) (w_prT G' m b)) (w_hs (w_prM G' m b)) := rfl
  rw [ed] at bd q
  have b3 := c_bl_le (w_le_tl _ _) bd
  have b2 := c_bl_le (w_le_tl _ _) b3
  have b1 := c_bl_le (w_le_tl _ _) b2
  have b0 := c_bl_le (w_le_tl _ _) b1
  obtain ⟨hW, hX, hMS, hK⟩ := id hB
  have O := hX.1
  have o1 : sw_rv H 2 1 = 11 := O.2.2.1
  have o11 : sw_rv H 2 11 = 1420 := O.2.2.2.2.2.2.2.2.2.2.2.1
  obtain ⟨pl1, pl2⟩ := c_pl_b hpl
  have t1420 : sw_ty H 1420 = 80 := (c_rr_row hr).choose_spec.1.1
  have t11 : sw_ty H 11 = 32 := hW.2.1.1
  obtain ⟨ms1, ms2, ms3, ms4, ms5⟩ := hMS.2.2 m hm
  have fx : ∀ {X : sw_H} {A : List Nat}, c_ch A H X → 2 ∉ A → 120 + 54 * m ∉ A → (∀ f, sw_rv X 2 f = sw_rv H 2 f) ∧ (∀ f, sw_rv X (120 + 54 * m) f = sw_rv H (120 + 54 * m) f) ∧ ∀ a, 1 ≤ a → a ≤ 1491 → sw_ty X a = sw_ty H a ∧ sw_ln X a = sw_ln H a := fun {X A} k h1 h2 => ⟨(c_fx_iv hW.1.2.2.2.1 hW.1.2.2.2.2 k (by unfold c_fix; omega) h1).2, (c_fx_iv hW.1.2.2.2.1 hW.1.2.2.2.2 k (by unfold c_fix; omega) h2).2, fun a ha1 ha2 => k.1.2 a (hW.1.2.2.2.1 a ha1 ha2)⟩
  obtain ⟨g, eg⟩ : ∃ g, sw_rv H (120 + 54 * m) 4 = g := ⟨_, rfl⟩
  rw [eg] at hg hpl pl1 pl2
  have t40 : sw_ty H g = 40 := hg.1.2.2.1
  unfold c_ptl
  rw [o11, o1, eg]
  refine ⟨t1420, ?_⟩
  intro q61 e61
  refine ⟨t11, ?_⟩
  intro q64 e64 v67 e67 _
  refine ⟨t1420, ?_⟩
  intro q70 e70
  refine ⟨t40, ?_⟩
  intro q73 e73
  rw [e61, e64, e67, e70, e73]
  refine c_signWithContext lm b0 hW hr.1 (by decide) (by omega) hg ms4 (fun z1 G1 W1 a1 c1 _ _ => ?_)
  have e1 := w_le_tl mk (w_prS G' m b)
  have B1 := c_BS_ch hB W1 c1 e1 (by unfold c_hl; simp)
  have R1 := c_rr_ch hW.1 hr c1 W1.1 e1 (by decide) (by decide)
  have ml1 := c_W_len lm b1
  obtain ⟨y1, y2, y3⟩ := fx c1 (by decide) (by simp; omega)
  refine c_s_term R1 (by rw [(y3 1421 (by decide) (by decide)).2, hln]; omega) (Nat.le_trans ml1 (by decide)) a1 (fun G2 R2 F2 _ => ?_)
  have W2 := c_W_fr W1 F2 (by unfold c_fix; simp)
  have B2 := c_BS_fr B1 W2 F2 (by unfold c_hl; simp)
  have c2 : c_ch [14, 15, 1420, 1421] H G2 := c_ch_sub (c_ch_trans c1 (c_V_ch W1.1 F2 (by unfold c_fix; simp))) (by simp)
  obtain ⟨y4, y5, y6⟩ := fx c2 (by decide) (by simp; omega)
  rw [y4 11, o11, y4 1, o1, y5 4, eg]
  refine ⟨by rw [(y6 1420 (by decide) (by decide)).1]; exact t1420, ?_⟩
  intro q86 e86
  refine ⟨by rw [(y6 11 (by decide) (by decide)).1]; exact t11, ?_⟩
  intro q89 e89
  refine ⟨by rw [(y6 1420 (by decide) (by decide)).1]; exact t1420, ?_⟩
  intro q92 e92
  refine ⟨by rw [(y6 g (by omega) (by omega)).1]; exact t40, ?_⟩
  intro q95 e95
  rw [e86, e89, e92, e95]
  have g2 := c_gp_ch hg hW.1.2.2.2.1 hW.1.2.2.2.2 c2 (fun a ha => by simp at ha; omega) e1
  refine c_tagOf lm W2 R2 (by rw [List.length_append]; simp; omega) g2 b2 (fun z3 G3 W3 a3 c3 _ _ => ?_)
  have e3 : w_le (w_tl mk (w_prS G' m b)) (w_tl (w_tl (w_tl mk (w_prS G' m b)) (w_mem G')) (w_prT G' m b)) := w_le_trans (w_le_tl _ _) (w_le_tl _ _)
  have B3 := c_BS_ch B2 W3 c3 e3 (by simp)
  have R3 := c_rr_ch W2.1 R2 c3 W3.1 e3 (by simp) (by simp)
  have c23 : c_ch [14, 15, 1420, 1421] H G3 := c_ch_sub (c_ch_trans c2 c3) (by simp)
  obtain ⟨y7, y8, y9⟩ := fx c23 (by decide) (by simp; omega)
  have ml3 := c_W_len lm b3
  refine c_s_term R3 (by rw [(y9 1421 (by decide) (by decide)).2, hln, List.length_append]; simp; omega) (Nat.le_trans ml3 (by decide)) a3 (fun G4 R4 F4 _ => ?_)
  have W4 := c_W_fr W3 F4 (by unfold c_fix; simp)
  have B4 := c_BS_fr B3 W4 F4 (by unfold c_hl; simp)
  have c4 : c_ch [14, 15, 1420, 1421] H G4 := c_ch_sub (c_ch_trans c23 (c_V_ch W3.1 F4 (by unfold c_fix; simp))) (by simp)
  have ln : (w_prM G' m b).length = b.length + 2 := by unfold w_prM; simp
  refine c_BS_send lm b3 B4 R4 (by show (w_prM G' m b).length ≤ 1200; omega) h300 (fun G5 B5 R5 c5 _ _ => ?_)
  have B5 : c_BS G5 _ nn (w_lrs K (w_prM G' m b)) tl (cn + 2) (cs + 2 + (w_prM G' m b).length) tp rd (ms ++ [w_prM G' m b]) La := B5
  have c45 : c_ch [14, 15, 1420, 1421, 2, 1416] H G5 := c_ch_sub (c_ch_trans c4 c5) (by simp)
  have O5 := B5.2.1.1
  have o51 : sw_rv G5 2 1 = 11 := O5.2.2.1
  have o511 : sw_rv G5 2 11 = 1420 := O5.2.2.2.2.2.2.2.2.2.2.2.1
  rw [o51, o511]
  refine ⟨B5.1.2.1.1, ?_⟩
  intro q116 e116
  refine ⟨(c_rr_row R5).choose_spec.1.1, ?_⟩
  intro q119 e119
  rw [e116, e119]
  unfold wm_164
  rw [B5.1.2.1.2.1]
  refine ⟨B5.1.1.1.1.1.1.1, ?_⟩
  intro qa ea
  rw [ea]
  refine c_hashL lm2 B5.1.1 R5 (by show (w_prM G' m b).length ≤ 1400; omega) b3 (fun G6 z6 V6 a6 c6 _ _ _ _ => ?_)
  have e6 := w_le_tl (w_tl (w_tl (w_tl mk (w_prS G' m b)) (w_mem G')) (w_prT G' m b)) (w_hs (w_prM G' m b))
  have W6 := c_W_ch B5.1 V6 c6 (by simp) e6
  have B6 := c_BS_ch B5 W6 c6 e6 (by simp)
  have c56 : c_ch [14, 15, 1420, 1421, 2, 1416] H G6 := c_ch_sub (c_ch_trans c45 c6) (by simp)
  have mv := c_fx_iv hW.1.2.2.2.1 hW.1.2.2.2.2 c56 (q := 120 + 54 * m) (by unfold c_fix; omega) (by simp; omega)
  have sm := c_A_sm lm2 W6.1.2.2.1 W6.1.1.1 (c_bd_le (c_bl_bd W6.1.1 bd) (by omega) (by omega) (by omega))
  have ka7 : c_ka G6 m 7 = c_ka H m 7 := mv.2 7
  have ka8 : c_ka G6 m 8 = c_ka H m 8 := mv.2 8
  have kp := (hK.1 m hm).1
  have l8 : sw_ln G6 (c_ka G6 m 8) = sw_ln H (c_ka H m 8) := by
    rw [ka8]
    exact (c56.1.2 _ (by rw [kp.1.2]; decide)).2
  refine c_keepProposal (n := ms.length) hm W6 B6.2.1 B6.2.2.1 B6.2.2.2 hL3 (by omega) a6 (fun G7 cn' cs' hcc W7 X7 K7 i7 r7 c7 _ => ?_)
  have MS7 : c_MS G7 _ := c_MS_ch B6.2.2.1 W6.1.2.2.2.1 W6.1.2.2.2.2 c7 (fun c => by
      simp only [List.mem_cons, List.not_mem_nil, or_false] at c
      have := (B6.2.2.2.1 m hm).1.2.2.2.2.2
      omega) (fun m' hm' hin f hf => by
      by_cases em : m' = m
      · rw [em]; exact i7 f (by omega)
      · exfalso
        simp only [List.mem_cons, List.not_mem_nil, or_false] at hin
        have := (B6.2.2.2.1 m hm).1.2.2.2.2.2
        omega) (w_le_refl _)
  have kq := (B6.2.2.2.1 m hm).1.2.2.2.2.2
  have R6 := c_rr_ch B5.1.1 R5 c6 W6.1 e6 (by simp) (by simp)
  have R7 := c_rr_chN W6.1 R6 c7 W7.1 (w_le_refl _) (by simp; omega) (by simp; omega)
  rw [ka7, ka8] at c7
  have c67 : c_ch [14, 15, 1420, 1421, 2, 1416, 120 + 54 * m, c_ka H m 7, c_ka H m 8] H G7 := c_ch_sub (c_ch_trans c56 c7) (by simp)
  have out7 : c_Out G7 := ⟨by rw [(c67.1.2 1421 (hW.1.2.2.2.1 1421 (by decide) (by decide))).2]; exact hln, by obtain ⟨⟨s, hs, _⟩, _⟩ := R7; exact ⟨s, hs⟩⟩
  refine q G7 cn' cs' ?_ ⟨W7, X7, MS7, K7⟩ (fun f hf => by rw [i7 f hf, mv.1 f]) (fun f h1 h2 => by rw [r7 f h1 h2, mv.2 f]) c67 out7
  rw [l8] at hcc
  rcases hcc with ⟨d1, d2, d3⟩ | ⟨d1, d2, d3, d4⟩
  · exact Or.inl ⟨d1, d2, d3⟩
  · exact Or.inr ⟨by omega, d2, d3, d4⟩
end
