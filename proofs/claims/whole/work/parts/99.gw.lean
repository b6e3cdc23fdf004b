/-! ===== the class: writeCommitHead ===== -/
noncomputable section
variable {H G Z X Y : sw_H} {mk mm tl tp l0 l1 : List Wt} {ms : List (List Wt)} {rd : Nat → Int} {nn nm r k o h l x y g g1 g2 n m : Nat} {K K' S : Wt → Prop} {cn cs msk N U M z : Int} {T T2 T0 : w_T} {Q : sw_H → Prop} {P : Int → sw_H → Prop} {A : List Nat} {w s n0 : Wt} {G' : w_G} {L : List w_Ch} {f : p_L} {d : w_Ch}
theorem c_Lf_iv (h : c_Lf H mk o f) (e : ∀ f, sw_iv G o f = sw_iv H o f) (hl : w_le mk mm) : c_Lf G mm o f := ⟨c_lf_iv h.1 (fun f _ => e f) hl, by rw [e]; exact w_le_at hl h.2⟩
theorem c_ci_ch (h : c_ci H mk K ms L) (fl : c_full H) (ad : c_ads H) (c : c_ch A H G) (hA : ∀ a ∈ A, a < 44 ∨ 84 < a ∨ a = 50 ∨ a = 52) (h16 : 1416 ∉ A) (hl : w_le mk mm) : c_ci G mm K ms L := by
  have na : ∀ a, 44 ≤ a → a ≤ 84 → a ≠ 50 → a ≠ 52 → (∀ f, sw_iv G a f = sw_iv H a f) ∧ ∀ f, sw_rv G a f = sw_rv H a f := fun a h1 h2 h3 h4 => c_fx_iv fl ad c (q := a) (by unfold c_fix; omega) (fun cc => by have := hA a cc; omega)
  have nt : ∀ a, 44 ≤ a → a ≤ 84 → sw_ty G a = sw_ty H a ∧ sw_ln G a = sw_ln H a := fun a h1 h2 => c_fx_ty fl c (q := a) (by unfold c_fix; omega)
  have n16 : ∀ f, sw_rv G 1416 f = sw_rv H 1416 f := (c_fx_iv fl ad c (q := 1416) (by unfold c_fix; omega) h16).2
  obtain ⟨⟨c0, c3, c4, c5, c6, c7, c8, c9, c12, ct, c47, c51, c52, clf⟩, h2, h3, h4⟩ := h
  have v44 := (na 44 (by omega) (by omega) (by omega) (by omega)).2
  refine ⟨⟨by rw [v44]; exact c0, by rw [v44]; exact c3, by rw [v44]; exact c4, by rw [v44]; exact c5, by rw [v44]; exact c6, by rw [v44]; exact c7, by rw [v44]; exact c8, by rw [v44]; exact c9, by rw [v44]; exact c12, fun a ha => by rw [(nt a (by omega) (by omega)).1, (nt a (by omega) (by omega)).2]; exact ct a ha, by rw [(nt 47 (by omega) (by omega)).1, (nt 47 (by omega) (by omega)).2]; exact c47, by rw [(nt 51 (by omega) (by omega)).1, (nt 51 (by omega) (by omega)).2]; exact c51, by rw [(nt 52 (by omega) (by omega)).1, (nt 52 (by omega) (by omega)).2]; exact c52, fun k hk => by rw [(na 51 (by omega) (by omega) (by omega) (by omega)).2, (nt (53 + k) (by omega) (by omega)).1]; exact clf k hk⟩, by rw [(na 44 (by omega) (by omega) (by omega) (by omega)).1]; exact h2, h3, fun k c hc => ?_⟩
  have hk := h_lt hc
  obtain ⟨e45, e46, e49, ok, lf, llf, mi, l, i, e, s, m1, m2, m3, m4, m5, m6⟩ := h4 k c hc
  exact ⟨by rw [(na 45 (by omega) (by omega) (by omega) (by omega)).1]; exact e45, by rw [(na 46 (by omega) (by omega) (by omega) (by omega)).1]; exact e46, by rw [(na 49 (by omega) (by omega) (by omega) (by omega)).1]; exact e49, ok, lf, fun h3 => c_Lf_iv (llf h3) (na (53 + k) (by omega) (by omega) (by omega) (by omega)).1 hl, mi, l, i, e, s, m1, by rw [(na 47 (by omega) (by omega) (by omega) (by omega)).2, n16]; exact m2, by rw [(na 48 (by omega) (by omega) (by omega) (by omega)).1]; exact m3, m4, m5, m6⟩
theorem w_tl_in (h : w ∈ mk) : w_tl mk w = mk := if_pos h
/-- what the head of a commit reads -/
def c_hq (H : sw_H) (mk : List Wt) (nn : Nat) (K : Wt → Prop) (tl : List Wt) (cn cs : Int) (tp : List Wt) (rd : Nat → Int) (ms : List (List Wt)) (K' : Wt → Prop) (L : List w_Ch) : Prop := c_W H mk nn K tl cn cs ∧ c_X H mk tp rd ms ∧ c_ci H mk K' ms L ∧ sw_ty H 44 = 24 ∧ sw_ln H 1421 = 1400 ∧ sw_ty H 1420 = 80
theorem c_hq_ch (h : c_hq H mk nn K tl cn cs tp rd ms K' L) (hW : c_W G mm nn K tl cn cs) (c : c_ch A H G) (hl : w_le mk mm) (hA : ∀ a ∈ A, (3 < a ∧ a < 44) ∨ (84 < a ∧ a < 1416) ∨ (1420 ≤ a ∧ a ≤ 1491)) : c_hq G mm nn K tl cn cs tp rd ms K' L := by
  obtain ⟨h1, h2, h3, h4, h5, h6⟩ := h
  have fl := h1.1.2.2.2.1
  have ad := h1.1.2.2.2.2
  exact ⟨hW, c_X_ch h1.1 h2 c hW.1 hl (fun a ha => by have := hA a ha; omega), c_ci_ch h3 fl ad c (fun a ha => by have := hA a ha; omega) (fun cc => by have := hA _ cc; omega) hl, by rw [(c_fx_ty fl c (q := 44) (by unfold c_fix; omega)).1]; exact h4, by rw [(c_fx_ty fl c (q := 1421) (by unfold c_fix; omega)).2]; exact h5, by rw [(c_fx_ty fl c (q := 1420) (by unfold c_fix; omega)).1]; exact h6⟩
/-- a CONTENT has its size by its kind -/
theorem p_ct_sz {K : Wt → Prop} {l : List Wt} {i e : Nat} {s : Nat × Nat} {v : p_C} (h : p_ct K l (some (i, e)) = some (v, s)) : (v.1 = 1 ∧ s.1 = i + 12) ∨ (v.1 = 2 ∧ s.1 = i + 7) ∨ (v.1 = 3 ∧ s.1 = i + 3) := by
  obtain ⟨kd, ⟨ik, lf, g⟩, n⟩ := v
  obtain ⟨_, x2, hx⟩ := p_ct_ix h
  rcases hx with ⟨a, es, _⟩ | ⟨a, es, _⟩ | ⟨a, es, _⟩
  · exact Or.inl ⟨a, by rw [es]⟩
  · exact Or.inr (Or.inl ⟨a, by rw [es]⟩)
  · exact Or.inr (Or.inr ⟨a, by rw [es]⟩)
theorem w_sli_sz {l : List Wt} {i sz : Nat} {v : p_C} (hok : p_cok v) (e : w_sli l i (i + sz) = w_ctw v) (h : i + sz ≤ l.length) : sz ≤ 12 := by
  have a := w_sli_len (i := i) h
  rw [e] at a
  have b := w_ctw_len hok
  rw [a, Nat.add_sub_cancel_left] at b
  exact b
theorem c_wch_23 {lf : Nat} (lm : c_lm cn cs N U M) (bd : c_bl mk tl N U M) (hgr : 96 ≤ g ∧ g ≤ 1415) (hlf : sw_iv H g 3 = (lf : Nat)) (hH : ∀ c ∈ L, c.2.2 ≠ [] ∧ c.2.2 ∈ mk) (hvl : ∀ p ∈ ms, w_vl p) (hlen : l0.length ≤ 100) (hfl : c_full H) (had : c_ads H)
    (q : ∀ J, c_hq J mk nn K tl cn cs tp rd ms K' L → c_rr J mk 1420 1421 (l0 ++ w_b16 ((w_pps lf L).length : Nat) ++ w_pps lf L) → c_ch [1420, 1421] H J → Q J) :
    ∀ (n k : Nat) {G : sw_H}, c_hq G mk nn K tl cn cs tp rd ms K' L → c_rr G mk 1420 1421 (l0 ++ w_b16 0 ++ w_pps lf (L.take k)) → c_ch [1420, 1421] H G → k ≤ L.length → L.length - k < n → wl_181_23 Q n 2 g ((l0.length + 2 : Nat) : Int) k G
  | 0, _, _, _, _, _, _, h => by omega
  | n + 1, k, G, hq, hr, cG, hk, hn => by
    obtain ⟨W, Xx, ci, t44, ln, t20⟩ := id hq
    obtain ⟨⟨c0, c3, c4, c5, c6, c7, c8, c9, c12, ct, c47, c51, c52, clf⟩, i2, i3, i4⟩ := id ci
    have O := Xx.1
    obtain ⟨o0, o1, o2, o3, o4, o5, o6, o7, o8, o9, o10, o11, o12, o13⟩ := O
    have ml := c_W_len lm bd
    have fl := W.1.2.2.2.1
    have ad := W.1.2.2.2.2
    have g3 : sw_iv G g 3 = (lf : Nat) := by rw [(c_fx_iv hfl had cG (q := g) (by unfold c_fix; omega) (by simp; omega)).1 3]; exact hlf
    have hok : ∀ c ∈ L, p_cok c.1 := fun c hc => by
      obtain ⟨j, hj⟩ := List.getElem?_of_mem hc
      exact (i4 j c hj).2.2.2.1
    have ppl := w_pps_len (lf := (lf : Int)) hok k hk
    have l2 : (w_b16 0).length = 2 := rfl
    have fxo : ∀ a ∈ [1420, 1421], c_fix a := fun a ha => by simp at ha; unfold c_fix; omega
    have fxo2 : ∀ a ∈ [1420, 1421], c_fix a ∧ (15 < a ∨ a = 2) := fun a ha => by simp at ha; unfold c_fix; omega
    have oA : ∀ a ∈ [1420, 1421], (3 < a ∧ a < 44) ∨ (84 < a ∧ a < 1416) ∨ (1420 ≤ a ∧ a ≤ 1491) := fun a ha => by simp at ha; omega
    unfold wl_181_23
    rw [o8]
    refine ⟨t44, ?_⟩
    intro q5 e5 v8 e8 _
    rw [e5, i2] at e8
    subst e8
    refine ⟨fun c => ?_, fun c => ?_⟩
    · have ek : k = L.length := by omega
      rw [ek, List.take_length] at hr
      rw [ek, List.take_length] at ppl
      rw [o11]
      refine ⟨t20, ?_⟩
      intro q11 e11
      rw [e11]
      refine c_endRow hr (by omega) rfl (fun Z rZ fZ => ?_)
      intro _
      have cZ := c_V_ch W.1 fZ fxo
      exact q Z (c_hq_ch hq (c_W_fr W fZ fxo2) cZ (w_le_refl _) oA) rZ (c_ch_t cG cZ)
    · obtain ⟨d, hd⟩ := h_get (L := L) (k := k) (by omega)
      obtain ⟨e45, e46, e49, ok, lfl, llf, mi, l, i, e, s, m1, m2, m3, m4, m5, m6⟩ := i4 k d hd
      obtain ⟨hh1, hh2⟩ := hH d (List.mem_of_getElem? hd)
      obtain ⟨M1, M2, M3⟩ := Xx.2.2.2
      obtain ⟨r1, r2, r3, ra, r4, r5, r6⟩ := M3 mi l m1
      have t80 : sw_ty G (sw_rv G 47 k) = 80 := by rw [m2]; exact (r6.choose_spec).1.1
      have tks : w_pps lf (L.take (k + 1)) = w_pps lf (L.take k) ++ w_pp1 lf d := w_pps_s hd
      have lk : k < 32 := by omega
      -- on with the next
      have stp : ∀ {Z : sw_H}, c_hq Z mk nn K tl cn cs tp rd ms K' L → c_rr Z mk 1420 1421 (l0 ++ w_b16 0 ++ w_pps lf (L.take k) ++ w_pp1 lf d) → c_ch [1420, 1421] G Z → wb_181_81 Q (wl_181_23 Q n) 2 g ((l0.length + 2 : Nat) : Int) k Z := fun {Z} hZ rZ cZ => by
        unfold wb_181_81
        intro y1 ey
        rw [sw_s1 (by omega)] at ey
        subst ey
        exact c_wch_23 lm bd hgr hlf hH hvl hlen hfl had q n (k + 1) hZ (by rw [tks, ← List.append_assoc]; exact rZ) (c_ch_t cG cZ) (by omega) (by omega)
      refine ⟨t44, ?_⟩
      intro q19 e19
      rw [e19, c4]
      refine ⟨(ct 46 (by omega)).1, ?_⟩
      intro q22 e22
      rw [e22]
      refine ⟨by omega, by rw [(ct 46 (by omega)).2]; omega, ?_⟩
      intro v25 e25 _ v28 e28 _
      rw [Int.toNat_natCast, e46] at e25
      rw [g3] at e28
      subst e25 e28
      refine ⟨fun c2 => ?_, fun c2 => ?_⟩
      · -- by its HASH
        have ep : w_pp1 lf d = [w_by 1, w_hs l] := by
          unfold w_pp1
          rw [if_neg c2, m6 hh1]
          rfl
        rw [o11]
        refine ⟨t20, ?_⟩
        intro q31 e31
        rw [e31]
        refine c_s_byte (x := 1) hr (by rw [ln, List.length_append, List.length_append, l2]; omega) (by decide) (by decide) (fun Z rZ fZ => ?_)
        intro _
        have cZ := c_V_ch W.1 fZ fxo
        have WZ := c_W_fr W fZ fxo2
        have hZ := c_hq_ch hq WZ cZ (w_le_refl _) oA
        have rv := fZ.2.2.2.2.1
        have ty := fZ.2.2.1
        have lnq := fZ.2.2.2.1
        rw [rv 2 11, o11]
        refine ⟨by rw [ty]; exact t20, ?_⟩
        intro q39 e39
        rw [rv 2 1, o2]
        refine ⟨WZ.2.1.1, ?_⟩
        intro q42 e42
        rw [rv 2 8, o8]
        refine ⟨by rw [ty]; exact t44, ?_⟩
        intro q45 e45'
        rw [e45', rv 44 5, c5]
        refine ⟨by rw [ty]; exact c47.1, ?_⟩
        intro q48 e48
        rw [e48]
        refine ⟨by omega, by rw [lnq, c47.2]; omega, ?_⟩
        rw [Int.toNat_natCast, rv 47 k]
        refine ⟨by rw [ty]; exact t80, ?_⟩
        intro q51 e51
        rw [e51, e42, m2]
        obtain ⟨M1', M2', M3'⟩ := hZ.2.1.2.2.2
        obtain ⟨r1', r2', r3', ra', r4', r5', r6'⟩ := M3' mi l m1
        rw [rv 1416 mi] at r2' r6'
        refine c_hashM lm WZ r6' r2' r5' (by omega) bd (fun zh X WX aX cX => ?_)
        have ein : w_hs l ∈ mk := by have := m6 hh1; rw [this] at hh2; exact hh2
        rw [w_tl_in ein] at WX aX
        intro _ _
        have hX := c_hq_ch hZ WX cX (w_le_refl _) (by simp)
        have rX := c_rr_ch WZ.1 rZ cX WX.1 (w_le_refl _) (by simp) (by simp)
        rw [e39]
        refine c_s_term rX (by rw [hX.2.2.2.2.1, List.length_append, List.length_append, List.length_append, l2, List.length_singleton]; omega) (by omega) aX (fun Y rY fY => ?_)
        intro _
        have cY := c_V_ch WX.1 fY fxo
        refine stp (c_hq_ch hX (c_W_fr WX fY fxo2) cY (w_le_refl _) oA) ?_ (c_ch_sub (c_ch_trans cZ (c_ch_trans cX cY)) (by simp))
        have ee : l0 ++ w_b16 0 ++ w_pps lf (L.take k) ++ [w_by 1] ++ [w_hs l] = l0 ++ w_b16 0 ++ w_pps lf (L.take k) ++ w_pp1 lf d := by rw [ep]; simp only [List.append_assoc, List.cons_append, List.nil_append]
        rw [ee] at rY
        exact rY
      · -- by its content
        have ep : w_pp1 lf d = w_by 2 :: w_ctw d.1 := by unfold w_pp1; rw [if_pos c2]
        obtain ⟨cw1, cw2, cw3⟩ := p_ct_w (hvl l (List.mem_of_getElem? m1)) m4 m5
        have cl := w_ctw_len ok
        have csz := p_ct_sz m5
        refine ⟨t44, ?_⟩
        intro q64 e64
        rw [e64, c6]
        refine ⟨(ct 48 (by omega)).1, ?_⟩
        intro q67 e67
        rw [e67]
        refine ⟨by omega, by rw [(ct 48 (by omega)).2]; omega, ?_⟩
        intro v70 e70 _
        rw [Int.toNat_natCast, m3] at e70
        subst e70
        rw [o11]
        refine ⟨t20, ?_⟩
        intro q76 e76
        rw [e76]
        refine c_s_byte (x := 2) hr (by rw [ln, List.length_append, List.length_append, l2]; omega) (by decide) (by decide) (fun Z rZ fZ => ?_)
        intro _
        have cZ := c_V_ch W.1 fZ fxo
        have WZ := c_W_fr W fZ fxo2
        have hZ := c_hq_ch hq WZ cZ (w_le_refl _) oA
        have rv := fZ.2.2.2.2.1
        have ty := fZ.2.2.1
        have lnq := fZ.2.2.2.1
        rw [rv 2 11, o11]
        refine ⟨by rw [ty]; exact t20, ?_⟩
        intro q84 e84
        rw [rv 2 8, o8]
        refine ⟨by rw [ty]; exact t44, ?_⟩
        intro q87 e87
        rw [e87, rv 44 5, c5]
        refine ⟨by rw [ty]; exact c47.1, ?_⟩
        intro q90 e90
        rw [e90]
        refine ⟨by omega, by rw [lnq, c47.2]; omega, ?_⟩
        rw [Int.toNat_natCast, rv 47 k]
        refine ⟨by rw [ty]; exact t80, ?_⟩
        intro q93 e93
        refine ⟨by rw [ty]; exact t44, ?_⟩
        intro q96 e96
        rw [e96, rv 44 3, c3]
        refine ⟨by rw [ty]; exact (ct 45 (by omega)).1, ?_⟩
        intro q99 e99
        rw [e99]
        refine ⟨by omega, by rw [lnq, (ct 45 (by omega)).2]; omega, ?_⟩
        intro v102 e102 _
        rw [fZ.2.2.2.2.2 45 (by simp), e45] at e102
        subst e102
        obtain ⟨M1', M2', M3'⟩ := hZ.2.1.2.2.2
        obtain ⟨r1', r2', r3', ra', r4', r5', r6'⟩ := M3' mi l m1
        rw [rv 1416 mi] at r6'
        have fin : ∀ sz : Nat, s.1 = i + sz → wm_64 q84 q93 (i : Int) (sw_w ((i : Int) + (sz : Int))) Z (fun H110 => sw_ext Z H110 → wb_181_81 Q (wl_181_23 Q n) 2 g ((l0.length + 2 : Nat) : Int) k H110) := fun sz es => by
          have ei : sw_w ((i : Int) + (sz : Int)) = ((i + sz : Nat) : Int) := by rw [sw_w_s (by omega) (by omega)]; omega
          rw [ei, e84, e93, m2]
          clear ei
          have h1 : i + sz ≤ l.length := by rw [← es]; exact cw3
          have hsz : sz ≤ 12 := w_sli_sz ok (by rw [← es]; exact cw1) h1
          refine c_s_putAll (i := i) (j := i + sz) rZ r6' (Nat.ne_of_lt (Nat.lt_trans (by decide) r4')) (Nat.le_add_right _ _) h1 (by rw [hZ.2.2.2.2.1, List.length_append, List.length_append, List.length_append, l2, List.length_singleton, Nat.add_sub_cancel_left]; clear cw1 cl csz es; omega) (fun Y rY fY => ?_)
          intro _
          have cY := c_V_ch WZ.1 fY fxo
          refine stp (c_hq_ch hZ (c_W_fr WZ fY fxo2) cY (w_le_refl _) oA) ?_ (c_ch_t cZ cY)
          have ee : l0 ++ w_b16 0 ++ w_pps lf (L.take k) ++ [w_by 2] ++ w_sli l i (i + sz) = l0 ++ w_b16 0 ++ w_pps lf (L.take k) ++ w_pp1 lf d := by rw [ep, ← es, cw1]; simp only [List.append_assoc, List.cons_append, List.nil_append]
          rw [ee] at rY
          exact rY
        unfold wm_287
        refine ⟨fun k1 => ⟨fun k2 => ?_, fun k2 => ?_⟩, fun k1 => ?_⟩
        · intro _ _
          exact fin 3 (by omega)
        · intro _ _
          exact fin 7 (by omega)
        · intro _ _
          exact fin 12 (by omega)
theorem c_writeCommitHead (lm : c_lm cn cs N U M) (bd : c_bl mk tl N U M) (hgr : 96 ≤ g ∧ g ≤ 1415) (he : sw_iv H g 2 = gg_ep G') (hlf : sw_iv H g 3 = (gg_lf G' : Nat)) (hH : ∀ c ∈ L, c.2.2 ≠ [] ∧ c.2.2 ∈ mk) (hvl : ∀ p ∈ ms, w_vl p) (hq : c_hq H mk nn K tl cn cs tp rd ms K' L) (hOut : c_Out H)
    (q : ∀ J, c_hq J mk nn K tl cn cs tp rd ms K' L → c_rr J mk 1420 1421 (w_ch0 G' L) → c_ch [1420, 1421] H J → Q J) : wm_181 2 g H Q := by
  obtain ⟨W, Xx, ci, t44, ln, t20⟩ := id hq
  have O := Xx.1
  obtain ⟨o0, o1, o2, o3, o4, o5, o6, o7, o8, o9, o10, o11, o12, o13⟩ := O
  have fl := W.1.2.2.2.1
  have ad := W.1.2.2.2.2
  have fxo : ∀ a ∈ [1420, 1421], c_fix a := fun a ha => by simp at ha; unfold c_fix; omega
  have fxo2 : ∀ a ∈ [1420, 1421], c_fix a ∧ (15 < a ∨ a = 2) := fun a ha => by simp at ha; unfold c_fix; omega
  have oA : ∀ a ∈ [1420, 1421], (3 < a ∧ a < 44) ∨ (84 < a ∧ a < 1416) ∨ (1420 ≤ a ∧ a ≤ 1491) := fun a ha => by simp at ha; omega
  unfold wm_181
  rw [o11]
  refine ⟨t20, ?_⟩
  intro q117 e117
  rw [e117]
  refine c_out_clear W hOut (fun A1 WA rA fA lA => ?_)
  intro _
  rw [fA.2.2.2.2.1 2 11, o11]
  refine ⟨by rw [fA.2.2.1]; exact t20, ?_⟩
  intro q125 e125
  rw [e125]
  refine c_s_byte (x := 3) rA (by rw [lA]; decide) (by decide) (by decide) (fun B1 rB fB => ?_)
  intro _
  have fB2 := c_fr_t fA fB
  rw [fB2.2.2.2.2.1 2 11, o11]
  refine ⟨by rw [fB2.2.2.1]; exact t20, ?_⟩
  intro q133 e133 v136 e136 _
  rw [fB2.2.2.2.2.2 g (by simp; omega), he] at e136
  subst e136
  rw [e133]
  refine c_s_b32 rB (by rw [fB2.2.2.2.1, ln]; simp) (fun C1 rC fC => ?_)
  intro _
  have fC2 := c_fr_t fB2 fC
  rw [fC2.2.2.2.2.1 2 11, o11]
  refine ⟨by rw [fC2.2.2.1]; exact t20, ?_⟩
  intro q144 e144 v147 e147 _
  rw [fC2.2.2.2.2.2 g (by simp; omega), hlf] at e147
  subst e147
  rw [e144]
  refine c_s_b16 rC (by rw [fC2.2.2.2.1, ln]; simp [w_b32, w_b16]) (fun D1 rD fD => ?_)
  intro _
  have fD2 := c_fr_t fC2 fD
  rw [fD2.2.2.2.2.1 2 11, o11]
  refine ⟨by rw [fD2.2.2.1]; exact t20, ?_⟩
  intro q155 e155
  rw [e155]
  obtain ⟨lh, elh⟩ : ∃ lh, lh = w_by 3 :: (w_b32 (gg_ep G') ++ w_b16 (gg_lf G')) := ⟨_, rfl⟩
  have lhl : lh.length = 7 := by rw [elh]; rfl
  have rD2 : c_rr D1 mk 1420 1421 lh := by rw [elh]; simpa using rD
  refine c_beginRow rD2 (by rw [fD2.2.2.2.1, ln]; omega) (fun E1 rE fE => ?_)
  intro _ _
  have fE2 := c_fr_t fD2 fE
  have WE := c_W_fr W fE2 fxo2
  have cE := c_V_ch W.1 fE2 fxo
  refine ⟨L.length + 1, c_wch_23 (H := H) lm bd hgr hlf hH hvl (by omega) fl ad (fun J hJ rJ cJ => q J hJ ?_ cJ) (L.length + 1) 0 (c_hq_ch hq WE cE (w_le_refl _) oA) ?_ cE (Nat.zero_le _) (by omega)⟩
  · have ee : lh ++ w_b16 ((w_pps (gg_lf G') L).length : Nat) ++ w_pps (gg_lf G') L = w_ch0 G' L := by rw [elh]; unfold w_ch0; simp only [List.append_assoc, List.cons_append]
    rw [ee] at rJ
    exact rJ
  · show c_rr E1 mk 1420 1421 (lh ++ w_b16 0 ++ [])
    rw [List.append_nil]
    exact rE
end
