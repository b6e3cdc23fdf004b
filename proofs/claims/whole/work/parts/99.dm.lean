/-! ===== the class: propose: what is proposed ===== -/
noncomputable section
variable {H Z X Y : sw_H} {nn nm r ra g m n : Nat} {K K' S : Wt → Prop} {tl tl' tp mk mm l lp b : List Wt} {ms : List (List Wt)} {rd : Nat → Int} {a c x y cn cs cn' cs' N U M kd of : Int} {Q : sw_H → Prop} {P : Int → sw_H → Prop} {A B : List Nat} {w h : Wt} {La : Nat → List (Wt × Nat)} {L : List (Wt × Nat)} {G' : w_G} {Ul : List (Wt × Wt)}
theorem c_sg_vl (hL : c_L H mk nn K tl) (h : c_sg H (w_d mk) r ra l) : w_vl l := by
  obtain ⟨s, hs, hv, hm⟩ := h
  intro i w hi hw
  rw [← hm, List.getElem?_map, Option.map_eq_some_iff] at hi
  obtain ⟨y, hy, ey⟩ := hi
  have vy := hv y (List.mem_of_getElem? hy)
  unfold m_vs at vy
  by_cases c : y < 256
  · refine ⟨y, vy.1, c, ?_⟩
    rw [← ey]
    unfold w_sg
    rw [if_pos c]
    rfl
  · exfalso
    unfold w_sg at ey
    rw [if_neg c] at ey
    rw [← ey] at hw
    exact c_head hL.1.1 ⟨by omega, by omega⟩ hw
theorem c_rr_fr (h : c_rr H mk r ra l) (f : c_fr A H Z) (h1 : r ∉ A) (h2 : ra ∉ A) (h3 : 3 ∉ A) : c_rr Z mk r ra l := by
  obtain ⟨s1, s2, s3, s4⟩ := h
  exact ⟨c_sg_fr s1 f h1 h2 h3, s2, s3, by unfold c_n; rw [f.2.2.2.2.2 3 h3]; exact s4⟩
/-- member m's cell and its arrays that stay have changed -/
theorem c_BS_mem (h : c_BS H mk nn K tl cn cs tp rd ms La) (hm : m < 24) (f : c_fr A H Z) (hA : ∀ a ∈ A, a = 120 + 54 * m ∨ (120 + 54 * m + 49 ≤ a ∧ a ≤ 120 + 54 * m + 53)) (hi : ∀ f, f < 3 ∨ f = 9 → sw_iv Z (120 + 54 * m) f = sw_iv H (120 + 54 * m) f) : c_BS Z mk nn K tl cn cs tp rd ms La := by
  obtain ⟨h1, h2, h3, h4⟩ := h
  have fl := h1.1.2.2.2.1
  have ad := h1.1.2.2.2.2
  have hW : c_W Z mk nn K tl cn cs := c_W_fr h1 f (fun a ha => by have := hA a ha; unfold c_fix; omega)
  have k := c_V_ch h1.1 f (fun a ha => by have := hA a ha; unfold c_fix; omega)
  have other : ∀ m', m' < 24 → m' ≠ m → 120 + 54 * m' ∉ A := fun m' hm' hne c => by have := hA _ c; omega
  refine ⟨hW, c_X_ch h1.1 h2 k hW.1 (w_le_refl _) (fun a ha => by have := hA a ha; omega), c_MS_ch h3 fl ad k (fun c => by have := hA _ c; omega) (fun m' hm' c f' hf' => ?_) (w_le_refl _), c_KS_ch h1.1 h2 h4 k (w_le_refl _) (fun c => by have := hA _ c; omega) (fun m' hm' => ?_) (fun i hi c => ?_)⟩
  · by_cases em : m' = m
    · rw [em]; exact hi f' (Or.inl hf')
    · exact absurd c (other m' hm' em)
  · obtain ⟨kp, _⟩ := h4.1 m' hm'
    refine ⟨?_, f.2.2.2.2.1 _ _, f.2.2.2.2.1 _ _, fun c => ?_, fun c => ?_⟩
    · by_cases em : m' = m
      · rw [em]; exact hi 9 (Or.inr rfl)
      · rw [f.2.2.2.2.2 _ (other m' hm' em)]
    · have := hA _ c
      have := kp.2.2.2.2.2.1
      omega
    · have := hA _ c
      have := kp.2.2.2.2.2.2
      omega
  · obtain ⟨l, hl⟩ : ∃ l, ms[i]? = some l := ⟨ms[i]'hi, List.getElem?_eq_getElem hi⟩
    obtain ⟨g1, _⟩ := h2.2.2.2.2.2 i l hl
    have := hA _ c
    omega
theorem c_keepUpdate {n : Nat} (hma : c_ma H m) (hn : sw_iv H (120 + 54 * m) 11 = n) (h20 : n < 20) (q : ∀ G, c_fr [120 + 54 * m, 120 + 54 * m + 49] H G → (∀ f, sw_iv G (120 + 54 * m) f = if f = 11 then (n : Int) + 1 else sw_iv H (120 + 54 * m) f) → (∀ i, sw_iv G (120 + 54 * m + 49) i = if i = n then x else sw_iv H (120 + 54 * m + 49) i) → Q G) : wm_273 (120 + 54 * m) x H Q := by
  obtain ⟨r10, _, _, _, _, ⟨t49, l49⟩, _⟩ := hma
  unfold wm_273
  intro v1 e1 _
  rw [hn] at e1
  rw [r10]
  refine ⟨t49, ?_⟩
  intro q4 e4 v7 e7 _
  rw [e4, l49] at e7
  refine ⟨fun c => by omega, fun c => ⟨t49, ?_⟩⟩
  intro q10 e10 v13 e13 _
  rw [hn] at e13
  rw [e10, e13]
  refine ⟨by omega, by rw [l49]; omega, ?_⟩
  intro H16 e16
  rw [Int.toNat_natCast] at e16
  have f16 : c_fr [120 + 54 * m + 49] H H16 := by rw [e16]; exact c_fr_si _ _ _ _
  intro v19 e19 _
  rw [f16.2.2.2.2.2 _ (by simp), hn] at e19
  intro H22 e22
  rw [e19, sw_w_s (by omega) (by omega)] at e22
  have f22 : c_fr [120 + 54 * m] H16 H22 := by rw [e22]; exact c_fr_si _ _ _ _
  refine q H22 (c_fr_sub (c_fr_trans f16 f22) (by simp)) (fun f => ?_) (fun i => ?_)
  · rw [e22, sw_iv_si]
    by_cases c : f = 11
    · rw [if_pos ⟨rfl, c⟩, if_pos c]
    · rw [if_neg (fun e => c e.2), if_neg c, f16.2.2.2.2.2 _ (by simp)]
  · rw [f22.2.2.2.2.2 _ (by simp), e16, sw_iv_si]
    by_cases c : i = n
    · rw [if_pos ⟨rfl, c⟩, if_pos c]
    · rw [if_neg (fun e => c e.2), if_neg c]
theorem c_up_ch (h : c_up H mk m Ul) (hm : m < 24) (fl : c_full H) (ad : c_ads H) (k : c_ch A H Z) (h1 : 120 + 54 * m ∈ A → sw_iv Z (120 + 54 * m) 11 = sw_iv H (120 + 54 * m) 11) (h2 : 120 + 54 * m + 49 ∉ A) (hl : w_le mk mm) : c_up Z mm m Ul := by
  obtain ⟨u1, u2, u3⟩ := h
  have e1 : sw_iv Z (120 + 54 * m) 11 = sw_iv H (120 + 54 * m) 11 := by
    by_cases c : 120 + 54 * m ∈ A
    · exact h1 c
    · exact (c_fx_iv fl ad k (by unfold c_fix; omega) c).1 11
  refine ⟨by rw [e1]; exact u1, u2, fun i h v hi => ?_⟩
  rw [(c_fx_iv fl ad k (q := 120 + 54 * m + 49) (by unfold c_fix; omega) h2).1 i]
  exact w_le_at hl (u3 i h v hi)
/-- ADD and REMOVE -/
theorem c_wc_13 (hml : mk.length ≤ 999999999) (hB : c_BS H mk nn K tl cn cs tp rd ms La) (hr : c_rr H mk 1420 1421 b) (hln : sw_ln H 1421 = 1400) (hb : b.length ≤ 100) (hk : (kd = 1 ∧ 0 ≤ of ∧ ms[of.toNat]? = some lp ∧ lp.length ≤ 1000) ∨ kd = 3) (q : ∀ G, c_W G mk nn K tl cn cs → c_rr G mk 1420 1421 (b ++ (w_by kd :: (if kd = 1 then w_b16 lp.length ++ lp else w_b16 of))) → c_fr [1420, 1421] H G → Q G) : wm_171 2 m kd of H Q := by
  obtain ⟨hW, hX, hMS, hK⟩ := id hB
  have O := hX.1
  have o11 : sw_rv H 2 11 = 1420 := O.2.2.2.2.2.2.2.2.2.2.2.1
  have o3 : sw_rv H 2 3 = 1416 := O.2.2.2.2.1
  have t1416 : sw_ty H 1416 = 81 ∧ sw_ln H 1416 = 300 := O.2.2.2.2.2.2.2.2.2.2.2.2.2
  have t1420 : sw_ty H 1420 = 80 := (c_rr_row hr).choose_spec.1.1
  unfold wm_171
  rw [o11]
  refine ⟨t1420, ?_⟩
  intro q1 e1
  rw [e1]
  refine c_s_byte hr (by omega) (by omega) (by omega) (fun G1 R1 F1 _ => ?_)
  have W1 := c_W_fr hW F1 (by unfold c_fix; simp)
  refine ⟨fun c1 => ⟨fun c2 => ?_, fun c2 => by omega⟩, fun c1 => ?_⟩
  · have k3 : kd = 3 := by
      rcases hk with h | h
      · exact absurd h.1 c1
      · exact h
    rw [F1.2.2.2.2.1, o11]
    refine ⟨by rw [F1.2.2.1]; exact t1420, ?_⟩
    intro q9 e9
    rw [e9]
    refine c_s_b16 R1 (by rw [F1.2.2.2.1, hln, List.length_append]; simp; omega) (fun G2 R2 F2 _ => q G2 (c_W_fr W1 F2 (by unfold c_fix; simp)) ?_ (c_fr_t F1 F2))
    rw [if_neg c1]
    have : b ++ (w_by kd :: w_b16 of) = b ++ [w_by kd] ++ w_b16 of := by simp
    rw [this]
    exact R2
  · have hk1 : 0 ≤ of ∧ ms[of.toNat]? = some lp ∧ lp.length ≤ 1000 := by
      rcases hk with h | h
      · exact h.2
      · omega
    obtain ⟨of0, hlp, lp1⟩ := hk1
    have olt := (List.getElem?_eq_some_iff.mp hlp).1
    have m300 := hX.2.2.2.2.1
    obtain ⟨g1, g2, g3, a', g4, g5, hsg⟩ := hX.2.2.2.2.2 of.toNat lp hlp
    have rw0 : sw_rv H (sw_rv H 1416 of.toNat) 0 = a' := hsg.choose_spec.1.2.1
    have t80 : sw_ty H (sw_rv H 1416 of.toNat) = 80 := hsg.choose_spec.1.1
    rw [F1.2.2.2.2.1, o11]
    refine ⟨by rw [F1.2.2.1]; exact t1420, ?_⟩
    intro q50 e50
    rw [e50]
    refine c_beginRow R1 (by rw [F1.2.2.2.1, hln, List.length_append]; simp; omega) (fun G2 R2 F2 _ _ => ?_)
    have F12 := c_fr_t F1 F2
    rw [F12.2.2.2.2.1, o11]
    refine ⟨by rw [F12.2.2.1]; exact t1420, ?_⟩
    intro q61 e61
    rw [F12.2.2.2.2.1, o3]
    refine ⟨by rw [F12.2.2.1]; exact t1416.1, ?_⟩
    intro q64 e64
    rw [e64]
    refine ⟨of0, by rw [F12.2.2.2.1, t1416.2]; omega, ?_⟩
    rw [F12.2.2.2.2.1]
    refine ⟨by rw [F12.2.2.1]; exact t80, ?_⟩
    intro q67 e67
    refine ⟨by rw [F12.2.2.1]; exact t1416.1, ?_⟩
    intro q70 e70
    rw [e70]
    refine ⟨of0, by rw [F12.2.2.2.1, t1416.2]; omega, ?_⟩
    rw [F12.2.2.2.2.1]
    refine ⟨by rw [F12.2.2.1]; exact t80, ?_⟩
    intro q73 e73 v76 e76 _
    have sg2 : c_sg G2 (w_d mk) (sw_rv H 1416 of.toNat) a' lp := c_sg_fr hsg F12 (by simp; omega) (by simp; omega) (by decide)
    rw [e73, (c_sg_len sg2).1] at e76
    rw [e61, e67, e76]
    refine c_s_putAll (i := 0) (j := lp.length) R2 sg2 (by omega) (by omega) (Nat.le_refl _) (by rw [F12.2.2.2.1, hln]; simp [w_b16]; omega) (fun G3 R3 F3 _ => ?_)
    have F13 := c_fr_t F12 F3
    rw [F13.2.2.2.2.1, o11]
    refine ⟨by rw [F13.2.2.1]; exact t1420, ?_⟩
    intro q84 e84
    rw [e84]
    have sl : w_sli lp 0 lp.length = lp := by unfold w_sli; simp
    rw [sl] at R3
    refine c_endRow (l1 := b ++ [w_by kd]) (l2 := lp) (x0 := 0) R3 (by omega) rfl (fun G4 R4 F4 _ => ?_)
    have F14 := c_fr_t F13 F4
    refine q G4 (c_W_fr hW F14 (by unfold c_fix; simp)) ?_ F14
    rw [if_pos c1]
    have : b ++ (w_by kd :: (w_b16 lp.length ++ lp)) = b ++ [w_by kd] ++ w_b16 lp.length ++ lp := by simp
    rw [this]
    exact R4
/-- UPDATE -/
theorem c_wc_2 (hm : m < 24) (lm : c_lm cn cs N U M) (hB : c_BS H mk nn K tl cn cs tp rd ms La) (h48 : sw_ty H 1422 = 48) (hma : c_ma H m) (hup : c_up H mk m Ul) (hu20 : Ul.length < 20) (hin : sw_iv H (120 + 54 * m) 3 = 1) (hg : c_gp H mk (sw_rv H (120 + 54 * m) 4) G') (hpl : c_pl (sw_rv H (120 + 54 * m) 4)) (hr : c_rr H mk 1420 1421 b) (hln : sw_ln H 1421 = 1400) (hb : b.length ≤ 100) (bd : c_bl (w_tl (w_tl (w_tl mk (w_nm nn)) (w_ky nn)) (w_lsg m (w_ky nn) 2 [] (gg_lf G'))) tl N U M) (q : ∀ G, c_BS G (w_tl (w_tl (w_tl mk (w_nm nn)) (w_ky nn)) (w_lsg m (w_ky nn) 2 [] (gg_lf G'))) (nn + 1) K tl cn cs tp rd ms La → c_rr G (w_tl (w_tl (w_tl mk (w_nm nn)) (w_ky nn)) (w_lsg m (w_ky nn) 2 [] (gg_lf G'))) 1420 1421 (b ++ (w_by 2 :: (w_lh m (w_ky nn) (w_pub m) 2 [] ++ [w_lsg m (w_ky nn) 2 [] (gg_lf G')]))) → (∀ hh, c_up G (w_tl (w_tl (w_tl mk (w_nm nn)) (w_ky nn)) (w_lsg m (w_ky nn) 2 [] (gg_lf G'))) m (Ul ++ [(hh, w_nm nn)])) → (∀ f, f ≠ 11 → sw_iv G (120 + 54 * m) f = sw_iv H (120 + 54 * m) f) → (∀ f, sw_rv G (120 + 54 * m) f = sw_rv H (120 + 54 * m) f) → c_ch [1420, 1421, 14, 15, 1422, 120 + 54 * m, 120 + 54 * m + 49] H G → Q G) : wm_171 2 (120 + 54 * m) 2 of H Q := by
  have b2 := c_bl_le (w_le_tl _ _) bd
  have b1 := c_bl_le (w_le_tl _ _) b2
  have b0 := c_bl_le (w_le_tl _ _) b1
  obtain ⟨hW, hX, hMS, hK⟩ := id hB
  have fl := hW.1.2.2.2.1
  have ad := hW.1.2.2.2.2
  have O := hX.1
  have o11 : sw_rv H 2 11 = 1420 := O.2.2.2.2.2.2.2.2.2.2.2.1
  have o12 : sw_rv H 2 12 = 1422 := O.2.2.2.2.2.2.2.2.2.2.2.2.1
  have o0 : sw_rv H 2 0 = 3 := O.2.1
  have t1420 : sw_ty H 1420 = 80 := (c_rr_row hr).choose_spec.1.1
  obtain ⟨pl1, pl2⟩ := c_pl_b hpl
  unfold wm_171
  rw [o11]
  refine ⟨t1420, ?_⟩
  intro q1 e1
  rw [e1]
  refine c_s_byte hr (by omega) (by omega) (by omega) (fun G1 R1 F1 _ => ?_)
  have W1 := c_W_fr hW F1 (by unfold c_fix; simp)
  have B1 := c_BS_fr hB W1 F1 (by unfold c_hl; simp)
  have C1 := c_V_ch hW.1 F1 (by unfold c_fix; simp)
  refine ⟨fun c1 => ⟨fun c2 => absurd rfl c2, fun c2 => ?_⟩, fun c1 => absurd c1 (by decide)⟩
  rw [F1.2.2.2.2.1, o0]
  refine ⟨W1.1.1.1.1.1.1, ?_⟩
  intro q17 e17
  rw [e17]
  refine c_nameL lm W1.1 b0 (fun G2 t2 V2 a2 c2 _ _ => ?_)
  have W2 := c_W_ch W1 V2 c2 (by simp) (w_le_tl _ _)
  have B2 := c_BS_ch B1 W2 c2 (w_le_tl _ _) (by simp)
  have R2 := c_rr_chN W1.1 R1 c2 V2 (w_le_tl _ _) (by simp) (by simp)
  have c12 : c_ch [1420, 1421] H G2 := c_ch_sub (c_ch_trans C1 c2) (by simp)
  have mv2 := c_fx_iv fl ad c12 (q := 120 + 54 * m) (by unfold c_fix; omega) (by simp; omega)
  have gv2 := c_fx_iv fl ad c12 (q := sw_rv H (120 + 54 * m) 4) (by unfold c_fix; omega) (by simp; omega)
  have ty2 : ∀ a, 1 ≤ a → a ≤ 1491 → sw_ty G2 a = sw_ty H a ∧ sw_ln G2 a = sw_ln H a := fun a h1 h2 => c12.1.2 a (fl a h1 h2)
  refine c_writeLeaf (so := 2) (num := (gg_lf G' : Int)) lm W2 B2.2.1.1 B2.2.2.1 (by rw [(ty2 1422 (by decide) (by decide)).1]; exact h48) hm a2 (Or.inr rfl) (Or.inr ⟨by rw [mv2.1, hin]; decide, by rw [mv2.2, (ty2 _ (by omega) (by omega)).1]; exact hg.1.2.2.1, by rw [mv2.2]; unfold c_fix; omega, by rw [mv2.2]; omega, by rw [mv2.2]; omega, by rw [mv2.2, gv2.1]; exact hg.2.2.2.1⟩) bd (fun G3 W3 lf3 a3 c3 _ => ?_)
  have e3 : w_le (w_tl mk (w_nm nn)) (w_tl (w_tl (w_tl mk (w_nm nn)) (w_ky nn)) (w_lsg m (w_ky nn) 2 [] (gg_lf G'))) := w_le_trans (w_le_tl _ _) (w_le_tl _ _)
  have B3 := c_BS_ch B2 W3 c3 e3 (by unfold c_hl; simp)
  have R3 := c_rr_ch W2.1 R2 c3 W3.1 e3 (by decide) (by decide)
  have c13 : c_ch [1420, 1421, 14, 15, 1422] H G3 := c_ch_sub (c_ch_trans c12 c3) (by simp)
  have ty3 : ∀ a, 1 ≤ a → a ≤ 1491 → sw_ty G3 a = sw_ty H a ∧ sw_ln G3 a = sw_ln H a := fun a h1 h2 => c13.1.2 a (fl a h1 h2)
  have O3 := B3.2.1.1
  rw [show sw_rv G3 2 12 = 1422 from O3.2.2.2.2.2.2.2.2.2.2.2.2.1]
  refine ⟨by rw [(ty3 1422 (by decide) (by decide)).1]; exact h48, ?_⟩
  intro q33 e33
  rw [show sw_rv G3 2 11 = 1420 from O3.2.2.2.2.2.2.2.2.2.2.2.1]
  refine ⟨by rw [(ty3 1420 (by decide) (by decide)).1]; exact t1420, ?_⟩
  intro q36 e36
  rw [e33, e36]
  have ml := c_W_len lm bd
  refine c_writeTo (z := 1) (sg := w_lsg m (w_ky nn) 2 [] (gg_lf G')) W3.1.1 ml R3 (by rw [(ty3 1421 (by decide) (by decide)).2, hln, List.length_append]; simp; omega) lf3 (fun _ => a3) (by decide) (fun G4 R4 F4 _ => ?_)
  rw [if_pos (by decide)] at R4
  have W4 := c_W_fr W3 F4 (by unfold c_fix; simp)
  have B4 := c_BS_fr B3 W4 F4 (by unfold c_hl; simp)
  have c14 : c_ch [1420, 1421, 14, 15, 1422] H G4 := c_ch_sub (c_ch_trans c13 (c_V_ch W3.1 F4 (by unfold c_fix; simp))) (by simp)
  have mv4 := c_fx_iv fl ad c14 (q := 120 + 54 * m) (by unfold c_fix; omega) (by simp; omega)
  have ma4 : c_ma G4 m := c_ma_ch hma hm fl ad c14 (fun c => by simp at c; omega)
  have up4 : c_up G4 _ m Ul := c_up_ch hup hm fl ad c14 (fun c => by simp at c; omega) (by simp; omega) (w_le_trans (w_le_tl mk (w_nm nn)) e3)
  refine c_keepUpdate (n := Ul.length) ma4 up4.1 hu20 (fun G5 F5 i5 j5 _ => ?_)
  have B5 := c_BS_mem B4 hm F5 (by simp) (fun f hf => by rw [i5, if_neg (by omega)])
  have R5 := c_rr_fr R4 F5 (by simp; omega) (by simp; omega) (by simp; omega)
  refine q G5 B5 ?_ (fun hh => ⟨?_, ?_, fun i h v hi => ?_⟩) (fun f hf => by rw [i5, if_neg hf, mv4.1]) (fun f => by rw [F5.2.2.2.2.1, mv4.2]) (c_ch_sub (c_ch_trans c14 (c_V_ch W4.1 F5 (by unfold c_fix; simp; omega))) (by simp))
  · have : b ++ (w_by 2 :: (w_lh m (w_ky nn) (w_pub m) 2 [] ++ [w_lsg m (w_ky nn) 2 [] (gg_lf G')])) = b ++ [w_by 2] ++ w_lh m (w_ky nn) (w_pub m) 2 [] ++ [w_lsg m (w_ky nn) 2 [] (gg_lf G')] := by simp
    rw [this]
    exact R5
  · rw [i5, if_pos rfl, List.length_append]; simp
  · rw [List.length_append]; simp; omega
  · rw [j5]
    by_cases ci : i < Ul.length
    · rw [List.getElem?_append_left ci] at hi
      rw [if_neg (by omega)]
      exact up4.2.2 i h v hi
    · have ei : i = Ul.length := by
        have := (List.getElem?_eq_some_iff.mp hi).1
        rw [List.length_append] at this
        simp at this
        omega
      subst ei
      rw [List.getElem?_append_right (by omega), Nat.sub_self] at hi
      have hi := Option.some.inj hi
      rw [Prod.mk.injEq] at hi
      rw [if_pos rfl, ← hi.2]
      exact w_le_at e3 a2
end
