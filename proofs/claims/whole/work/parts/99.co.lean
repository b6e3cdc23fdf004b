/-! ===== the class: what is signed and tagged with a group's context ===== -/
noncomputable section
variable {H Z X Y : sw_H} {nn nm r ra g m r2 b2 : Nat} {K K' S : Wt → Prop} {tl mk mm l l2 L : List Wt} {a b c x y n mo so cn cs N U M : Int} {Q : sw_H → Prop} {P : Int → sw_H → Prop} {A B : List Nat} {w wk ky sk ph sg : Wt} {G' : w_G}
/-- a group's context -/
def w_cx (G : w_G) : List Wt := w_ctx (gg_T G) (gg_ep G) (gg_cf G)
theorem w_cx_len (G : w_G) : (w_cx G).length = 6 := rfl
/-- a group's key of membership -/
def w_mem (G : w_G) : Wt := w_t 3 (gg_es G) [3] [] []
theorem c_writeContext (hml : mk.length ≤ 999999999) (hW : c_W H mk nn K tl cn cs) (h : c_rr H mk 14 15 l) (hg : c_gp H mk g G') (hc : l.length + 6 ≤ 1400) (k : ∀ G, c_W G mk nn K tl cn cs → c_rr G mk 14 15 (l ++ w_cx G') → c_fr [14, 15] H G → Q G) : wm_261 11 g H Q := by
  have k4 : sw_rv H 11 3 = 14 := hW.2.1.2.2.2.2.1
  have l15 : sw_ln H 15 = 1400 := hW.2.1.2.2.2.2.2.2.2.2.2.1
  obtain ⟨_, _, ⟨s0, r0⟩⟩ := id hW
  have t14 := r0.1
  obtain ⟨g1, g2, g3, g4, g5, g6, g7, g8, g9, g10, g11⟩ := hg
  have ng : g ∉ [14, 15] := by have := g1.1; simp; omega
  unfold wm_261
  rw [k4]
  refine ⟨t14, ?_⟩
  intro q1 e1 v4 e4 _
  rw [e1]
  refine c_s_b32 h (by omega) (fun G1 R1 F1 _ => ?_)
  have W1 := c_W_row hW F1 R1
  rw [F1.2.2.2.2.1, k4]
  refine ⟨by rw [F1.2.2.1]; exact t14, ?_⟩
  intro q12 e12 v15 e15 _
  rw [F1.2.2.2.2.2 g ng] at e15
  rw [e12, e15]
  refine c_s_term R1 (by rw [F1.2.2.2.1, l15, List.length_append]; show l.length + 4 < 1400; omega) (by omega) g6 (fun G2 R2 F2 _ => ?_)
  have W2 := c_W_row W1 F2 R2
  have F12 := c_fr_t F1 F2
  rw [F12.2.2.2.2.1, k4]
  refine ⟨by rw [F12.2.2.1]; exact t14, ?_⟩
  intro q23 e23 v26 e26 _
  rw [F12.2.2.2.2.2 g ng] at e26
  rw [e23, e26]
  refine c_s_perhaps W2.1.1 R2 (by rw [F12.2.2.2.1, l15, List.length_append, List.length_append]; show l.length + 4 + 1 < 1400; omega) hml g7 (fun G3 R3 F3 _ => ?_)
  refine k G3 (c_W_row W2 F3 R3) ?_ (c_fr_t F12 F3)
  rw [e4, g3] at R3
  rw [show l ++ w_cx G' = l ++ w_b32 (gg_ep G') ++ [w_th (gg_T G') 0 (t_top (gg_T G'))] ++ [w_pb (gg_cf G')] by unfold w_cx w_ctx; simp]
  exact R3
theorem c_gp_fr {G' : w_G} (hV : c_V H mk nn K tl cn cs) (h : c_gp H mk g G') (f : c_fr A H Z) (hA : ∀ a ∈ A, c_fix a ∧ (a < g ∨ g + 22 < a)) : c_gp Z mk g G' := c_gp_ch h hV.2.2.2.1 hV.2.2.2.2 (c_V_ch hV f (fun a ha => (hA a ha).1)) (fun a ha => (hA a ha).2) (w_le_refl mk)
theorem c_gp_1415 {G' : w_G} (hV : c_V H mk nn K tl cn cs) (h : c_gp H mk g G') (f : c_fr [14, 15] H Z) : c_gp Z mk g G' := c_gp_fr hV h f (fun a ha => by
  have := h.1.1
  have := h.1.2.1
  simp only [List.mem_cons, List.not_mem_nil, or_false] at ha
  unfold c_fix
  omega)
theorem c_withContext {j : Nat} (hml : mk.length ≤ 999999999) (hW : c_W H mk nn K tl cn cs) (h2 : c_sg H (w_d mk) r2 b2 l2) (n2 : r2 ≠ 14 ∧ r2 ≠ 15 ∧ b2 ≠ 14 ∧ b2 ≠ 15) (hj : j ≤ l2.length) (hl : j ≤ 1390) (hg : c_gp H mk g G') (k : ∀ G, c_W G mk nn K tl cn cs → c_rr G mk 14 15 (w_sli l2 0 j ++ w_cx G') → c_fr [14, 15] H G → Q G) : wm_274 11 r2 j g H Q := by
  have k4 : sw_rv H 11 3 = 14 := hW.2.1.2.2.2.2.1
  obtain ⟨_, _, ⟨s0, r0⟩⟩ := id hW
  unfold wm_274
  rw [k4]
  refine ⟨r0.1, ?_⟩
  intro q1 e1
  rw [e1]
  refine c_W_clear hW (fun G1 W1 R1 F1 L1 _ => ?_)
  rw [F1.2.2.2.2.1, k4]
  refine ⟨by rw [F1.2.2.1]; exact r0.1, ?_⟩
  intro q9 e9
  rw [e9]
  refine c_s_putAll (i := 0) (j := j) R1 (c_sg_fr h2 F1 (by simp; omega) (by simp; omega) (by decide)) (by omega) (by omega) hj (by rw [L1]; simp; omega) (fun G2 R2 F2 _ => ?_)
  rw [List.nil_append] at R2
  have W2 := c_W_row W1 F2 R2
  have F12 := c_fr_t F1 F2
  refine c_writeContext hml W2 R2 (c_gp_1415 hW.1 hg F12) ?_ (fun G3 W3 R3 F3 _ => k G3 W3 R3 (c_fr_t F12 F3))
  rw [w_sli_len hj]
  omega
theorem c_signWithContext (lm : c_lm cn cs N U M) (bd : c_bl mk tl N U M) (hW : c_W H mk nn K tl cn cs) (h2 : c_sg H (w_d mk) r2 b2 l2) (n2 : r2 ≠ 14 ∧ r2 ≠ 15 ∧ b2 ≠ 14 ∧ b2 ≠ 15) (hl : l2.length ≤ 1390) (hg : c_gp H mk g G') (ha : w_at mk a wk) (k : ∀ z G, c_W G (w_tl mk (w_t 7 wk [] [] (l2 ++ w_cx G'))) nn K tl cn cs → w_at (w_tl mk (w_t 7 wk [] [] (l2 ++ w_cx G'))) z (w_t 7 wk [] [] (l2 ++ w_cx G')) → c_ch [14, 15] H G → P z G) : wm_172 11 a r2 g H P := by
  have hml := c_W_len lm bd
  have k1 : sw_rv H 11 0 = 3 := hW.2.1.2.1
  have k4 : sw_rv H 11 3 = 14 := hW.2.1.2.2.2.2.1
  have l15 : sw_ln H 15 = 1400 := hW.2.1.2.2.2.2.2.2.2.2.2.1
  unfold wm_172
  intro v1 e1 _
  rw [(c_sg_len h2).1] at e1
  rw [e1]
  refine c_withContext (j := l2.length) hml hW h2 n2 (Nat.le_refl _) hl hg (fun G1 W1 R1 F1 _ => ?_)
  have sl : w_sli l2 0 l2.length = l2 := by unfold w_sli; simp
  rw [sl] at R1
  rw [F1.2.2.2.2.1, k1]
  refine ⟨W1.1.1.1.1.1.1, ?_⟩
  intro q9 e9
  rw [F1.2.2.2.2.1, k4]
  refine ⟨R1.1.choose_spec.1.1, ?_⟩
  intro q12 e12
  rw [e9, e12]
  have c1 := c_V_ch hW.1 F1 (by unfold c_fix; simp)
  refine c_partL (s := 7) (Or.inr rfl) lm W1.1 ha R1 (by rw [List.length_append, w_cx_len]; omega) bd (fun X t VX tX cX _ _ => ?_)
  exact k t X (c_W_ch W1 VX cX (by simp) (w_le_tl _ _)) tX (c_ch_t c1 (c_ch_sub cX (by simp)))
theorem c_isSignedWithContext {p j : Nat} (hml : mk.length ≤ 999999999) (hW : c_W H mk nn K tl cn cs) (h2 : c_sg H (w_d mk) r2 b2 l2) (n2 : r2 ≠ 14 ∧ r2 ≠ 15 ∧ b2 ≠ 14 ∧ b2 ≠ 15) (hl : l2.length ≤ 1390) (hj : l2[j]? = some sg) (hsg : sg.head? ≠ some 1000) (hg : c_gp H mk g G') (h0 : sw_iv H p 0 = mo) (hk : w_at mk (sw_iv H p 2) sk) (hp1 : 15 < p) (q : ∀ z G, ((z = 1 ∧ w_sok mo sk sg (w_sli l2 0 j ++ w_cx G')) ∨ (z = 0 ∧ ¬ w_sok mo sk sg (w_sli l2 0 j ++ w_cx G'))) → c_W G mk nn K tl cn cs → c_fr [14, 15] H G → P z G) : wm_298 11 p r2 j g H P := by
  have np : p ∉ [14, 15] := by simp; omega
  have jl : j < l2.length := (List.getElem?_eq_some_iff.mp hj).1
  unfold wm_298
  refine c_withContext (j := j) hml hW h2 n2 (by omega) (by omega) hg (fun G1 W1 R1 F1 _ => ?_)
  refine c_s_termAt W1.1.1.2.1 (c_sg_fr h2 F1 (by simp; omega) (by simp; omega) (by decide)) hj hsg (fun z hz _ _ => ?_)
  refine c_isRowSigned (sk := sk) (mo := mo) W1 R1 hz (by rw [F1.2.2.2.2.2 p np]; exact h0) (by rw [F1.2.2.2.2.2 p np]; exact hk) (fun h => ?_) (fun h => ?_)
  · intro _ _
    exact ⟨Or.inr rfl, q 1 G1 (Or.inl ⟨rfl, h⟩) W1 F1⟩
  · intro _ _
    exact ⟨Or.inl rfl, q 0 G1 (Or.inr ⟨rfl, h⟩) W1 F1⟩
/-- the tag of what stands in the row of what is sent -/
theorem c_tagOf (lm : c_lm cn cs N U M) (hW : c_W H mk nn K tl cn cs) (h2 : c_rr H mk 1420 1421 l) (hl : l.length ≤ 1400) (hg : c_gp H mk g G') (bd : c_bl (w_tl mk (w_mem G')) tl N U M) (k : ∀ z G, c_W G (w_tl (w_tl mk (w_mem G')) (w_t 2 (w_mem G') [] [] l)) nn K tl cn cs → w_at (w_tl (w_tl mk (w_mem G')) (w_t 2 (w_mem G') [] [] l)) z (w_t 2 (w_mem G') [] [] l) → c_ch [] H G → P z G) : wm_173 11 1420 g H P := by
  have k1 : sw_rv H 11 0 = 3 := hW.2.1.2.1
  unfold wm_173
  rw [k1]
  refine ⟨hW.1.1.1.1.1.1, ?_⟩
  intro q1 e1 v4 e4 _
  rw [e1, e4]
  refine c_der (b := 3) lm hW hg.2.2.2.2.2.2.2.2.1 (by decide) (by decide) (c_bl_le (w_le_tl _ _) bd) (fun X t WX tX cX _ _ => ?_)
  have R1 := c_rr_ch hW.1 h2 cX WX.1 (w_le_tl _ _) (by simp) (by simp)
  refine c_partL (s := 2) (Or.inl rfl) lm WX.1 tX R1 hl bd (fun Y u VY uY cY _ _ => ?_)
  exact k u Y (c_W_ch WX VY cY (by simp) (w_le_tl _ _)) uY (c_ch_0 cX cY)
theorem c_isTagRight {j : Nat} (lm : c_lm cn cs N U M) (bd : c_bl mk tl N U M) (hW : c_W H mk nn K tl cn cs) (h2 : c_sg H (w_d mk) r2 b2 l2) (n2 : r2 ≠ 14 ∧ r2 ≠ 15 ∧ b2 ≠ 14 ∧ b2 ≠ 15) (hl : l2.length ≤ 1400) (hj : l2.length = j + 1) (ht : l2[j]? = some sg) (hsg : sg.head? ≠ some 1000) (hg : c_gp H mk g G') (q : ∀ z mm G, ((z = 1 ∧ sg = w_t 2 (w_mem G') [] [] (w_sli l2 0 j)) ∨ (z = 0 ∧ sg ≠ w_t 2 (w_mem G') [] [] (w_sli l2 0 j))) → (mm = mk ∨ mm = w_tl mk (w_mem G')) → c_W G mm nn K tl cn cs → c_ch [14, 15] H G → P z G) : wm_300 11 r2 g H P := by
  have hml := c_W_len lm bd
  have k1 : sw_rv H 11 0 = 3 := hW.2.1.2.1
  have k4 : sw_rv H 11 3 = 14 := hW.2.1.2.2.2.2.1
  obtain ⟨_, _, ⟨s0, r0⟩⟩ := id hW
  have ng : g ∉ [14, 15] := by have := hg.1.1; simp; omega
  unfold wm_300
  intro v1 e1 _ y4 e4
  rw [(c_sg_len h2).1, hj] at e1
  rw [e1, sw_w_s (by omega) (by omega), show ((j + 1 : Nat) : Int) - 1 = ((j : Nat) : Int) by omega] at e4
  rw [k4]
  refine ⟨r0.1, ?_⟩
  intro q8 e8
  rw [e8, e4]
  refine c_W_clear hW (fun G1 W1 R1 F1 L1 _ => ?_)
  rw [F1.2.2.2.2.1, k4]
  refine ⟨by rw [F1.2.2.1]; exact r0.1, ?_⟩
  intro q16 e16
  rw [e16]
  refine c_s_putAll (i := 0) (j := j) R1 (c_sg_fr h2 F1 (by simp; omega) (by simp; omega) (by decide)) (by omega) (by omega) (by omega) (by rw [L1]; simp; omega) (fun G2 R2 F2 _ => ?_)
  rw [List.nil_append] at R2
  have W2 := c_W_row W1 F2 R2
  have F12 := c_fr_t F1 F2
  have C12 := c_V_ch hW.1 F12 (by unfold c_fix; simp)
  refine c_s_termAt W2.1.1.2.1 (c_sg_fr h2 F12 (by simp; omega) (by simp; omega) (by decide)) ht hsg (fun z hz _ _ => ?_)
  have sh := c_V_sh W2.1
  obtain ⟨t1, t2, _, eg⟩ := c_L_rw W2.1.1 hz
  obtain ⟨ls, hrow, hv, hm⟩ := c_rr_row R2
  have exT : (z.toNat : Int) = z := by omega
  rw [F12.2.2.2.2.1, k1]
  refine ⟨W2.1.1.1.1.1.1, ?_⟩
  intro q32 e32
  rw [e32]
  rw [← exT]
  -- what a MAC is
  have mac : ∀ a' b' c' L', sg = w_t 2 a' b' c' L' → c_d G2 z.toNat 0 = 2 := by
    intro a' b' c' L' h
    obtain ⟨_, _, rw', _⟩ := c_L_rw W2.1.1 hz
    obtain ⟨va, f0, f1, f2, hsn, hd, hn⟩ := rw'
    have va0 := va.1
    by_cases c8 : c_d G2 z.toNat 0 = 0
    · have hc8 := hn c8; clear hn
      rcases hc8 with ⟨_, hi⟩ | ⟨_, i, _, hi⟩
      · rw [eg, h] at hi
        have := (w_mk_inj hi).1
        omega
      · rw [eg, h] at hi
        have := (w_mk_inj hi).1
        omega
    · have hd := (hd c8).1
      rw [eg, h] at hd
      have := (w_mk_inj hd).1
      omega
  refine c_sortOf sh (by omega) ?_
  intro _ _
  refine ⟨fun c3 => q 0 mk G2 (Or.inr ⟨rfl, fun h => c3 (mac _ _ _ _ h)⟩) (Or.inl rfl) W2 C12, fun c3 => ?_⟩
  rw [F12.2.2.2.2.1, k1]
  refine ⟨W2.1.1.1.1.1.1, ?_⟩
  intro q40 e40
  rw [F12.2.2.2.2.1, k4]
  refine ⟨hrow.1, ?_⟩
  intro q43 e43
  rw [e40, e43]
  -- its key
  obtain ⟨_, _, rw', _⟩ := c_L_rw W2.1.1 hz
  have va := rw'.1
  have hsn : ∀ x' ∈ c_sn G2 z.toNat, m_vs (c_n G2) x' := fun x' hx => m_vs_up (by omega) (rw'.2.2.2.2.1 x' hx)
  have key : 1 ≤ c_d G2 z.toNat 1 ∧ c_d G2 z.toNat 1 ≤ c_n G2 := by
    obtain ⟨v0, v1, v2, v3, v4, v5, v6, v7, v8, v9, v10, _⟩ := va
    exact ⟨(v10 (Or.inl c3)).1, by omega⟩
  clear va rw'
  have n2' := W2.1.1.2.1
  have hk0 := w_at_of (mk := mk) (x := c_d G2 z.toNat 1) key.1 (by omega)
  have iff2 := c_part_iff (st := 2) (Or.inl rfl) W2.1.1 hz hk0 hv hm
  refine c_hasS W2.1.1 (w := sg) (by rw [exT]; exact hz) hrow (fun h => ?_) (fun h => ?_)
  · intro _ _
    refine ⟨fun c => absurd c (by decide), fun _ => ?_⟩
    rw [F12.2.2.2.2.1, k1]
    refine ⟨W2.1.1.1.1.1.1, ?_⟩
    intro q51 e51
    rw [e51]
    refine c_firstOf sh (by omega) ?_
    intro _ _ v59 e59 _
    rw [F12.2.2.2.2.2 g ng] at e59
    rw [e59]
    have hes : w_at mk (sw_iv H g 7) (gg_es G') := hg.2.2.2.2.2.2.2.2.1
    rw [Int.toNat_natCast] at h
    have form := iff2.mpr ⟨c3, rfl, h⟩
    refine c_der (b := 3) lm W2 hes (by decide) (by decide) bd (fun X t WX tX cX _ _ => ?_)
    have le := w_le_tl mk (w_t 3 (gg_es G') [(3 : Int).toNat] [] [])
    have nd := c_L_nd WX.1.1
    have CX := c_ch_t C12 (c_ch_sub cX (by simp))
    refine ⟨fun c4 => q 0 _ X (Or.inr ⟨rfl, fun h2 => c4 ?_⟩) (Or.inr rfl) WX CX, fun c4 => q 1 _ X (Or.inl ⟨rfl, ?_⟩) (Or.inr rfl) WX CX⟩
    · rw [form] at h2
      have h3 := (w_mk_inj h2).2
      simp only [List.cons.injEq, true_and, and_true] at h3
      have h4 := w_le_at le hk0
      rw [h3] at h4
      exact w_at_inj nd h4 tX
    · have h4 := w_le_at le hk0
      rw [c4] at h4
      have h5 := w_at_d h4
      rw [w_at_d tX] at h5
      rw [form, c4, ← h5]
      rfl
  · intro _ _
    refine ⟨fun _ => q 0 mk G2 (Or.inr ⟨rfl, fun h2 => h ?_⟩) (Or.inl rfl) W2 C12, fun c => absurd rfl c⟩
    rw [Int.toNat_natCast]
    have fm := (c_part_iff (st := 2) (Or.inl rfl) W2.1.1 hz hk0 hsn rfl).mpr ⟨c3, rfl, rfl⟩
    have h3 := h2
    rw [fm] at h3
    have h3 := (w_mk_inj h3).2
    simp only [List.cons.injEq, true_and] at h3
    have hk1 := hk0
    rw [h3.1] at hk1
    exact ((c_part_iff (st := 2) (Or.inl rfl) W2.1.1 hz hk1 hv hm).mp h2).2.2
end
