/-! ===== the class: isLeafSigned, isPackageSigned, isTagRight, contexts ===== -/
noncomputable section
variable {H Z X Y : sw_H} {nn nm r ra g m r2 b2 : Nat} {K K' S : Wt → Prop} {tl mk mm l l2 L : List Wt} {a b c x y n mo so cn cs N U M : Int} {Q : sw_H → Prop} {P : Int → sw_H → Prop} {A B : List Nat} {w wk ky sk ph sg : Wt} {G' : w_G}
/-- a row of signs that is not touched -/
theorem c_sg_fr {d : Nat → Wt} (h : c_sg H d r2 b2 l2) (f : c_fr A H Z) (h1 : r2 ∉ A) (h2 : b2 ∉ A) (h3 : 3 ∉ A) : c_sg Z d r2 b2 l2 := by
  obtain ⟨s, h4, h5, h6⟩ := h
  refine ⟨s, c_row_fr h4 f h1 h2, ?_, h6⟩
  have : c_n Z = c_n H := by unfold c_n; rw [f.2.2.2.2.2 3 h3]
  rw [this]
  exact h5
theorem c_s_putAll {i j : Nat} (h : c_rr H mk r ra l) (h2 : c_sg H (w_d mk) r2 b2 l2) (ne : ra ≠ b2) (hij : i ≤ j) (hj : j ≤ l2.length) (hc : l.length + (j - i) ≤ sw_ln H ra) (k : ∀ G, c_rr G mk r ra (l ++ w_sli l2 i j) → c_fr [r, ra] H G → Q G) : wm_64 r r2 i j H Q := by
  obtain ⟨⟨s, hs, hv, hm⟩, f1, f2, hn⟩ := h
  obtain ⟨s2, hs2, hv2, hm2⟩ := h2
  have ls : s.length = l.length := by rw [← hm, List.length_map]
  have ls2 : s2.length = l2.length := by rw [← hm2, List.length_map]
  refine c_putAll hs hs2 ne (by omega) (by omega) (by omega) (by omega) (fun G hG fG => k G ?_ fG)
  have r3 : r ≠ 3 := by unfold c_fix at f1; omega
  have ra3 : ra ≠ 3 := by unfold c_fix at f2; omega
  have nG : c_n G = c_n H := by unfold c_n; rw [fG.2.2.2.2.2 3 (by simp; omega)]
  refine ⟨⟨_, hG, ?_, ?_⟩, f1, f2, by rw [nG, hn]⟩
  · intro z hz
    rw [nG]
    rw [List.mem_append] at hz
    rcases hz with hz | hz
    · exact hv z hz
    · exact hv2 z (List.mem_of_mem_drop (List.mem_of_mem_take hz))
  · rw [List.map_append, hm, List.map_take, List.map_drop, hm2]
    unfold w_sli
    have e1 : ((j : Int) - (i : Int)).toNat = j - i := by omega
    rw [e1, Int.toNat_natCast]
theorem c_s_termAt {k : Nat} (hn : c_n H = mk.length) (h2 : c_sg H (w_d mk) r2 b2 l2) (hk : l2[k]? = some w) (hw : w.head? ≠ some 1000) (q : ∀ z, w_at mk z w → P z H) : wm_269 r2 k H P := by
  obtain ⟨s, hs, hv, hm⟩ := h2
  have hk' : (s.map (w_sg (w_d mk)))[k]? = some w := by rw [hm]; exact hk
  rw [List.getElem?_map, Option.map_eq_some_iff] at hk'
  obtain ⟨y, hy, ey⟩ := hk'
  have vy := hv y (List.mem_of_getElem? hy)
  rw [hn] at vy
  have y256 : ¬ y < 256 := fun c => hw (by rw [← ey]; exact w_by_head y _ c)
  refine c_termAt hs (fun h => absurd ⟨by omega, by rw [Int.toNat_natCast]; exact hy, by omega⟩ (h y)) (fun s' _ h1 h3 _ => ?_)
  rw [Int.toNat_natCast, hy] at h1
  have h1 := Option.some.inj h1
  subst h1
  unfold m_vs at vy
  refine q _ ?_
  have e := w_at_of (mk := mk) (x := y - 256) (by omega) (by omega)
  unfold w_sg at ey
  rw [if_neg y256] at ey
  rw [ey] at e
  exact e
theorem c_lf_fr {p : Nat} (h : c_lf H mk p mo ky sk so ph) (f : c_fr A H Z) (hp : p ∉ A) : c_lf Z mk p mo ky sk so ph := c_lf_iv h (fun k _ => by rw [f.2.2.2.2.2 p hp]) (w_le_refl mk)
theorem c_isLeafSigned {p : Nat} (hml : mk.length ≤ 999999999) (hW : c_W H mk nn K tl cn cs) (hp : c_lf H mk p mo ky sk so ph) (h5 : w_at mk (sw_iv H p 5) sg) (hp1 : 15 < p) (q : ∀ z G, ((z = 1 ∧ w_lfs (mo, ky, sk, so, ph, sg) n) ∨ (z = 0 ∧ ¬ w_lfs (mo, ky, sk, so, ph, sg) n)) → c_W G mk nn K tl cn cs → c_fr [14, 15] H G → P z G) : wm_355 11 p n H P := by
  have so1 := hp.2.2.2.2.2.1
  have so3 := hp.2.2.2.2.2.2
  have np : p ∉ [14, 15] := by simp; omega
  have fin : ∀ G, c_W G mk nn K tl cn cs → c_rr G mk 14 15 (w_lh mo ky sk so ph ++ (if 1 < so then w_b16 n else [])) → c_fr [14, 15] H G → wb_355_16 P 11 p G := by
    intro G hG rG fG
    have hpG := c_lf_fr hp fG np
    have ivG : sw_iv G p = sw_iv H p := fG.2.2.2.2.2 p np
    unfold wb_355_16
    intro v1 e1 _
    rw [ivG] at e1
    rw [e1]
    refine c_isRowSigned (sk := sk) (mo := mo) hG rG h5 hpG.1 hpG.2.2.1 (fun h => ?_) (fun h => ?_)
    · intro _ _
      exact ⟨Or.inr rfl, q 1 G (Or.inl ⟨rfl, h⟩) hG fG⟩
    · intro _ _
      exact ⟨Or.inl rfl, q 0 G (Or.inr ⟨rfl, h⟩) hG fG⟩
  have k4 : sw_rv H 11 3 = 14 := hW.2.1.2.2.2.2.1
  obtain ⟨_, _, ⟨s0, r0⟩⟩ := id hW
  unfold wm_355
  rw [k4]
  refine ⟨r0.1, ?_⟩
  intro q9 e9
  rw [e9]
  refine c_W_clear hW (fun G1 W1 R1 F1 L1 _ => ?_)
  rw [F1.2.2.2.2.1, k4]
  refine ⟨by rw [F1.2.2.1]; exact r0.1, ?_⟩
  intro q17 e17
  rw [e17]
  refine c_writeTo (z := 0) (sg := []) W1.1.1 hml R1 (by rw [L1]; decide) (c_lf_fr hp F1 np) (fun h => absurd rfl h) (by omega) (fun G2 R2 F2 _ => ?_)
  rw [if_neg (by decide), List.nil_append, List.append_nil] at R2
  have W2 := c_W_row W1 F2 R2
  have F12 := c_fr_t F1 F2
  intro v25 e25 _
  rw [F12.2.2.2.2.2 p np, hp.2.2.2.1] at e25
  refine ⟨fun c => fin G2 W2 ?_ F12, fun c => ?_⟩
  · rw [if_neg (by omega), List.append_nil]; exact R2
  · rw [F12.2.2.2.2.1, k4]
    refine ⟨by rw [F12.2.2.1]; exact r0.1, ?_⟩
    intro q28 e28
    rw [e28]
    have ll := w_lh_len mo ky sk so ph
    refine c_s_b16 R2 (by rw [F2.2.2.2.1, L1]; omega) (fun G3 R3 F3 _ => ?_)
    refine fin G3 (c_W_row W2 F3 R3) ?_ (c_fr_t F12 F3)
    rw [if_pos (by omega)]
    exact R3
theorem c_isPartSigned {p i j : Nat} (hW : c_W H mk nn K tl cn cs) (h2 : c_sg H (w_d mk) r2 b2 l2) (n2 : r2 ≠ 14 ∧ r2 ≠ 15 ∧ b2 ≠ 14 ∧ b2 ≠ 15) (hij : i ≤ j) (hl : l2.length ≤ 1400) (hj : l2[j]? = some sg) (hg : sg.head? ≠ some 1000) (h0 : sw_iv H p 0 = mo) (hk : w_at mk (sw_iv H p 2) sk) (hp1 : 15 < p) (q : ∀ z G, ((z = 1 ∧ w_sok mo sk sg (w_sli l2 i j)) ∨ (z = 0 ∧ ¬ w_sok mo sk sg (w_sli l2 i j))) → c_W G mk nn K tl cn cs → c_fr [14, 15] H G → P z G) : wm_316 11 p r2 i j H P := by
  have np : p ∉ [14, 15] := by simp; omega
  have jl : j < l2.length := (List.getElem?_eq_some_iff.mp hj).1
  have k4 : sw_rv H 11 3 = 14 := hW.2.1.2.2.2.2.1
  obtain ⟨_, _, ⟨s0, r0⟩⟩ := id hW
  unfold wm_316
  rw [k4]
  refine ⟨r0.1, ?_⟩
  intro q1 e1
  rw [e1]
  refine c_W_clear hW (fun G1 W1 R1 F1 L1 _ => ?_)
  rw [F1.2.2.2.2.1, k4]
  refine ⟨by rw [F1.2.2.1]; exact r0.1, ?_⟩
  intro q9 e9
  rw [e9]
  refine c_s_putAll R1 (c_sg_fr h2 F1 (by simp; omega) (by simp; omega) (by decide)) (by omega) hij (by omega) (by rw [L1]; simp; omega) (fun G2 R2 F2 _ => ?_)
  rw [List.nil_append] at R2
  have W2 := c_W_row W1 F2 R2
  have F12 := c_fr_t F1 F2
  refine c_s_termAt W2.1.1.2.1 (c_sg_fr h2 F12 (by simp; omega) (by simp; omega) (by decide)) hj hg (fun z hz _ _ => ?_)
  refine c_isRowSigned (sk := sk) (mo := mo) W2 R2 hz (by rw [F12.2.2.2.2.2 p np]; exact h0) (by rw [F12.2.2.2.2.2 p np]; exact hk) (fun h => ?_) (fun h => ?_)
  · intro _ _
    exact ⟨Or.inr rfl, q 1 G2 (Or.inl ⟨rfl, h⟩) W2 F12⟩
  · intro _ _
    exact ⟨Or.inl rfl, q 0 G2 (Or.inr ⟨rfl, h⟩) W2 F12⟩
/-- a PACKAGE at place i of a row -/
theorem c_isPackageSigned {p i : Nat} {v : Wt} {e : Nat × Nat} {ik : Wt} {e0 : Nat} (hml : mk.length ≤ 999999999) (hW : c_W H mk nn K tl cn cs) (h2 : c_sg H (w_d mk) r2 b2 l2) (n2 : r2 ≠ 14 ∧ r2 ≠ 15 ∧ b2 ≠ 14 ∧ b2 ≠ 15) (hl : l2.length ≤ 1400) (hvl : w_vl l2) (he : e0 ≤ l2.length) (hpk : p_pk K l2 (some (i, e0)) = some ((ik, (mo, ky, sk, so, ph, sg), v), e)) (hp : c_lf H mk p mo ky sk so ph) (h5 : w_at mk (sw_iv H p 5) sg) (hp1 : 15 < p) (q : ∀ z G, ((z = 1 ∧ w_pks (ik, (mo, ky, sk, so, ph, sg), v)) ∨ (z = 0 ∧ ¬ w_pks (ik, (mo, ky, sk, so, ph, sg), v))) → c_W G mk nn K tl cn cs → c_fr [14, 15] H G → P z G) : wm_270 11 r2 i p H P := by
  have np : p ∉ [14, 15] := by simp; omega
  obtain ⟨x1, x2, x3, x4, x5, x6⟩ := p_pk_ix hpk
  obtain ⟨y1, y2, y3, y4⟩ := p_pk_sl hvl he hpk
  unfold wm_270
  refine c_isLeafSigned (n := 0) hml hW hp h5 hp1 (fun z G hz WG FG _ _ => ⟨fun c => ?_, fun c => ?_⟩)
  · rcases hz with ⟨ez, _⟩ | ⟨_, hn⟩
    · omega
    · exact q 0 G (Or.inr ⟨rfl, fun h => hn h.1⟩) WG FG
  · have hok : w_lfs (mo, ky, sk, so, ph, sg) 0 := by
      rcases hz with ⟨_, h⟩ | ⟨ez, _⟩
      · exact h
      · exact absurd ez c
    rw [sw_w_s (z := (i : Int) + 9) (by omega) (by omega), sw_w_s (by omega) (by omega), show (i : Int) + 9 - 1 = ((i + 8 : Nat) : Int) by omega]
    obtain ⟨_, _, _, hd, _⟩ := p_t_in x6
    refine c_isPartSigned (sk := sk) (mo := mo) (sg := v) WG (c_sg_fr h2 FG (by simp; omega) (by simp; omega) (by decide)) n2 (by omega) hl y2 (by rw [hd]; decide) (by rw [FG.2.2.2.2.2 p np]; exact hp.1) (by rw [FG.2.2.2.2.2 p np]; exact hp.2.2.1) hp1 (fun z2 G2 hz2 W2 F2 _ _ => ?_)
    rw [y1] at hz2
    refine ⟨fun c2 => ?_, fun c2 => ?_⟩
    · rcases hz2 with ⟨ez, _⟩ | ⟨_, hn⟩
      · omega
      · exact q 0 G2 (Or.inr ⟨rfl, fun h => hn h.2⟩) W2 (c_fr_t FG F2)
    · rcases hz2 with ⟨_, h⟩ | ⟨ez, _⟩
      · exact q 1 G2 (Or.inl ⟨rfl, hok, h⟩) W2 (c_fr_t FG F2)
      · exact absurd ez c2
theorem c_isPackageRight {p i : Nat} {v : Wt} {e : Nat × Nat} {ik : Wt} {e0 : Nat} (hml : mk.length ≤ 999999999) (hW : c_W H mk nn K tl cn cs) (h2 : c_sg H (w_d mk) r2 b2 l2) (n2 : r2 ≠ 14 ∧ r2 ≠ 15 ∧ b2 ≠ 14 ∧ b2 ≠ 15) (hl : l2.length ≤ 1400) (hvl : w_vl l2) (he : e0 ≤ l2.length) (hpk : p_pk K l2 (some (i, e0)) = some ((ik, (mo, ky, sk, so, ph, sg), v), e)) (hp : c_lf H mk p mo ky sk so ph) (h5 : w_at mk (sw_iv H p 5) sg) (hp1 : 15 < p) (q : ∀ z G, ((z = 1 ∧ ik ≠ ky ∧ w_pks (ik, (mo, ky, sk, so, ph, sg), v)) ∨ (z = 0 ∧ ¬ (ik ≠ ky ∧ w_pks (ik, (mo, ky, sk, so, ph, sg), v)))) → c_W G mk nn K tl cn cs → c_fr [14, 15] H G → P z G) : wm_168 11 r2 i p H P := by
  obtain ⟨x1, x2, x3, x4, x5, x6⟩ := p_pk_ix hpk
  obtain ⟨y1, y2, y3, y4⟩ := p_pk_sl hvl he hpk
  obtain ⟨_, _, _, hd, _⟩ := p_t_in x4
  have nd := c_L_nd hW.1.1
  unfold wm_168
  rw [sw_w_s (by omega) (by omega), show (i : Int) + 1 = ((i + 1 : Nat) : Int) by omega]
  refine c_s_termAt hW.1.1.2.1 h2 y3 (by rw [hd]; decide) (fun z hz _ _ => ?_)
  intro v6 e6 _
  refine ⟨fun c => ?_, fun c => ?_⟩
  · refine q 0 H (Or.inr ⟨rfl, fun h => h.1 ?_⟩) hW (c_fr_refl _ _)
    rw [c, e6] at hz
    have u1 := w_at_d hz
    rw [w_at_d hp.2.1] at u1
    exact u1.symm
  · have ne : ik ≠ ky := fun h => c (by rw [e6]; rw [h] at hz; exact w_at_inj nd hz hp.2.1)
    refine c_isPackageSigned hml hW h2 n2 hl hvl he hpk hp h5 hp1 (fun z2 G hz2 WG FG _ _ => ⟨fun c2 => ?_, fun c2 => ?_⟩)
    · rcases hz2 with ⟨ez, _⟩ | ⟨_, hn⟩
      · omega
      · exact q 0 G (Or.inr ⟨rfl, fun h => hn h.2⟩) WG FG
    · rcases hz2 with ⟨_, h⟩ | ⟨ez, _⟩
      · exact q 1 G (Or.inl ⟨rfl, ne, h⟩) WG FG
      · exact absurd ez c2
end
