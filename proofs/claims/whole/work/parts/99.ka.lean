/-! ===== reading what is written ===== -/
noncomputable section
section
variable {K K' K2 : Wt → Prop} {l l' lp : List Wt} {i e d : Nat} {b z src so m : Int} {w k p g ik : Wt} {ms : List (List Wt)}
theorem w_add_sub (h : K w) : w_add K p w := w_cl_base (Or.inl h)
theorem w_add_self : w_add K w w := w_cl_base (Or.inr rfl)
theorem w_lrs_sub : ∀ (l : List Wt) {K : Wt → Prop}, K w → w_lrs K l w
  | [], _, h => h
  | v :: l, K, h => by
    show w_lrs (if v.head? = some 1000 then K else w_add K v) l w
    refine w_lrs_sub l ?_
    split
    · exact h
    · exact w_add_sub h
theorem w_lrs_mem : ∀ (l : List Wt) {K : Wt → Prop}, w ∈ l → w.head? ≠ some 1000 → w_lrs K l w
  | [], _, h, _ => by cases h
  | v :: l, K, h, hd => by
    show w_lrs (if v.head? = some 1000 then K else w_add K v) l w
    rw [List.mem_cons] at h
    rcases h with h | h
    · subst h
      rw [if_neg hd]
      exact w_lrs_sub l w_add_self
    · exact w_lrs_mem l h hd
theorem p_8_of (h : l[i]? = some (w_by b)) (h0 : 0 ≤ b) (hi : i < e) : p_8 l (some (i, e)) = some (b, i + 1, e) := by
  show (if i < e ∧ ((l[i]?).getD []).head? = some 1000 then some (w_bv ((l[i]?).getD []), i + 1, e) else none) = _
  rw [h, Option.getD_some, if_pos ⟨hi, rfl⟩, w_bv_by h0]
theorem p_16_of (h1 : l[i]? = some (w_by (z / 256 % 256))) (h2 : l[i + 1]? = some (w_by (z % 256))) (h0 : 0 ≤ z) (hz : z < 65536) (hi : i + 2 ≤ e) : p_16 l (some (i, e)) = some (z, i + 2, e) := by
  unfold p_16
  rw [p_8_of h1 (by omega) (by omega)]
  show (p_8 l (some (i + 1, e))).map _ = _
  rw [p_8_of h2 (by omega) (by omega)]
  show some (256 * (z / 256 % 256) + z % 256, i + 1 + 1, e) = _
  rw [show 256 * (z / 256 % 256) + z % 256 = z by omega]
theorem p_32_of (h1 : l[i]? = some (w_by (z / 65536 / 256 % 256))) (h2 : l[i + 1]? = some (w_by (z / 65536 % 256))) (h3 : l[i + 2]? = some (w_by (z / 256 % 256))) (h4 : l[i + 3]? = some (w_by (z % 256))) (hz : sw_c z) (hi : i + 4 ≤ e) : p_32 l (some (i, e)) = some (z, i + 4, e) := by
  unfold p_32
  have a : p_16 l (some (i, e)) = some (z / 65536 % 65536, i + 2, e) := p_16_of (by rw [h1]; congr 2; omega) (by rw [h2]; congr 2; omega) (by omega) (by omega) (by omega)
  have b : p_16 l (some (i + 2, e)) = some (z % 65536, i + 4, e) := p_16_of (by rw [h3]; congr 2; omega) (by rw [h4]; congr 2; omega) (by omega) (by omega) (by omega)
  rw [a]
  show (p_16 l (some (i + 2, e))).map _ = _
  rw [b]
  show some (sw_w (65536 * (z / 65536 % 65536) + z % 65536), i + 4, e) = _
  rw [show sw_w (65536 * (z / 65536 % 65536) + z % 65536) = z by unfold sw_c at hz; unfold sw_w; omega]
theorem p_t_of {so : Nat} (h : l[i]? = some w) (hw : w.head? = some so) (hk : K w) (hi : i < e) : p_t K so l (some (i, e)) = some (w, i + 1, e) := by
  show @ite _ (i < e ∧ ((l[i]?).getD []).head? = some so ∧ K ((l[i]?).getD [])) (Classical.propDecidable _) (some ((l[i]?).getD [], i + 1, e)) none = _
  rw [h, Option.getD_some, if_pos ⟨hi, hw, hk⟩]
theorem p_lf_mk (h1 : p_16 l (some (i, e)) = some (m, i + 2, e)) (h2 : p_t K 5 l (some (i + 2, e)) = some (k, i + 3, e)) (h3 : p_t K 5 l (some (i + 3, e)) = some (p, i + 4, e)) (h4 : p_8 l (some (i + 4, e)) = some (so, i + 5, e)) (h5 : p_t K 7 l (some (i + 5, e)) = some (g, i + 6, e)) (hs : src = so ∧ (so = 1 ∨ so = 2)) : p_lf K src l (some (i, e)) = some ((m, k, p, so, [], g), i + 6, e) := by
  unfold p_lf
  rw [h1, Option.bind_some]
  show (p_t K 5 l (some (i + 2, e))).bind _ = _
  rw [h2, Option.bind_some]
  show (p_t K 5 l (some (i + 3, e))).bind _ = _
  rw [h3, Option.bind_some]
  show (p_8 l (some (i + 4, e))).bind _ = _
  rw [h4, Option.bind_some]
  show (if so < 1 ∨ 3 < so ∨ (0 < src ∧ so ≠ src) then none else (if so = 3 then p_h K l (some (i + 5, e)) else some (([] : Wt), (i + 5, e))).bind (fun ph => (p_t K 7 l (some ph.2)).map (fun g => ((m, k, p, so, ph.1, g.1), g.2)))) = _
  rw [if_neg (by omega), if_neg (by omega), Option.bind_some]
  show (p_t K 7 l (some (i + 5, e))).map _ = _
  rw [h5]
  rfl
theorem p_pk_mk {lf : p_L} (h1 : p_8 l (some (i, e)) = some (1, i + 1, e)) (h2 : p_t K 5 l (some (i + 1, e)) = some (ik, i + 2, e)) (h3 : p_lf K 1 l (some (i + 2, e)) = some (lf, i + 8, e)) (h4 : p_t K 7 l (some (i + 8, e)) = some (g, i + 9, e)) : p_pk K l (some (i, e)) = some ((ik, lf, g), i + 9, e) := by
  unfold p_pk
  rw [h1, Option.bind_some]
  show (if (1 : Int) ≠ 1 then none else (p_t K 5 l (some (i + 1, e))).bind _) = _
  rw [if_neg (by decide), h2, Option.bind_some]
  show (p_lf K 1 l (some (i + 2, e))).bind _ = _
  rw [h3, Option.bind_some]
  show (p_t K 7 l (some (i + 8, e))).map _ = _
  rw [h4]
  rfl
/-- the same signs at another place, with more known -/
theorem p_8_sh (hs : l'[i + d]? = l[i]?) (h : p_8 l (some (i, e)) = some (b, i + 1, e)) {e' : Nat} (he : i + d < e') : p_8 l' (some (i + d, e')) = some (b, i + d + 1, e') := by
  obtain ⟨_, h2, h3, h4⟩ := p_8_in h
  show (if i + d < e' ∧ ((l'[i + d]?).getD []).head? = some 1000 then some (w_bv ((l'[i + d]?).getD []), i + d + 1, e') else none) = _
  rw [hs, if_pos ⟨he, h3⟩, h4]
theorem p_t_sh {so : Nat} (hs : l'[i + d]? = l[i]?) (hK : ∀ w, K w → K' w) (h : p_t K so l (some (i, e)) = some (w, i + 1, e)) {e' : Nat} (he : i + d < e') : p_t K' so l' (some (i + d, e')) = some (w, i + d + 1, e') := by
  obtain ⟨_, h2, h3, h4, h5⟩ := p_t_in h
  show @ite _ (i + d < e' ∧ ((l'[i + d]?).getD []).head? = some so ∧ K' ((l'[i + d]?).getD [])) (Classical.propDecidable _) (some ((l'[i + d]?).getD [], i + d + 1, e')) none = _
  rw [hs, ← h3, if_pos ⟨he, h4, hK w h5⟩]
theorem p_16_sh (hs : l'[i + d]? = l[i]?) (hs1 : l'[i + 1 + d]? = l[i + 1]?) (h : p_16 l (some (i, e)) = some (z, i + 2, e)) {e' : Nat} (he : i + d + 2 ≤ e') : p_16 l' (some (i + d, e')) = some (z, i + d + 2, e') := by
  rw [p_16_i] at h ⊢
  rw [show i + d + 1 = i + 1 + d by omega, hs, hs1]
  split at h
  · next c =>
    rw [if_pos ⟨by omega, c.2⟩]
    simp only [Option.some.injEq, Prod.mk.injEq] at h
    rw [h.1]
  · cases h
theorem p_pk_sh {v : Wt × p_L × Wt} (hs : ∀ j, j < 9 → l'[j + d]? = l[j]?) (hK : ∀ w, K w → K' w) (h : p_pk K l (some (0, e)) = some (v, 9, e)) {e' : Nat} (he : d + 9 ≤ e') : p_pk K' l' (some (d, e')) = some (v, d + 9, e') := by
  obtain ⟨ik, ⟨m, k, p, so, ph, g0⟩, g⟩ := v
  obtain ⟨_, _, x1, x2, x3, x4⟩ := p_pk_ix h
  simp only [Nat.zero_add] at x1 x2 x3 x4
  obtain ⟨_, _, s1, s3, sp, ss, y1, y2, y3, y4, _, y5⟩ := p_lf_ix x3
  have so1 : so = 1 := ss (by decide)
  subst so1
  have ph0 : ph = [] := sp (by decide)
  subst ph0
  simp only [show (if (1 : Int) = 3 then 6 else 5) = 5 from if_neg (by decide), show (if (1 : Int) = 3 then 7 else 6) = 6 from if_neg (by decide)] at y5
  have z1 := p_8_sh (i := 0) (d := d) (hs 0 (by omega)) x1 (e' := e') (by omega)
  have z2 := p_t_sh (i := 1) (d := d) (hs 1 (by omega)) hK x2 (e' := e') (by omega)
  have w1 := p_16_sh (i := 2) (d := d) (hs 2 (by omega)) (hs 3 (by omega)) y1 (e' := e') (by omega)
  have w2 := p_t_sh (i := 4) (d := d) (hs 4 (by omega)) hK y2 (e' := e') (by omega)
  have w3 := p_t_sh (i := 5) (d := d) (hs 5 (by omega)) hK y3 (e' := e') (by omega)
  have w4 := p_8_sh (i := 6) (d := d) (hs 6 (by omega)) y4 (e' := e') (by omega)
  have w5 := p_t_sh (i := 7) (d := d) (hs 7 (by omega)) hK y5 (e' := e') (by omega)
  have z4 := p_t_sh (i := 8) (d := d) (hs 8 (by omega)) hK x4 (e' := e') (by omega)
  have f : ∀ a : Nat, a + d = d + a := fun a => Nat.add_comm a d
  simp only [f, Nat.add_zero, Nat.add_assoc] at z1 z2 w1 w2 w3 w4 w5 z4
  exact p_pk_mk z1 z2 (p_lf_mk (i := d + 2) w1 w2 w3 w4 w5 ⟨rfl, Or.inl rfl⟩) z4
theorem p_ct_1 {v : Wt × p_L × Wt} (h1 : p_8 l (some (i, e)) = some (1, i + 1, e)) (h2 : p_16 l (some (i + 1, e)) = some (9, i + 3, e)) (h3 : p_pk K l (some (i + 3, i + 12)) = some (v, i + 12, i + 12)) (he : i + 12 ≤ e) : p_ct K l (some (i, e)) = some ((1, v, 0), i + 12, e) := by
  unfold p_ct
  rw [h1, Option.bind_some]
  show (if (1 : Int) = 1 then p_add K l (some (i + 1, e)) else _) = _
  rw [if_pos rfl]
  unfold p_add p_r
  rw [h2, Option.bind_some]
  show ((if ((i + 3 : Nat) : Int) + 9 ≤ ((e : Nat) : Int) then some ((i + 3 : Nat) + (9 : Int).toNat, i + 3, e) else none).bind _) = _
  rw [if_pos (by omega), Option.bind_some]
  show (p_pk K l (some (i + 3, i + 3 + 9))).bind _ = _
  rw [show i + 3 + 9 = i + 12 by omega, h3, Option.bind_some]
  show (if i + 12 = i + 3 + 9 then some ((1, v, 0), i + 12, e) else none) = _
  rw [if_pos (by omega)]
theorem p_ct_2 {lf : p_L} {s : Nat × Nat} (h1 : p_8 l (some (i, e)) = some (2, i + 1, e)) (h2 : p_lf K 2 l (some (i + 1, e)) = some (lf, s)) : p_ct K l (some (i, e)) = some ((2, ([], lf, []), 0), s) := by
  unfold p_ct
  rw [h1, Option.bind_some]
  show (if (2 : Int) = 1 then _ else if (2 : Int) = 2 then (p_lf K 2 l (some (i + 1, e))).map _ else _) = _
  rw [if_neg (by decide), if_pos rfl, h2]
  rfl
theorem p_ct_3 (h1 : p_8 l (some (i, e)) = some (3, i + 1, e)) (h2 : p_16 l (some (i + 1, e)) = some (z, i + 3, e)) : p_ct K l (some (i, e)) = some ((3, ([], p_L0, []), z), i + 3, e) := by
  unfold p_ct
  rw [h1, Option.bind_some]
  show (if (3 : Int) = 1 then _ else if (3 : Int) = 2 then _ else if (3 : Int) = 3 then (p_16 l (some (i + 1, e))).map _ else _) = _
  rw [if_neg (by decide), if_neg (by decide), if_pos rfl, h2]
  rfl
end
end
