/-! ===== what a change is written as; the reference: putProposals ===== -/
noncomputable section
/-- the text of a CONTENT -/
def w_ctw (v : p_C) : List Wt := if v.1 = 1 then w_by 1 :: (w_b16 9 ++ (w_by 1 :: v.2.1.1 :: (w_lfw v.2.1.2.1 ++ [v.2.1.2.2]))) else if v.1 = 2 then w_by 2 :: w_lfw v.2.1.2.1 else w_by 3 :: w_b16 v.2.2
/-- what stands for a change in a COMMIT of leaf lf -/
def w_pp1 (lf : Int) (c : w_Ch) : List Wt := if c.2.1 = lf then w_by 2 :: w_ctw c.1 else [w_by 1, c.2.2]
def w_pps (lf : Int) (L : List w_Ch) : List Wt := L.flatMap (w_pp1 lf)
section
variable {K : Wt → Prop} {l : List Wt} {i e : Nat} {s : Nat × Nat} {v : p_C} {f : p_L} {src : Int}
theorem p_lf_w (hvl : w_vl l) (he : e ≤ l.length) (h : p_lf K src l (some (i, e)) = some (f, s)) (hs : 0 < src ∧ src < 3) : w_sli l i (i + 6) = w_lfw f ∧ s = (i + 6, e) := by
  obtain ⟨m, k, p, so, ph, g⟩ := f
  obtain ⟨x1, x2, x3, x4, x5, x6, _⟩ := p_lf_ix h
  have so2 := x6 hs.1
  obtain ⟨z1, z2, _, _⟩ := p_lf_sl hvl he h
  rw [if_neg (by omega)] at z1 z2 x1
  refine ⟨?_, x1⟩
  rw [w_sli_app (j := i + 5) (by omega) (by omega), z1, w_sli_1 z2]
  rfl
theorem p_ct_w (hvl : w_vl l) (he : e ≤ l.length) (h : p_ct K l (some (i, e)) = some (v, s)) : w_sli l i s.1 = w_ctw v ∧ i ≤ s.1 ∧ s.1 ≤ l.length := by
  obtain ⟨kd, ⟨ik, lf, g⟩, n⟩ := v
  obtain ⟨x1, x2, hx⟩ := p_ct_ix h
  obtain ⟨b1, b2, b3⟩ := p_8_sl hvl he x1
  have g1 := w_sli_1 b1
  rcases hx with ⟨rfl, es, h16, hp, rfl⟩ | ⟨rfl, es, hp, _, _, rfl⟩ | ⟨rfl, es, hp, _, rfl, _⟩
  · rw [es] at x2 ⊢
    have e12 : i + 12 ≤ l.length := Nat.le_trans x2 he
    refine ⟨?_, by show i ≤ i + 12; omega, e12⟩
    obtain ⟨c1, _, _, _, _⟩ := p_16_sl hvl he h16
    obtain ⟨d1, d2, d3, d4⟩ := p_pk_sl hvl e12 hp
    show w_sli l i (i + 12) = _
    rw [w_sli_app (j := i + 1) (by omega) (by omega), g1, w_sli_app (i := i + 1) (j := i + 3) (by omega) (by omega), show i + 3 = i + 1 + 2 by omega, c1, show i + 1 + 2 = i + 3 by omega, w_sli_app (i := i + 3) (j := i + 11) (by omega) (by omega), show i + 11 = i + 3 + 8 by omega, d1, show i + 12 = i + 3 + 8 + 1 by omega, w_sli_1 d2]
    unfold w_ctw
    rw [if_pos rfl]
    rfl
  · obtain ⟨c1, c2⟩ := p_lf_w hvl he hp (by decide)
    rw [es] at x2 ⊢
    refine ⟨?_, by show i ≤ i + 7; omega, Nat.le_trans x2 he⟩
    show w_sli l i (i + 7) = _
    rw [w_sli_app (j := i + 1) (by omega) (by omega), g1, show i + 7 = i + 1 + 6 by omega, c1]
    unfold w_ctw
    rw [if_neg (by decide : ¬ (2 : Int) = 1), if_pos rfl]
    rfl
  · obtain ⟨c1, _, _, _, _⟩ := p_16_sl hvl he hp
    rw [es] at x2 ⊢
    refine ⟨?_, by show i ≤ i + 3; omega, Nat.le_trans x2 he⟩
    show w_sli l i (i + 3) = _
    rw [w_sli_app (j := i + 1) (by omega) (by omega), g1, show i + 3 = i + 1 + 2 by omega, c1]
    unfold w_ctw
    rw [if_neg (by decide : ¬ (3 : Int) = 1), if_neg (by decide : ¬ (3 : Int) = 2)]
    rfl
theorem w_ctw_len (h : p_cok v) : (w_ctw v).length ≤ 12 := by
  unfold w_ctw
  have e16 : ∀ z : Int, (w_b16 z).length = 2 := fun _ => rfl
  have hlf : ∀ f : p_L, f.2.2.2.1 ≠ 3 → (w_lfw f).length = 6 := fun f hf => by
    unfold w_lfw w_lh
    rw [if_neg hf]
    simp [w_b16]
  obtain ⟨h1, h2, h3, h4, _⟩ := h
  by_cases c1 : v.1 = 1
  · rw [if_pos c1]
    have := hlf v.2.1.2.1 (by rw [h3 c1]; decide)
    simp [e16, this]
  · rw [if_neg c1]
    by_cases c2 : v.1 = 2
    · rw [if_pos c2]
      have := hlf v.2.1.2.1 (by rw [h4 c2]; decide)
      simp [this]
    · rw [if_neg c2]
      simp [e16]
end
variable {I I0 J X : sr_V} {nn s u k h us : Nat} {K K' : Wt → Prop} {tl mk mm l0 l1 l2 lw : List Wt} {a b c y n m msk : Int} {Q : Int → sr_V → Prop} {R : sr_V → Prop} {x i e l : Nat} {P : Nat → Nat → Prop} {S : Wt → Prop} {w ls n0 : Wt} {L : List w_Ch} {d : w_Ch}
theorem w_pp1_len {lf : Int} (h : p_cok d.1) : (w_pp1 lf d).length ≤ 13 := by
  unfold w_pp1
  split
  · rw [List.length_cons]; have := w_ctw_len h; omega
  · simp
theorem w_pps_s {lf : Int} (hd : L[k]? = some d) : w_pps lf (L.take (k + 1)) = w_pps lf (L.take k) ++ w_pp1 lf d := by
  unfold w_pps
  rw [h_tk_s hd, List.flatMap_append]
  simp
theorem w_pps_len {lf : Int} (hok : ∀ c ∈ L, p_cok c.1) : ∀ k, k ≤ L.length → (w_pps lf (L.take k)).length ≤ 13 * k
  | 0, _ => by simp [w_pps]
  | k + 1, hk => by
    have ih := w_pps_len (lf := lf) hok k (by omega)
    obtain ⟨d, hd⟩ := h_get (L := L) (k := k) (by omega)
    rw [w_pps_s hd, List.length_append]
    have := w_pp1_len (lf := lf) (hok d (List.mem_of_getElem? hd))
    omega
theorem m_rr_F (h : m_rr I mk l0) (e55 : J 55 = I 55) (e56 : J 1000 56 = I 1000 56) : m_rr J mk l0 := by
  unfold m_rr m_row at h ⊢
  rw [e55, e56]
  exact h
/-- the first two signs of the row are filled in -/
theorem m_rr_fill {z : Int} (h : m_rr I mk (w_by 0 :: w_by 0 :: l1)) (hz : z = (l1.length : Nat)) (hl : l1.length < 65536) : m_rr (su (su I 55 0 (sw_shr z 8)) 55 1 (sw_and z 255)) mk (w_b16 (l1.length : Nat) ++ l1) := by
  have e1 : sw_shr z 8 = ((l1.length / 256 : Nat) : Int) := by
    rw [hz, sw_shr_k (k := 8) (by unfold sw_c; omega) (by decide) (by decide)]
    omega
  have e2 : sw_and z 255 = ((l1.length % 256 : Nat) : Int) := by rw [hz, sw_and_255]; omega
  rw [e1, e2]
  have ln := m_rr_len h
  obtain ⟨h0, h1, h2⟩ := h
  rw [List.length_cons, List.length_cons] at ln
  have key : m_row (su (su I 55 0 ((l1.length / 256 : Nat) : Int)) 55 1 ((l1.length % 256 : Nat) : Int)) = ((l1.length / 256 : Nat) : Int) :: ((l1.length % 256 : Nat) : Int) :: (m_row I).drop 2 := by
    unfold m_row
    rw [su_f (f := 55) (g := 1000) (by decide), su_f (f := 55) (g := 1000) (by decide), ln]
    have e0 : ((l1.length + 1 + 1 : Nat) : Int).toNat = l1.length + 2 := by omega
    rw [e0]
    apply List.ext_getElem?
    intro i
    rw [List.getElem?_map]
    rcases Nat.lt_or_ge i (l1.length + 2) with c | c
    · rw [List.getElem?_range c]
      match i, c with
      | 0, _ => show some (su _ 55 1 _ 55 0) = _; rw [su_k (by decide), su_eq]; rfl
      | 1, _ => show some (su _ 55 1 _ 55 1) = _; rw [su_eq]; rfl
      | i + 2, c =>
        show some (su (su I 55 0 _) 55 1 _ 55 (i + 2)) = _
        rw [su_k (by omega), su_k (by omega), List.getElem?_cons_succ, List.getElem?_cons_succ, List.getElem?_drop, List.getElem?_map, List.getElem?_range (by omega)]
        rw [show 2 + i = i + 2 by omega]
        rfl
    · rw [List.getElem?_eq_none (by rw [List.length_range]; exact c)]
      match i, c with
      | i + 2, c =>
        rw [List.getElem?_cons_succ, List.getElem?_cons_succ, List.getElem?_drop, List.getElem?_eq_none (by rw [List.length_map, List.length_range]; omega)]
        rfl
  have h2d : ((m_row I).drop 2).map (w_sg (w_d mk)) = l1 := by
    rw [List.map_drop, h2]; rfl
  refine ⟨by rw [su_f (by decide), su_f (by decide)]; exact h0, ?_⟩
  rw [key]
  have a1 : ((l1.length / 256 : Nat) : Int) = (l1.length : Int) / 256 % 256 := by omega
  have a2 : ((l1.length % 256 : Nat) : Int) = (l1.length : Int) % 256 := by omega
  have s1 := w_sg_byte (mk := mk) (x := (l1.length : Int) / 256 % 256) (by omega) (by omega)
  have s2 := w_sg_byte (mk := mk) (x := (l1.length : Int) % 256) (by omega) (by omega)
  refine ⟨fun x hx => ?_, ?_⟩
  · rcases List.mem_cons.mp hx with c | hx
    · rw [c, a1]; exact s1.1
    · rcases List.mem_cons.mp hx with c | hx
      · rw [c, a2]; exact s2.1
      · exact h1 x (List.mem_of_mem_drop hx)
  · rw [List.map_cons, List.map_cons, h2d, a1, a2, s1.2, s2.2]
    rfl
end
