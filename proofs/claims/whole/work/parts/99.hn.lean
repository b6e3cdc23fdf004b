/-! ===== the reference: meeting, open ===== -/
noncomputable section
/-- the second part of a SEALED for this key alone, or nothing -/
def d_sb (a w : Wt) : Wt := @dite _ (∃ b L, w = w_t 6 a b [] L) (Classical.propDecidable _) (fun h => Classical.choose h) (fun _ => [])
/-- the first node whose secret is held opens its SEALED -/
def d_op (T : w_T) (hv : Nat → Wt) : List Nat → List Wt → Wt
  | y :: ys, w :: ts => if hv y = [] then d_op T hv ys ts else d_sb (t_ky T y) w
  | _, _ => []
/-- the SEALED of a path at a height -/
def d_tf (T : w_T) (l : Nat) (ns : List p_N) (k : Nat) : List Wt := ((ns[(t_wl T l k).length]?).map (fun n => n.2.2)).getD []
section
variable {K : Wt → Prop} {l : List Wt} {ep sd : Int} {b e1 : Nat} {es : List p_E} {sg cf tg a w b' : Wt} {f : p_L} {ns : List p_N} {L : List Wt} {i e : Nat} {nd : p_N} {c : Wt}
theorem d_drop {A : Type} {l : List A} {a : A} {i : Nat} (h : l[i]? = some a) : l.drop i = a :: l.drop (i + 1) := by
  obtain ⟨h1, h2⟩ := List.getElem?_eq_some_iff.mp h
  rw [List.drop_eq_getElem_cons h1, h2]
theorem w_t_inj {s t : Nat} {a b c a' b' c' : Wt} {L L' : List Wt} (h : w_t s a b c L = w_t t a' b' c' L') : s = t ∧ a = a' ∧ b = b' ∧ c = c' ∧ L = L' := by
  obtain ⟨h1, h2⟩ := w_mk_inj h
  simp only [List.cons.injEq] at h2
  exact ⟨h1, h2.1, h2.2.1, h2.2.2.1, h2.2.2.2⟩
theorem d_sb_1 (h : w = w_t 6 a b' [] L) : d_sb a w = b' := by
  have ex : ∃ b L, w = w_t 6 a b [] L := ⟨b', L, h⟩
  unfold d_sb
  rw [dif_pos ex]
  obtain ⟨L', h'⟩ := Classical.choose_spec ex
  exact (w_t_inj (h'.symm.trans h)).2.2.1
theorem d_sb_0 (h : ¬ ∃ b L, w = w_t 6 a b [] L) : d_sb a w = [] := by
  unfold d_sb
  rw [dif_neg h]
theorem p_many_ts {so : Nat} : ∀ {n i : Nat} {r : List Wt} {s : Nat × Nat}, p_many (p_t K so l) n (some (i, e)) = some (r, s) → ∀ (j : Nat) (w : Wt), r[j]? = some w → w = (l[i + j]?).getD [] ∧ w.head? = some so ∧ i + j < e ∧ K w
  | 0, i, r, s, h, j, w, hj => by
    by_cases c : i < e
    · rw [show p_many (p_t K so l) 0 (some (i, e)) = none from if_pos c] at h
      cases h
    · rw [p_many_e (by omega)] at h
      have h := Option.some.inj h
      rw [Prod.mk.injEq] at h
      rw [← h.1] at hj
      cases hj
  | n + 1, i, r, s, h, j, w, hj => by
    by_cases c : i < e
    · rw [p_many_s c, Option.bind_eq_some_iff] at h
      obtain ⟨⟨a, s1⟩, eo, h⟩ := h
      obtain ⟨x1, x2, x3, x4, x5⟩ := p_t_in eo
      subst x1
      rw [Option.map_eq_some_iff] at h
      obtain ⟨⟨r', s'⟩, h1, h2⟩ := h
      rw [Prod.mk.injEq] at h2
      have h2 : a :: r' = r := h2.1
      rw [← h2] at hj
      cases j with
      | zero =>
        have hj : a = w := Option.some.inj hj
        rw [← hj]
        exact ⟨x3, x4, x2, x5⟩
      | succ j =>
        have hj : r'[j]? = some w := hj
        have := p_many_ts (n := n) (i := i + 1) h1 j w hj
        rw [show i + 1 + j = i + (j + 1) by omega] at this
        exact this
    · rw [p_many_e (by omega)] at h
      have h := Option.some.inj h
      rw [Prod.mk.injEq] at h
      rw [← h.1] at hj
      cases hj
theorem p_nd_t {s : Nat × Nat} (h : p_nd K l (some (i, e)) = some (nd, s)) : ∀ (j : Nat) (w : Wt), nd.2.2[j]? = some w → w = (l[nd.2.1 + j]?).getD [] ∧ w.head? = some 6 ∧ nd.2.1 + j < e ∧ K w := by
  intro j w hj
  unfold p_nd at h
  rw [Option.bind_eq_some_iff] at h
  obtain ⟨⟨k, s1⟩, h1, h⟩ := h
  obtain ⟨x1, x2, _⟩ := p_t_in h1
  rw [Option.map_eq_some_iff] at h
  obtain ⟨⟨⟨s0, t⟩, s2⟩, h2, h3⟩ := h
  rw [Prod.mk.injEq] at h3
  have h3 : (k, s0, t) = nd := h3.1
  rw [← h3] at hj ⊢
  subst x1
  unfold p_row at h2
  rw [Option.bind_eq_some_iff] at h2
  obtain ⟨⟨en, i1, e2⟩, h6, h7⟩ := h2
  obtain ⟨r1, r2, r3, r4, _⟩ := p_r_ix h6
  rw [Option.bind_eq_some_iff] at h7
  obtain ⟨⟨t', s'⟩, h8, h9⟩ := h7
  have h8 : p_many (p_t K 6 l) (en - i1) (some (i1, en)) = some (t', s') := h8
  dsimp only at h9
  split at h9
  · have h9 := Option.some.inj h9
    rw [Prod.mk.injEq, Prod.mk.injEq] at h9
    obtain ⟨y1, y2, y3, y4⟩ := p_many_ts h8 j w (by rw [h9.1.2]; exact hj)
    have e0 : i1 = s0 := h9.1.1
    rw [e0] at y1 y3
    exact ⟨y1, y2, by show s0 + j < e; omega, y4⟩
  · cases h9
theorem p_cm_nd (h : p_cm K l ep sd b e1 es (some (f, ns)) sg cf tg) (hn : nd ∈ ns) : ∃ i e s, e ≤ l.length ∧ p_nd K l (some (i, e)) = some (nd, s) := by
  have h6 := h.2.2.2.2.2.1
  unfold p_wp at h6
  rw [Option.bind_eq_some_iff] at h6
  obtain ⟨⟨a, s⟩, h7, h8⟩ := h6
  obtain ⟨e, _⟩ := p_8_in h7
  dsimp only at h8
  split at h8
  · rw [Option.map_eq_some_iff] at h8
    obtain ⟨⟨⟨f', ns'⟩, s'⟩, h9, h10⟩ := h8
    rw [Prod.mk.injEq] at h10
    have h10 : (f', ns') = (f, ns) := Option.some.inj h10.1
    rw [Prod.mk.injEq] at h10
    unfold p_pa at h9
    rw [Option.bind_eq_some_iff] at h9
    obtain ⟨⟨f2, s2⟩, h11, h12⟩ := h9
    rw [e] at h11
    obtain ⟨_, z1, z2⟩ := p_lf_in.2 _ _ _ _ h11
    rw [Option.map_eq_some_iff] at h12
    obtain ⟨⟨⟨r0, r⟩, s4⟩, h13, h14⟩ := h12
    rw [Prod.mk.injEq, Prod.mk.injEq] at h14
    have e5 : r = ns' := h14.1.2
    have z2 : s2.2 = l.length := z2
    unfold p_row at h13
    rw [Option.bind_eq_some_iff] at h13
    obtain ⟨⟨en, i1, e2⟩, h15, h16⟩ := h13
    have h15 : p_r l (some (s2.1, s2.2)) = some (en, i1, e2) := h15
    obtain ⟨r1, r2, r3, r4, _⟩ := p_r_ix h15
    rw [Option.bind_eq_some_iff] at h16
    obtain ⟨⟨t', s'⟩, h17, h18⟩ := h16
    have h17 : p_many (p_nd K l) (en - i1) (some (i1, en)) = some (t', s') := h17
    dsimp only at h18
    split at h18
    · have h18 := Option.some.inj h18
      rw [Prod.mk.injEq, Prod.mk.injEq] at h18
      obtain ⟨j, s5, _, j2⟩ := p_many_in p_nd_fw h17 nd (by rw [h18.1.2, e5, h10.2]; exact hn)
      exact ⟨j, en, s5, by omega, j2⟩
    · cases h18
  · split at h8
    · have h8 := Option.some.inj h8
      rw [Prod.mk.injEq] at h8
      exact absurd h8.1 (by simp)
    · cases h8
end
variable {I I0 I1 J X : sr_V} {nn us fr : Nat} {K K' : Wt → Prop} {tl mk mm lm : List Wt} {Q : Int → sr_V → Prop} {R : sr_V → Prop} {m mi l k d s p : Nat} {P : Nat → Nat → Prop} {T : w_T} {ns : List p_N} {w v g : Wt} {t x y msk : Int} {hv : Nat → Wt}
theorem m_seal (hL : m_L I mk nn K tl) (ht : w_at mk t g) (h6 : g.head? = some 6) : ∃ a b c L, g = w_t 6 a b c L ∧ w_at mk (I 7 t.toNat) a ∧ w_at mk (I 8 t.toNat) b ∧ w_az mk (I 9 t.toNat) c := by
  obtain ⟨t1, t2, t3, rw', eg, _⟩ := m_L_rw hL ht
  obtain ⟨va, f0, f1, f2, hsn, hd, hn⟩ := rw'
  have e4 := hL.2.2.2.1
  have c8 : I 6 t.toNat ≠ 8 := fun c => by
    obtain ⟨i, _, hi⟩ := hn c
    rw [eg] at hi
    rw [hi] at h6
    cases h6
  have hd := hd c8
  rw [eg] at hd
  clear hn hsn
  obtain ⟨v0, v1, v2, v3, v4, v5, v6, _, v7, _, _, _, _, v8⟩ := va
  have c6 : I 6 t.toNat = 6 := by
    rw [hd] at h6
    have h6 : some (I 6 t.toNat).toNat = some 6 := h6
    have := Option.some.inj h6
    omega
  have v8 := v8 c6
  have v7 := v7 (by omega)
  have len : ((mk.length : Nat) : Int) = I 1000 4 := by omega
  have z7 := w_at_of (mk := mk) (x := I 7 t.toNat) (by omega) (by omega)
  have z8 := w_at_of (mk := mk) (x := I 8 t.toNat) (by omega) (by omega)
  have z9 := w_az_of (mk := mk) (x := I 9 t.toNat) (by omega) (by omega)
  refine ⟨_, _, _, (m_sn I t.toNat).map (w_sg (w_d mk)), ?_, z7, z8, z9⟩
  rw [hd, c6]
  unfold w_tm w_t
  rw [if_neg (by decide)]
  have d7 : w_dz (w_d mk) (I 7 t.toNat) = w_d mk (I 7 t.toNat).toNat := by unfold w_dz; rw [if_neg (by omega)]
  have d8 : w_dz (w_d mk) (I 8 t.toNat) = w_d mk (I 8 t.toNat).toNat := by unfold w_dz; rw [if_neg (by omega)]
  rw [d7, d8]
  rfl
theorem r_mt_2 (hw : m_wy I T l) (hl : l < 2 ^ t_dp T) (h4 : t_dp T ≤ 4) (hp : p < 2 ^ t_dp T) (q : ∀ k, k < t_dp T → t_cb T l k ≠ 0 → k = t_mf T l p 0 (t_dp T) → Q k I) : ∀ (n k m' : Nat), k + m' = t_dp T → m' < n → t_mf T l p k m' = t_mf T l p 0 (t_dp T) → (∃ j, k ≤ j ∧ j < t_dp T ∧ t_cb T l j ≠ 0 ∧ t_ab p (j + 1) = t_ab l (j + 1)) → rl_230_2 Q n p k I
  | 0, _, _, _, h, _, _ => by omega
  | n + 1, k, m', hk, hn, hf, ⟨j, j1, j2, j3, j4⟩ => by
    have d16 := t_d_16 h4
    have w31 := t_w_4 h4
    obtain ⟨m', em⟩ : ∃ m0, m' = m0 + 1 := ⟨m' - 1, by omega⟩
    subst em
    obtain ⟨w1, _, w2⟩ := hw.2 k (by omega)
    unfold rl_230_2
    intro v5 e5 _
    rw [hw.1] at e5
    refine ⟨fun c => by omega, fun _ => ⟨by omega, by omega, ?_⟩⟩
    intro v8 e8 _
    rw [Int.toNat_natCast, w2] at e8
    subst e8
    have next : ¬ (t_cb T l k ≠ 0 ∧ t_ab p (k + 1) = t_ab l (k + 1)) → rb_230_21 Q (rl_230_2 Q n) p k I := fun hne => by
      unfold rb_230_21
      intro y1 e1
      rw [sw_s1 (by omega)] at e1
      subst e1
      have ef : t_mf T l p k (m' + 1) = t_mf T l p (k + 1) m' := if_neg hne
      have jk : j ≠ k := fun e => hne (by rw [← e]; exact ⟨j3, j4⟩)
      exact r_mt_2 hw hl h4 hp q n (k + 1) m' (by omega) (by omega) (by rw [← ef]; exact hf) ⟨j, by omega, j2, j3, j4⟩
    refine ⟨fun c0 => next (fun cc => cc.1 c0), fun c0 => ⟨by omega, by omega, ?_⟩⟩
    intro v11 e11 _
    rw [Int.toNat_natCast, w1] at e11
    subst e11
    have aw := t_ab_w h4 hl (h := k + 1) (by omega)
    have eh : w_h (t_ab l (k + 1)) = k + 1 := (w_h_ab ⟨l, by omega⟩ ⟨k + 1, by omega⟩).1
    refine r_isBelow (x := t_ab l (k + 1)) (by omega) (by omega) (by rw [eh]; omega) (fun j' hj' => ?_) (fun e1 => ?_) (fun e1 => ?_)
    · rw [eh] at hj'
      have := t_ab_w h4 hp (h := j') (by omega)
      omega
    · rw [eh] at e1
      intro _
      refine ⟨fun cc => absurd cc (by decide), fun _ => ?_⟩
      have ef : t_mf T l p k (m' + 1) = k := if_pos ⟨c0, e1⟩
      exact q k (by omega) c0 (by rw [← hf, ef])
    · rw [eh] at e1
      intro _
      exact ⟨fun _ => next (fun cc => e1 cc.2), fun cc => absurd rfl cc⟩
theorem r_meeting (hw : m_wy I T l) (hl : l < 2 ^ t_dp T) (h4 : t_dp T ≤ 4) (hp : t_is T p) (hne : p ≠ l) (q : ∀ k, k < t_dp T → t_cb T l k ≠ 0 → k = t_mf T l p 0 (t_dp T) → Q k I) : rm_230 p I Q := by
  obtain ⟨j, j1, j2, j3⟩ := t_meet h4 hl hp hne
  unfold rm_230
  exact ⟨t_dp T + 1, r_mt_2 hw hl h4 hp.1 q _ 0 (t_dp T) (by omega) (by omega) rfl ⟨j, Nat.zero_le _, j1, j2, j3⟩⟩
theorem r_op_6 (hL : m_L I mk nn K tl) (ht : m_tr I mk 48 T) (hx : m_tk I mk K' fr lm) {ys : List Nat} {ts : List Wt} {pf : Nat} (hz : m_rz I ys) (hlen : ys.length = ts.length) (h200 : ys.length ≤ 200) (hy : ∀ y ∈ ys, y < t_w T ∧ t_ky T y ≠ []) (hk : k < 1100) (h97 : I 97 k = ((fr + pf : Nat) : Int)) (hts : ∀ (j : Nat) (w : Wt), ts[j]? = some w → w = (lm[pf + j]?).getD [] ∧ w.head? = some 6 ∧ pf + j < lm.length) (hh : ∀ x, x < t_w T → w_az mk (I 44 (1488 + x)) (hv x)) (q : ∀ z, w_az mk z (d_op T hv ys ts) → Q z I) : ∀ (n i : Nat), i ≤ ys.length → ys.length - i < n → d_op T hv (ys.drop i) (ts.drop i) = d_op T hv ys ts → rl_231_6 Q n k i I
  | 0, _, _, h, _ => by omega
  | n + 1, i, hi, hn, hd => by
    have h4 := ht.1.1
    have w31 := t_w_4 h4
    unfold rl_231_6
    intro v1 e1 _
    rw [hz.1] at e1
    refine ⟨fun c => ?_, fun c => ⟨by omega, by omega, ?_⟩⟩
    · rw [List.drop_of_length_le (by omega), List.drop_of_length_le (by omega)] at hd
      refine q 0 (Or.inl ⟨rfl, ?_⟩)
      rw [← hd]
      rfl
    have il : i < ys.length := by omega
    obtain ⟨y, ey⟩ : ∃ y, ys[i]? = some y := ⟨_, List.getElem?_eq_getElem il⟩
    obtain ⟨w, ew⟩ : ∃ w, ts[i]? = some w := ⟨_, List.getElem?_eq_getElem (by omega)⟩
    obtain ⟨y1, y2⟩ := hy y (List.mem_of_getElem? ey)
    obtain ⟨t1, t2, t3⟩ := hts i w ew
    have dy : ys.drop i = y :: ys.drop (i + 1) := d_drop ey
    have dw : ts.drop i = w :: ts.drop (i + 1) := d_drop ew
    rw [dy, dw] at hd
    have hd : (if hv y = [] then d_op T hv (ys.drop (i + 1)) (ts.drop (i + 1)) else d_sb (t_ky T y) w) = d_op T hv ys ts := hd
    intro v4 e4 _
    rw [Int.toNat_natCast, hz.2 i y ey] at e4
    rw [e4]
    refine r_spot (s := 48) (by decide) (by omega) ?_
    intro _
    refine ⟨by omega, by omega, ?_⟩
    intro v17 e17 _
    rw [Int.toNat_natCast, show 31 * 48 + y = 1488 + y by omega] at e17
    have hy2 := hh y y1
    rw [← e17] at hy2
    refine ⟨fun c1 => ⟨by omega, by omega, ?_⟩, fun c1 => ?_⟩
    · have hne : hv y ≠ [] := fun e => by
        rcases hy2 with ⟨g, _⟩ | g
        · exact c1 g
        · exact w_at_ne hL g e
      rw [if_neg hne] at hd
      intro v20 e20 _
      rw [Int.toNat_natCast, h97] at e20
      have hb := hx.2.1
      have e21 : sw_w (v20 + i) = ((fr + (pf + i) : Nat) : Int) := by rw [e20, sw_w_s (by omega) (by omega)]; omega
      rw [e21]
      clear e21
      refine ⟨by omega, by omega, ?_⟩
      intro v23 e23 _
      rw [Int.toNat_natCast] at e23
      obtain ⟨w', ew'⟩ : ∃ w', lm[pf + i]? = some w' := ⟨_, List.getElem?_eq_getElem t3⟩
      rw [ew'] at t1
      have t1 : w = w' := t1
      obtain ⟨a1, a2⟩ := hx.1 (pf + i) w' ew'
      rw [← e23, ← t1] at a2
      rw [← e23] at a1
      obtain ⟨a3, a4⟩ := a1
      have c2 : ¬ v23 < 256 := fun c => by
        unfold w_sg at a2
        rw [if_pos c] at a2
        rw [← a2] at t2
        cases t2
      unfold w_sg at a2
      rw [if_neg c2] at a2
      have hmk := hx.2.2.1
      intro y26 e26
      rw [sw_w_s (by omega) (by omega)] at e26
      have at26 : w_at mk y26 w := by
        have := w_at_of (mk := mk) (x := y26) (by omega) (by omega)
        rw [e26, a2] at this
        rw [e26]
        exact this
      obtain ⟨a, b, cc, L', eg, p7, p8, p9⟩ := m_seal hL at26 t2
      refine ⟨by omega, by omega, ?_⟩
      intro v30 e30 _
      refine ⟨by omega, by omega, ?_⟩
      intro v33 e33 _
      rw [Int.toNat_natCast] at e33
      have k37 := w_az_ne (ht.2.2.1 y y1).2.1 y2
      rw [← e33] at k37
      rw [← e30] at p7
      have bad : (a ≠ t_ky T y ∨ cc ≠ []) → Q 0 I := fun hbad => q 0 (Or.inl ⟨rfl, by
        rw [← hd]
        refine d_sb_0 (fun ⟨b2, L2, h2⟩ => ?_)
        obtain ⟨_, i1, _, i3, _⟩ := w_t_inj (eg.symm.trans h2)
        rcases hbad with h | h
        · exact h i1
        · exact h i3⟩)
      refine ⟨fun c3 => bad (Or.inl (fun e => c3 ?_)), fun c3 => ⟨by omega, by omega, ?_⟩⟩
      · rw [e] at p7
        exact w_at_inj (m_L_nd hL) p7 k37
      have ea : a = t_ky T y := by
        rw [c3] at p7
        exact w_at_fun p7 k37
      intro v36 e36 _
      rw [← e36] at p9
      refine ⟨fun c4 => bad (Or.inr (fun e => c4 ?_)), fun c4 => ⟨by omega, by omega, ?_⟩⟩
      · rcases p9 with ⟨g, _⟩ | g
        · exact g
        · exact absurd e (w_at_ne hL g)
      have ec : cc = [] := by
        rcases p9 with ⟨_, g⟩ | g
        · exact g
        · have := (w_at_le g).1
          omega
      intro v39 e39 _
      rw [← e39] at p8
      refine q v39 (Or.inr ?_)
      rw [← hd, d_sb_1 (b' := b) (L := L') (by rw [eg, ea, ec])]
      exact p8
    · have e0 : hv y = [] := by
        rcases hy2 with ⟨_, g⟩ | g
        · exact g
        · have := (w_at_le g).1
          omega
      rw [if_pos e0] at hd
      intro y44 e44
      rw [sw_s1 (by omega)] at e44
      rw [e44]
      exact r_op_6 hL ht hx hz hlen h200 hy hk h97 hts hh q n (i + 1) (by omega) (by omega) hd
theorem r_open (hL : m_L I mk nn K tl) (ht : m_tr I mk 48 T) (hx : m_tk I mk K' fr lm) {ts : List Wt} {pf : Nat} (hl : l < 2 ^ t_dp T) (hkd : k < t_dp T) (h91 : I 91 k = ((t_si l k : Nat) : Int)) (h83 : I 1000 83 = msk) (hm : 0 ≤ msk ∧ msk < 65536) (hu : ∀ y ∈ w_rs T k (t_si l k), y < t_w T ∧ t_ky T y ≠ []) (hlen : (w_rq T msk l k).length = ts.length) (h200 : (w_rq T msk l k).length ≤ 200) (h97 : I 97 k = ((fr + pf : Nat) : Int)) (hts : ∀ (j : Nat) (w : Wt), ts[j]? = some w → w = (lm[pf + j]?).getD [] ∧ w.head? = some 6 ∧ pf + j < lm.length) (hh : ∀ x, x < t_w T → w_az mk (I 44 (1488 + x)) (hv x)) (q : ∀ z J, w_az mk z (d_op T hv (w_rq T msk l k) ts) → m_gp m_prs I J → Q z J) : rm_231 x k I Q := by
  have h4 := ht.1.1
  have w31 := t_w_4 h4
  unfold rm_231
  refine r_resolveSide (s := 48) (by decide) ht hl hkd h91 h83 hm (fun y hy => by have := (hu y hy).1; omega) (fun J hz gJ => ?_)
  have xJ : m_tk J mk K' fr lm := by
    have ea : ∀ g, g = 26 ∨ g = 16 ∨ g = 6 → J g = I g := fun g hg => funext (fun k => gJ g k (by unfold m_prs; omega))
    unfold m_tk at hx ⊢
    rw [ea 26 (by omega), ea 16 (by omega), ea 6 (by omega)]
    exact hx
  refine ⟨(w_rq T msk l k).length + 1, r_op_6 (m_L_gp hL gJ (fun f k p => by unfold m_prs at p; omega)) (m_tr_gp ht gJ (fun f k p q => by unfold m_pl at p; unfold m_prs at q; omega)) xJ hz hlen h200 (fun y hy => hu y (List.mem_filter.mp hy).1) (by omega) (by rw [gJ 97 k (by unfold m_prs; omega)]; exact h97) hts (fun x hx => by rw [gJ 44 _ (by unfold m_prs; omega)]; exact hh x hx) (fun z hz => q z J hz gJ) _ 0 (by omega) (by omega) rfl⟩
end
