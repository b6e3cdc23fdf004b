/-! ===== the class: sealedFor ===== -/
noncomputable section
/-- the SEALED of the first node whose secret is held, if it is for that node's key -/
def d_fs (T : w_T) (hv : Nat → Wt) : List Nat → List Wt → Wt
  | y :: ys, w :: ts => if hv y = [] then d_fs T hv ys ts else @ite _ (∃ b c L, w = w_t 6 (t_ky T y) b c L) (Classical.propDecidable _) w []
  | _, _ => []
section
variable {T : w_T} {hv : Nat → Wt}
theorem d_op_fs : ∀ (ys : List Nat) (ts : List Wt), (d_fs T hv ys ts = [] → (∀ w ∈ ts, w ≠ []) → d_op T hv ys ts = []) ∧ ∀ a b c L, d_fs T hv ys ts = w_t 6 a b c L → d_op T hv ys ts = if c = [] then b else []
  | [], ts => by
    have e1 : d_fs T hv [] ts = [] := by cases ts <;> rfl
    have e2 : d_op T hv [] ts = [] := by cases ts <;> rfl
    exact ⟨fun _ _ => e2, fun a b c L h => by rw [e1] at h; exact absurd h.symm (w_t_ne _ _ _ _ _)⟩
  | y :: ys, [] => ⟨fun _ _ => rfl, fun a b c L h => absurd h.symm (w_t_ne _ _ _ _ _)⟩
  | y :: ys, w :: ts => by
    have ih := d_op_fs ys ts
    have e1 : d_fs T hv (y :: ys) (w :: ts) = if hv y = [] then d_fs T hv ys ts else @ite _ (∃ b c L, w = w_t 6 (t_ky T y) b c L) (Classical.propDecidable _) w [] := rfl
    have e2 : d_op T hv (y :: ys) (w :: ts) = if hv y = [] then d_op T hv ys ts else d_sb (t_ky T y) w := rfl
    rw [e1, e2]
    by_cases c0 : hv y = []
    · rw [if_pos c0, if_pos c0]
      exact ⟨fun h hw => ih.1 h (fun w hw' => hw w (List.mem_cons_of_mem _ hw')), ih.2⟩
    · rw [if_neg c0, if_neg c0]
      by_cases c1 : ∃ b c L, w = w_t 6 (t_ky T y) b c L
      · rw [if_pos c1]
        refine ⟨fun h hw => absurd h (hw w (List.mem_cons_self ..)), fun a b c L h => ?_⟩
        obtain ⟨b', c', L', h'⟩ := c1
        obtain ⟨_, e1, e2, e3, e4⟩ := w_t_inj (h.symm.trans h')
        by_cases cc : c = []
        · rw [if_pos cc]
          exact d_sb_1 (L := L) (by rw [h, e1, cc])
        · rw [if_neg cc]
          refine d_sb_0 (fun ⟨b2, L2, h2⟩ => cc ?_)
          exact (w_t_inj (h.symm.trans h2)).2.2.2.1
      · rw [if_neg c1]
        refine ⟨fun _ _ => d_sb_0 (fun ⟨b2, L2, h2⟩ => c1 ⟨b2, [], L2, h2⟩), fun a b c L h => absurd h.symm (w_t_ne _ _ _ _ _)⟩
end
variable {H Z X : sw_H} {nn r ra g l k i : Nat} {K : Wt → Prop} {tl mk lm : List Wt} {cn cs msk : Int} {P : Int → sw_H → Prop} {T T0 : w_T} {hs : List Nat} {hv : Nat → Wt} {x : Int} {w key : Wt} {ns : List p_N} {s0 : Nat} {ts : List Wt}
theorem c_seal (hL : c_L H mk nn K tl) (hx : w_at mk x w) (h6 : w.head? = some 6) : ∃ a b c L, w = w_t 6 a b c L := by
  obtain ⟨t1, t2, rw', eg⟩ := c_L_rw hL hx
  obtain ⟨va, f0, f1, f2, hsn, hd, hn⟩ := rw'
  by_cases c8 : c_d H x.toNat 0 = 0
  · rcases hn c8 with ⟨_, hi⟩ | ⟨_, i, _, hi⟩
    · rw [eg] at hi
      rw [hi] at h6
      cases h6
    · rw [eg] at hi
      rw [hi] at h6
      cases h6
  · have hd := (hd c8).1
    rw [eg] at hd
    have v0 := va.1
    have s6 : c_d H x.toNat 0 = 6 := by
      rw [hd] at h6
      have h6 : some (c_d H x.toNat 0).toNat = some 6 := h6
      have := Option.some.inj h6
      omega
    rw [s6] at hd
    unfold w_tm at hd
    rw [if_neg (by decide)] at hd
    exact ⟨_, _, _, _, hd⟩
theorem c_seal_a {a b c : Wt} {L : List Wt} (hL : c_L H mk nn K tl) (hx : w_at mk x (w_t 6 a b c L)) : a ≠ [] := by
  intro e
  have z : c_d H x.toNat 1 = 0 := by
    rcases (c_parts hL hx (by decide)).1 with ⟨g, _⟩ | g
    · exact g
    · exact absurd e (c_at_ne hL g)
  obtain ⟨t1, t2, rw', eg⟩ := c_L_rw hL hx
  obtain ⟨va, f0, f1, f2, hsn, hd, hn⟩ := rw'
  by_cases c8 : c_d H x.toNat 0 = 0
  · rcases hn c8 with ⟨_, hi⟩ | ⟨_, i, _, hi⟩
    · rw [eg] at hi
      have := (w_mk_inj hi).1
      omega
    · rw [eg] at hi
      have := (w_mk_inj hi).1
      omega
  · have hd := (hd c8).1
    rw [eg] at hd
    have v0 := va.1
    have s6 : c_d H x.toNat 0 = 6 := by
      have := (w_mk_inj hd).1
      omega
    clear hn hd
    obtain ⟨_, _, _, _, _, _, _, _, _, _, _, _, _, v⟩ := va
    have := (v s6).1
    omega
theorem c_sf_8 (hV : c_V H mk nn K tl cn cs) (hTa : c_Ta H) (h18 : sw_ty H 18 = 72) (hPa : c_Pa H) (hRe : c_Re H) (gs : c_gs H g) (ht : c_tr H mk (g + 1) T) (hk : c_pk2 H T0 msk l hs) (hi : hs[i]? = some k) (i4 : i < 4) (h576 : (w_sq T0 msk l hs).length ≤ 576) (hn : sw_iv H 20 i = (s0 : Nat)) (hsg : c_sg H (w_d mk) r ra lm) (hlm : lm.length ≤ 1400) (hlen : (w_rq T0 msk l k).length = ts.length) (hts : ∀ (j : Nat) (w : Wt), ts[j]? = some w → w = (lm[s0 + j]?).getD [] ∧ w.head? = some 6 ∧ s0 + j < lm.length) (hy : ∀ y ∈ w_rq T0 msk l k, y < t_w T ∧ t_ky T y ≠ []) (hh : ∀ x, x < t_w T → w_az mk (sw_iv H (g + 22) x) (hv x)) (q : ∀ z, w_az mk z (d_fs T hv (w_rq T0 msk l k) ts) → P z H) : ∀ (n j : Nat), j ≤ ts.length → ts.length - j < n → d_fs T hv ((w_rq T0 msk l k).drop j) (ts.drop j) = d_fs T hv (w_rq T0 msk l k) ts → wl_368_8 P n 94 g r i ((w_sq T0 msk l (hs.take i)).length : Nat) ((w_sq T0 msk l (hs.take i)).length + j : Nat) H
  | 0, _, _, h, _ => by omega
  | n + 1, j, hj, hn', hd => by
    obtain ⟨t94, r0, r1, r2, r3, r4, _⟩ := id hTa
    obtain ⟨p0, p1, p7, p8, p9, ⟨p91a, p91b⟩, ⟨p92a, p92b⟩, _⟩ := id hPa
    obtain ⟨k1, k2, k3, k4⟩ := hk
    have il : i < hs.length := (List.getElem?_eq_some_iff.mp hi).1
    have h4 := ht.2.1.1
    have w31 := t_w_4 h4
    have nd := c_L_nd hV.1
    have esq : (w_sq T0 msk l (hs.take (i + 1))).length = (w_sq T0 msk l (hs.take i)).length + ts.length := by
      rw [List.take_add_one, hi]
      unfold w_sq
      rw [List.flatMap_append, List.length_append]
      simp [hlen]
    have lsq : (w_sq T0 msk l (hs.take (i + 1))).length ≤ (w_sq T0 msk l hs).length := by
      have e : hs = hs.take (i + 1) ++ hs.drop (i + 1) := (List.take_append_drop _ _).symm
      have : (w_sq T0 msk l hs).length = (w_sq T0 msk l (hs.take (i + 1))).length + (w_sq T0 msk l (hs.drop (i + 1))).length := by
        conv => lhs; rw [e]
        unfold w_sq
        rw [List.flatMap_append, List.length_append]
      omega
    unfold wl_368_8
    rw [r4]
    refine ⟨p0, ?_⟩
    intro q1 e1
    rw [e1, p7]
    refine ⟨p91a, ?_⟩
    intro q4 e4
    have i1 : sw_w ((i : Int) + 1) = ((i + 1 : Nat) : Int) := by rw [sw_w_s (by omega) (by omega)]; omega
    rw [i1, e4]
    clear i1
    refine ⟨by omega, by rw [p91b]; omega, ?_⟩
    intro v7 e7 _
    rw [Int.toNat_natCast, k3 (i + 1) (by omega), esq] at e7
    refine ⟨fun c => ?_, fun c => ⟨p0, ?_⟩⟩
    · have ej : j = ts.length := by omega
      rw [ej, List.drop_of_length_le (by omega), List.drop_of_length_le (by omega)] at hd
      refine q 0 (Or.inl ⟨rfl, ?_⟩)
      rw [← hd]
      rfl
    have jl : j < ts.length := by omega
    obtain ⟨y, ey⟩ : ∃ y, (w_rq T0 msk l k)[j]? = some y := ⟨_, List.getElem?_eq_getElem (by omega)⟩
    obtain ⟨w, ew⟩ : ∃ w, ts[j]? = some w := ⟨_, List.getElem?_eq_getElem jl⟩
    obtain ⟨y1, y2⟩ := hy y (List.mem_of_getElem? ey)
    obtain ⟨t1, t2, t3⟩ := hts j w ew
    rw [d_drop ey, d_drop ew] at hd
    have hd : (if hv y = [] then d_fs T hv ((w_rq T0 msk l k).drop (j + 1)) (ts.drop (j + 1)) else @ite _ (∃ b c L, w = w_t 6 (t_ky T y) b c L) (Classical.propDecidable _) w []) = d_fs T hv (w_rq T0 msk l k) ts := hd
    intro q10 e10
    rw [e10, p8]
    refine ⟨p92a, ?_⟩
    intro q13 e13
    rw [e13]
    refine ⟨by omega, by rw [p92b]; omega, ?_⟩
    intro v16 e16 _
    rw [Int.toNat_natCast, k4 _ y (w_sq_at hi ey)] at e16
    rw [gs.2.2.2.2.1]
    refine ⟨gs.2.2.2.2.2.1, ?_⟩
    intro q22 e22
    rw [e22, e16]
    refine ⟨by omega, by rw [gs.2.2.2.2.2.2.1]; omega, ?_⟩
    intro v25 e25 _
    rw [Int.toNat_natCast] at e25
    have hy2 := hh y y1
    rw [← e25] at hy2
    refine ⟨fun c1 => ?_, fun c1 => ?_⟩
    · have e0 : hv y = [] := by
        rcases hy2 with ⟨_, g⟩ | g
        · exact g
        · have := (w_at_le g).1
          omega
      rw [if_pos e0] at hd
      intro y28 e28
      have i2 : y28 = (((w_sq T0 msk l (hs.take i)).length + (j + 1) : Nat) : Int) := by rw [e28, sw_w_s (by omega) (by omega)]; omega
      clear e28
      rw [i2]
      exact c_sf_8 hV hTa h18 hPa hRe gs ht ⟨k1, k2, k3, k4⟩ hi i4 h576 hn hsg hlm hlen hts hy hh q n (j + 1) (by omega) (by omega) hd
    · have hne : hv y ≠ [] := fun e => by
        rcases hy2 with ⟨g, _⟩ | g
        · exact c1 g
        · exact c_at_ne hV.1 g e
      rw [if_neg hne] at hd
      rw [r2]
      refine ⟨h18, ?_⟩
      intro q32 e32
      rw [e32, hRe.1.2.1]
      refine ⟨(hRe.2.1 20 (by decide) (by decide)).1, ?_⟩
      intro q35 e35
      rw [e35]
      refine ⟨by omega, by rw [(hRe.2.1 20 (by decide) (by decide)).2]; omega, ?_⟩
      intro v38 e38 _
      rw [Int.toNat_natCast, hn] at e38
      have i3 : sw_w ((sw_w (v38 + ((w_sq T0 msk l (hs.take i)).length + j : Nat))) - ((w_sq T0 msk l (hs.take i)).length : Nat)) = ((s0 + j : Nat) : Int) := by
        rw [e38, sw_w_s (z := (s0 : Int) + _) (by omega) (by omega), sw_w_s (by omega) (by omega)]
        omega
      rw [i3]
      clear i3
      obtain ⟨w', ew'⟩ : ∃ w', lm[s0 + j]? = some w' := ⟨_, List.getElem?_eq_getElem t3⟩
      rw [ew'] at t1
      have t1 : w = w' := t1
      refine c_s_termAt hV.1.2.1 hsg ew' (by rw [← t1, t2]; decide) (fun z44 w44 _ _ => ?_)
      rw [← t1] at w44
      rw [r0]
      refine ⟨(c_V_sh hV).1.1, ?_⟩
      intro q49 e49
      rw [e49]
      obtain ⟨a, b, cc, L', eg⟩ := c_seal hV.1 w44 t2
      have pts := c_parts hV.1 (by rw [← eg]; exact w44) (by decide)
      obtain ⟨le1, le2⟩ := w_at_le w44
      have e44 : ((z44.toNat : Nat) : Int) = z44 := by omega
      have fo : wm_122 3 (z44.toNat : Nat) H (fun z55 H52 => sw_c z55 → sw_ext H H52 → sw_ty H52 (sw_rv H52 g 0) = 104 ∧ ∀ q57, q57 = sw_rv H52 g 0 → sw_ty H52 (sw_rv H52 q57 1) = 1 ∧ ∀ q60, q60 = sw_rv H52 q57 1 → 0 ≤ ((y : Nat) : Int) ∧ ((y : Nat) : Int) < sw_ln H52 q60 ∧ ∀ v63, v63 = sw_iv H52 q60 ((y : Nat) : Int).toNat → sw_c v63 → (z55 ≠ v63 → P 0 H52) ∧ (z55 = v63 → P z44 H52)) := by
        refine c_firstOf (c_V_sh hV) (by rw [hV.1.2.1]; omega) (fun _ _ => ?_)
        rw [gs.2.2.2.1]
        refine ⟨ht.1.2.2.1, ?_⟩
        intro q57 e57
        rw [e57, ht.1.2.2.2.1]
        refine ⟨(ht.1.2.2.2.2.2.2.2.1 1 (by decide) (by decide)).1, ?_⟩
        intro q60 e60
        rw [e60]
        refine ⟨by omega, by rw [(ht.1.2.2.2.2.2.2.2.1 1 (by decide) (by decide)).2]; omega, ?_⟩
        intro v63 e63 _
        rw [Int.toNat_natCast] at e63
        have k37 := w_az_ne (ht.2.2.2.1 y y1).1 y2
        rw [← e63] at k37
        have ane : a ≠ [] := c_seal_a hV.1 (by rw [← eg]; exact w44)
        have p1 := w_az_at pts.1 ane
        refine ⟨fun c3 => q 0 (Or.inl ⟨rfl, ?_⟩), fun c3 => q z44 (Or.inr ?_)⟩
        · have nx : ¬ ∃ b c L, w = w_t 6 (t_ky T y) b c L := fun ⟨b2, c2, L2, h2⟩ => c3 (by
            rw [(w_t_inj (eg.symm.trans h2)).2.1] at p1
            exact w_at_inj nd p1 k37)
          rw [← hd, if_neg nx]
        · rw [c3] at p1
          rw [← hd, if_pos ⟨b, cc, L', by rw [eg, w_at_fun p1 k37]⟩]
          exact w44
      rw [e44] at fo
      exact fo
end
