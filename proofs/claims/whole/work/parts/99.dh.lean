/-! ===== the class: the Reader's readNode, readTree ===== -/
noncomputable section
variable {H Z X Y : sw_H} {nn nm r ra g m : Nat} {K K' S : Wt → Prop} {tl mk mm l : List Wt} {a b c n cn cs N U M : Int} {Q : sw_H → Prop} {P : Int → sw_H → Prop} {A B : List Nat} {w : Wt} {st : p_S} {x i e : Nat} {done ns : List p_V} {v : p_V}
/-- a LEAF of the Reader's tree -/
def c_nl (H : sw_H) (mk : List Wt) (p : Nat) : p_L → Prop
  | (m, k, p', so, ph, g) => c_lf H mk p m k p' so ph ∧ w_at mk (sw_iv H p 5) g
/-- the nodes that were read, in the Reader's tree -/
def c_nds (H : sw_H) (mk : List Wt) (ns : List p_V) : Prop := (∀ (x : Nat) (v : p_V), ns[x]? = some v → w_az mk (sw_iv H 24 x) v.2.2.1 ∧ w_az mk (sw_iv H 25 x) v.2.2.2.1 ∧ sw_iv H 26 x = v.2.2.2.2 ∧ (v.1 = 1 → c_nl H mk (28 + x / 2) v.2.1)) ∧ ∀ x, ns.length ≤ x → x < 31 → sw_iv H 24 x = 0 ∧ sw_iv H 25 x = 0 ∧ sw_iv H 26 x = 0
theorem c_nl_iv {p : Nat} {f : p_L} (h : c_nl H mk p f) (e : sw_iv Z p = sw_iv H p) : c_nl Z mk p f := by
  obtain ⟨m, k, p', so, ph, g⟩ := f
  obtain ⟨h1, h2⟩ := h
  exact ⟨c_lf_iv h1 (fun f _ => by rw [e]) (w_le_refl _), by rw [e]; exact h2⟩
theorem c_nds_snoc (h : c_nds H mk done) (hx : done.length = x) (hx31 : x < 31) (e1 : ∀ j, j ≠ x → sw_iv Z 24 j = sw_iv H 24 j ∧ sw_iv Z 25 j = sw_iv H 25 j ∧ sw_iv Z 26 j = sw_iv H 26 j) (e2 : ∀ k, 2 * k ≠ x → sw_iv Z (28 + k) = sw_iv H (28 + k)) (hv : w_az mk (sw_iv Z 24 x) v.2.2.1 ∧ w_az mk (sw_iv Z 25 x) v.2.2.2.1 ∧ sw_iv Z 26 x = v.2.2.2.2) (hl : v.1 = 1 → c_nl Z mk (28 + x / 2) v.2.1) (he : v.1 = 1 → x % 2 = 0) (hev : ∀ (j : Nat) u, done[j]? = some u → u.1 = 1 → j % 2 = 0) : c_nds Z mk (done ++ [v]) := by
  obtain ⟨h1, h2⟩ := h
  refine ⟨fun j u hj => ?_, fun j hj hj31 => ?_⟩
  · by_cases cj : j < done.length
    · rw [List.getElem?_append_left cj] at hj
      obtain ⟨a1, a2, a3, a4⟩ := h1 j u hj
      obtain ⟨b1, b2, b3⟩ := e1 j (by omega)
      rw [b1, b2, b3]
      refine ⟨a1, a2, a3, fun hu => ?_⟩
      have ev := hev j u hj hu
      exact c_nl_iv (a4 hu) (e2 (j / 2) (by omega))
    · have ej : j = x := by
        have := (List.getElem?_eq_some_iff.mp hj).1
        rw [List.length_append] at this
        simp at this
        omega
      subst ej
      rw [List.getElem?_append_right (by omega), hx, Nat.sub_self] at hj
      have hj := Option.some.inj hj
      subst hj
      exact ⟨hv.1, hv.2.1, hv.2.2, hl⟩
  · rw [List.length_append] at hj
    simp at hj
    obtain ⟨b1, b2, b3⟩ := e1 j (by omega)
    rw [b1, b2, b3]
    exact h2 j (by omega) hj31
theorem sw_and_f31 : ∀ x : Fin 31, sw_and (x.val : Int) 1 = ((x.val % 2 : Nat) : Int) := by decide
theorem sw_shr_1 : ∀ x : Fin 31, sw_shr (x.val : Int) 1 = ((x.val / 2 : Nat) : Int) := by decide
theorem c_readNode (r43 : 43 < r ∧ 43 < ra) (hml : mk.length ≤ 999999999) (hx31 : x < 31) (hvl : w_vl l) (hV : c_V H mk nn K tl cn cs) (hRe : c_Re H) (hs : c_rs H mk r ra l) (h : c_rd H l (some (i, e))) (hN : c_nds H mk done) (hx : done.length = x) (hok : ∀ (j : Nat) u, done[j]? = some u → w_vok K j u) (q : ∀ G, c_rd G l (p_to (p_no K l x (some (i, e)))) → (∀ v s, p_no K l x (some (i, e)) = some (v, s) → c_nds G mk (done ++ [v])) → c_fr c_Bk H G → c_k5 H G → Q G) : wm_375 18 x H Q := by
  have he : e ≤ l.length := h.2.2.2.2
  have hev : ∀ (j : Nat) u, done[j]? = some u → u.1 = 1 → j % 2 = 0 := fun j u hj hu => by
    rcases hok j u hj with e | ⟨e0, _⟩ | ⟨e0, k, ph, um, e, _⟩
    · rw [e] at hu; exact absurd hu (by decide)
    · exact e0
    · rw [e] at hu; exact absurd hu (by simp)
  unfold wm_375
  refine c_u8 hV.1 hs h (fun z1 G1 r1 v1 _ _ f1 k1 _ _ => ?_)
  have V1 := c_VR hV f1 (by simp)
  have s1 := c_rs_frN hs f1 (by simp) r43
  have Re1 := c_Re_fr hRe f1
  have iv1 : ∀ p, p ≠ 18 → sw_iv G1 p = sw_iv H p := fun p hp => f1.2.2.2.2.2 p (by simpa using hp)
  obtain ⟨p0, p1, p2, p3⟩ := p_no_st (K := K) (x := x) v1
  have z24 := hN.2 x (by omega) hx31
  -- the byte alone
  have c62 : ¬ (z1 = 1 ∧ x % 2 = 0) → ¬ (z1 = 2 ∧ x % 2 = 1) → wb_375_62 Q 18 z1 G1 := by
    intro n1 n2
    unfold wb_375_62
    refine ⟨fun c => q G1 ?_ (fun v s hv => ?_) (c_frB f1 (by simp)) k1, fun c => ?_⟩
    · rw [p0 c]
      cases ho : p_8 l (some (i, e)) with
      | none => rw [ho] at r1; exact r1
      | some a => rw [ho] at r1; exact r1
    · rw [p0 c, Option.map_eq_some_iff] at hv
      obtain ⟨a, _, hv⟩ := hv
      have hv := (Prod.mk.inj hv).1
      subst hv
      refine c_nds_snoc hN hx hx31 (fun j _ => by rw [iv1 24 (by decide), iv1 25 (by decide), iv1 26 (by decide)]; exact ⟨rfl, rfl, rfl⟩) (fun k _ => iv1 _ (by omega)) ?_ (fun c => absurd c (by decide)) (fun c => absurd c (by decide)) hev
      rw [iv1 24 (by decide), iv1 25 (by decide), iv1 26 (by decide), z24.1, z24.2.1, z24.2.2]
      exact ⟨Or.inl ⟨rfl, rfl⟩, Or.inl ⟨rfl, rfl⟩, rfl⟩
    · intro H1 e1
      obtain ⟨b1, b2, b3, b4⟩ := c_rd_b r1
      obtain ⟨w1, w2⟩ := c_rd_wrong b1 b2 b3 b4 e1
      have e := p3 c n1 n2
      exact q H1 (by rw [e]; exact w1) (fun v s hv => by rw [e] at hv; exact absurd hv (by simp)) (c_frB (c_fr_t f1 w2) (by simp)) (c_k5_t k1 (c_k5_si e1 (by omega)))
  -- a node with a key
  have c28 : ∀ s0 : Int, (s0 ≠ 0 ↔ x % 2 = 0) → ¬ (z1 = 1 ∧ x % 2 = 0) → wb_375_28 Q 18 x z1 s0 G1 := by
    intro s0 hs0 n1
    unfold wb_375_28
    refine ⟨fun c => c62 n1 (fun h => c h.1), fun c => ⟨fun c2 => c62 n1 (fun h => by have := hs0.mp c2; omega), fun c2 => ?_⟩⟩
    have odd : x % 2 = 1 := by
      have : ¬ x % 2 = 0 := fun h => hs0.mpr h c2
      omega
    obtain ⟨⟨_, _, _, _, q16⟩, _, _, ts⟩ := Re1
    obtain ⟨_, _, t23, rv1, rv2, rv3, rv4, tya, _⟩ := ts
    have ta := tya 1 (by omega) (by omega)
    have tb := tya 2 (by omega) (by omega)
    have tc := tya 3 (by omega) (by omega)
    rw [q16]
    refine ⟨t23, ?_⟩
    intro q22 e22
    rw [e22, rv1]
    refine ⟨ta.1, ?_⟩
    intro q25 e25
    rw [e25]
    refine c_termOf (so := 5) (by decide) (by decide) V1 hml s1 r1 (fun z2 G2 r2 v2 z20 z2l f2 k2 _ _ => ?_)
    have f12 := c_fr_t f1 f2
    refine ⟨by omega, by rw [f2.2.2.2.1, ta.2]; omega, ?_⟩
    intro H33 e33
    rw [Int.toNat_natCast] at e33
    have f33 : c_fr [24] G2 H33 := by rw [e33]; exact c_fr_si _ _ _ _
    have f13 : c_fr [18, 24] H H33 := c_fr_sub (c_fr_trans f12 f33) (by simp)
    have r3 := c_rd_fr (Z := H33) r2 (fun f hf => by rw [f33.2.2.2.2.2 18 (by decide)])
    have k3 : c_k5 H H33 := fun f hf => by rw [f33.2.2.2.2.2 18 (by decide), k2 f hf, k1 f hf]
    have rvs : ∀ c f, sw_rv H33 c f = sw_rv G1 c f := fun c f => by rw [f33.2.2.2.2.1, f2.2.2.2.2.1]
    have tys : ∀ c, sw_ty H33 c = sw_ty G1 c := fun c => by rw [f33.2.2.1, f2.2.2.1]
    have lns : ∀ c, sw_ln H33 c = sw_ln G1 c := fun c => by rw [f33.2.2.2.1, f2.2.2.2.1]
    rw [rvs, q16, tys]
    refine ⟨t23, ?_⟩
    intro q36 e36
    rw [e36, rvs, rv2, tys]
    refine ⟨tb.1, ?_⟩
    intro q39 e39
    rw [e39]
    have V3 := c_VR hV f13 (by simp)
    have s3 := c_rs_frN hs f13 (by simp) r43
    -- parent hash and unmerged leaves
    have c53 : ∀ (y : Int) (G4 : sw_H), c_rd G4 l (p_to (p_h K l (p_to (p_t K 5 l (p_to (p_8 l (some (i, e)))))))) → (∀ w s, p_h K l (p_to (p_t K 5 l (p_to (p_8 l (some (i, e)))))) = some (w, s) → w_az mk y w) → c_fr [18] H33 G4 → c_k5 H33 G4 → wb_375_53 Q 18 x y x 25 G4 := by
      intro y G4 r4 v4 f4 k4
      unfold wb_375_53
      refine ⟨by omega, by rw [f4.2.2.2.1, lns, tb.2]; omega, ?_⟩
      intro H5 e5
      rw [Int.toNat_natCast] at e5
      have f5 : c_fr [25] G4 H5 := by rw [e5]; exact c_fr_si _ _ _ _
      have f15 : c_fr [18, 24, 25] H H5 := c_fr_sub (c_fr_trans (c_fr_trans f13 f4) f5) (by simp)
      have r5 := c_rd_fr (Z := H5) r4 (fun f hf => by rw [f5.2.2.2.2.2 18 (by decide)])
      rw [f5.2.2.2.2.1, f4.2.2.2.2.1, rvs, q16, f5.2.2.1, f4.2.2.1, tys]
      refine ⟨t23, ?_⟩
      intro q8 e8
      rw [e8, f5.2.2.2.2.1, f4.2.2.2.2.1, rvs, rv3, f5.2.2.1, f4.2.2.1, tys]
      refine ⟨tc.1, ?_⟩
      intro q11 e11
      rw [e11]
      refine c_readUnmerged r43 (c_VR hV f15 (by simp)) (c_rs_frN hs f15 (by simp) r43) r5 (fun u G6 r6 v6 f6 k6 _ _ => ?_)
      refine ⟨by omega, by rw [f6.2.2.2.1, f5.2.2.2.1, f4.2.2.2.1, lns, tc.2]; omega, ?_⟩
      intro H7 e7
      rw [Int.toNat_natCast] at e7
      have f7 : c_fr [26] G6 H7 := by rw [e7]; exact c_fr_si _ _ _ _
      have r7 := c_rd_fr (Z := H7) r6 (fun f hf => by rw [f7.2.2.2.2.2 18 (by decide)])
      have en := p2 c odd
      refine q H7 ?_ (fun v s hv => ?_) (c_frB (c_fr_trans (c_fr_trans f15 f6) f7) (by simp)) ?_
      · rw [en]
        obtain ⟨o1, eo1⟩ : ∃ o, p_t K 5 l (p_to (p_8 l (some (i, e)))) = o := ⟨_, rfl⟩
        rw [eo1] at r7 ⊢
        cases o1 with
        | none => exact r7
        | some k =>
          obtain ⟨k, sk⟩ := k
          rw [p_to_s] at r7
          show c_rd H7 l (p_to ((p_h K l (some sk)).bind (fun h => (p_row (p_ua l) l (some h.2)).map (fun u => (((2 : Int), p_L0, k, h.1, u.1.2), u.2)))))
          obtain ⟨o2, eo2⟩ : ∃ o, p_h K l (some sk) = o := ⟨_, rfl⟩
          rw [eo2] at r7 ⊢
          cases o2 with
          | none => exact r7
          | some hh =>
            obtain ⟨hh, sh⟩ := hh
            rw [p_to_s] at r7
            show c_rd H7 l (p_to ((p_row (p_ua l) l (some sh)).map (fun u => (((2 : Int), p_L0, k, hh, u.1.2), u.2))))
            cases ho : p_row (p_ua l) l (some sh) with
            | none => rw [ho] at r7; exact r7
            | some a => rw [ho] at r7; exact r7
      · rw [en, Option.bind_eq_some_iff] at hv
        obtain ⟨⟨k, sk⟩, h1, hv⟩ := hv
        rw [Option.bind_eq_some_iff] at hv
        obtain ⟨⟨hh, sh⟩, h2, hv⟩ := hv
        rw [Option.map_eq_some_iff] at hv
        obtain ⟨⟨⟨b, u'⟩, su⟩, h3, hv⟩ := hv
        have hv := (Prod.mk.inj hv).1
        subst hv
        have S1 : p_to (p_t K 5 l (p_to (p_8 l (some (i, e))))) = some sk := by rw [h1, p_to_s]
        rw [S1] at v4 v6
        have h2 : p_h K l (some sk) = some (hh, sh) := h2
        have S2 : p_to (p_h K l (some sk)) = some sh := by rw [h2, p_to_s]
        rw [S2] at v6
        have a1 : w_at mk z2 k := v2 k sk h1
        have a2 : w_az mk y hh := v4 hh sh h2
        have a3 : u = u' := v6 b u' su h3
        have w24 : ∀ j, sw_iv H7 24 j = if j = x then z2 else sw_iv H 24 j := fun j => by
          rw [f7.2.2.2.2.2 24 (by decide), f6.2.2.2.2.2 24 (by decide), f5.2.2.2.2.2 24 (by decide), f4.2.2.2.2.2 24 (by decide), e33, sw_iv_si]
          by_cases cj : j = x
          · rw [if_pos ⟨rfl, cj⟩, if_pos cj]
          · rw [if_neg (fun e => cj e.2), if_neg cj, f2.2.2.2.2.2 24 (by decide), iv1 24 (by decide)]
        have w25 : ∀ j, sw_iv H7 25 j = if j = x then y else sw_iv H 25 j := fun j => by
          rw [f7.2.2.2.2.2 25 (by decide), f6.2.2.2.2.2 25 (by decide), e5, sw_iv_si]
          by_cases cj : j = x
          · rw [if_pos ⟨rfl, cj⟩, if_pos cj]
          · rw [if_neg (fun e => cj e.2), if_neg cj, f4.2.2.2.2.2 25 (by decide), f33.2.2.2.2.2 25 (by decide), f2.2.2.2.2.2 25 (by decide), iv1 25 (by decide)]
        have w26 : ∀ j, sw_iv H7 26 j = if j = x then u else sw_iv H 26 j := fun j => by
          rw [e7, sw_iv_si]
          by_cases cj : j = x
          · rw [if_pos ⟨rfl, cj⟩, if_pos cj]
          · rw [if_neg (fun e => cj e.2), if_neg cj, f6.2.2.2.2.2 26 (by decide), f5.2.2.2.2.2 26 (by decide), f4.2.2.2.2.2 26 (by decide), f33.2.2.2.2.2 26 (by decide), f2.2.2.2.2.2 26 (by decide), iv1 26 (by decide)]
        refine c_nds_snoc hN hx hx31 (fun j hj => by rw [w24, w25, w26, if_neg hj, if_neg hj, if_neg hj]; exact ⟨rfl, rfl, rfl⟩) (fun k' _ => ?_) ?_ (fun c => absurd c (by simp)) (fun c => absurd c (by simp)) hev
        · have hA : ∀ a ∈ [18, 24, 25], 28 + k' ≠ a := fun a ha => by simp at ha; omega
          rw [f7.2.2.2.2.2 _ (by simp; omega), f6.2.2.2.2.2 _ (by simp; omega), f15.2.2.2.2.2 _ (by simp; omega)]
        · rw [w24, w25, w26, if_pos rfl, if_pos rfl, if_pos rfl]
          exact ⟨Or.inr a1, a2, a3⟩
      · intro f hf
        rw [f7.2.2.2.2.2 18 (by decide), k6 f hf, f5.2.2.2.2.2 18 (by decide), k4 f hf, k3 f hf]
    refine c_isZero V3 s3 r3 (fun G4 r4 v4 f4 k4 _ _ => ⟨fun c => absurd c (by decide), fun _ => c53 0 G4 r4 (fun w s hw => Or.inl ⟨rfl, v4 w s hw⟩) f4 k4⟩) (fun hh _ _ => ⟨fun _ => ?_, fun c => absurd rfl c⟩)
    refine c_termOf (so := 1) (by decide) (by decide) V3 hml s3 r3 (fun z4 G4 r4 v4 _ _ f4 k4 _ _ => c53 z4 G4 (by rw [hh]; exact r4) (fun w s hw => Or.inr (v4 w s (by rw [← hh]; exact hw))) f4 k4)
  have c10 : ∀ s0 : Int, (s0 ≠ 0 ↔ x % 2 = 0) → wb_375_10 Q 18 x z1 s0 G1 := by
    intro s0 hs0
    unfold wb_375_10
    refine ⟨fun c => c28 s0 hs0 (fun h => c h.1), fun c => ⟨fun c2 => c28 s0 hs0 (fun h => absurd c2 (hs0.mpr h.2)), fun c2 => ?_⟩⟩
    have ev := hs0.mp c2
    refine c_readLeaf (src := 0) V1 hml s1 (by omega) (by omega) Re1.1.2.2.2.1 Re1.2.2.1 (by decide) r1 (fun G2 r2 v2 f2 k2 _ => ?_)
    have f12 : c_fr [18, 22] H G2 := c_fr_sub (c_fr_trans f1 f2) (by simp)
    obtain ⟨⟨_, _, _, q15, q16⟩, _, t22, ts⟩ := c_Re_fr hRe f12
    rw [q16]
    refine ⟨ts.2.2.1, ?_⟩
    intro q63 e63
    rw [q15]
    refine ⟨t22, ?_⟩
    intro q66 e66
    rw [e63, e66, sw_shr_1 ⟨x, hx31⟩]
    refine c_putLeaf (k := x / 2) ts (by omega) (Or.inl (by omega)) (fun G3 f3 l3 a3 b3 _ => ?_)
    have en := p1 c ev
    have e2x : 2 * (x / 2) = x := by omega
    have f13 : c_fr c_Bk H G3 := by
      refine c_fr_sub (c_fr_trans f12 f3) (fun a ha => ?_)
      simp only [List.mem_append, List.mem_cons, List.not_mem_nil, or_false] at ha
      exact c_Bk_m (by omega) (by omega)
    have i18 : sw_iv G3 18 = sw_iv G2 18 := f3.2.2.2.2.2 18 (by simp; omega)
    refine q G3 ?_ (fun v s hv => ?_) f13 (fun f hf => by rw [i18, k2 f hf, k1 f hf])
    · rw [en]
      have r3 := c_rd_fr (Z := G3) r2 (fun f hf => by rw [i18])
      cases ho : p_lf K 0 l (p_to (p_8 l (some (i, e)))) with
      | none => rw [ho] at r3; exact r3
      | some a => rw [ho] at r3; exact r3
    · rw [en, Option.map_eq_some_iff] at hv
      obtain ⟨⟨⟨m, k, p, so, ph, g⟩, s'⟩, hl, hv⟩ := hv
      have hv := (Prod.mk.inj hv).1
      subst hv
      obtain ⟨y1, y2⟩ := v2 m k p so ph g s' hl
      have i24 : sw_iv G2 24 = sw_iv H 24 := f12.2.2.2.2.2 24 (by decide)
      have i25 : sw_iv G2 25 = sw_iv H 25 := f12.2.2.2.2.2 25 (by decide)
      have i26 : sw_iv G3 26 = sw_iv H 26 := by rw [f3.2.2.2.2.2 26 (by simp; omega), f12.2.2.2.2.2 26 (by decide)]
      refine c_nds_snoc hN hx hx31 (fun j hj => ?_) (fun k' hk' => ?_) ?_ (fun _ => ?_) (fun _ => ev) hev
      · rw [a3, b3, e2x, if_neg hj, if_neg hj, i24, i25, i26]
        exact ⟨rfl, rfl, rfl⟩
      · rw [f3.2.2.2.2.2 _ (by simp; omega), f12.2.2.2.2.2 _ (by simp; omega)]
      · rw [a3, b3, e2x, if_pos rfl, if_pos rfl, i26, z24.2.2]
        exact ⟨Or.inr y1.2.1, y1.2.2.2.2.1, rfl⟩
      · show c_nl G3 mk (28 + x / 2) (m, k, p, so, ph, g)
        obtain ⟨w0, w1, w2, w3, w4, w5, w6⟩ := y1
        have e0 : ∀ f, f < 6 → sw_iv G3 (28 + x / 2) f = sw_iv G2 22 f := fun f hf => l3 f hf
        refine ⟨⟨by rw [e0 0 (by omega)]; exact w0, by rw [e0 1 (by omega)]; exact w1, by rw [e0 2 (by omega)]; exact w2, by rw [e0 3 (by omega)]; exact w3, by rw [e0 4 (by omega)]; exact w4, w5, w6⟩, by rw [e0 5 (by omega)]; exact y2⟩
  have ea := sw_and_f31 ⟨x, hx31⟩
  have ea : sw_and (x : Int) 1 = ((x % 2 : Nat) : Int) := ea
  rw [ea]
  refine ⟨fun c => c10 0 ⟨fun h => absurd rfl h, fun h => by omega⟩, fun c => c10 1 ⟨fun _ => by omega, fun _ => by decide⟩⟩
end
