/-! ===== the class: the Reader's readHead, readProposal, readCommit ===== -/
noncomputable section
section
variable {K : Wt → Prop} {l : List Wt} {i e : Nat} {s : Nat × Nat} {ep sd ep' sd' : Int} {b e1 b' e1' : Nat} {es es' : List p_E} {pt pt' : Option p_P} {sg cf tg sg' cf' tg' : Wt}
/-- a COMMIT: epoch, sender, where its row begins and ends, its entries, its PATH, signature, confirmation, tag -/
def p_cm (K : Wt → Prop) (l : List Wt) (ep sd : Int) (b e1 : Nat) (es : List p_E) (pt : Option p_P) (sg cf tg : Wt) : Prop := 3 ≤ l.length ∧ (∃ b0, p_8 l (some (0, l.length)) = some (b0, 1, l.length)) ∧ p_32 l (some (1, l.length)) = some (ep, 5, l.length) ∧ p_16 l (some (5, l.length)) = some (sd, 7, l.length) ∧ p_row (p_all (p_en K l)) l (some (7, l.length)) = some ((b, es), e1, l.length) ∧ p_wp K l (some (e1, l.length)) = some (pt, l.length - 3, l.length) ∧ p_t K 7 l (some (l.length - 3, l.length)) = some (sg, l.length - 2, l.length) ∧ p_t K 2 l (some (l.length - 2, l.length)) = some (cf, l.length - 1, l.length) ∧ p_t K 2 l (some (l.length - 1, l.length)) = some (tg, l.length, l.length)
theorem p_cm_u (h : p_cm K l ep sd b e1 es pt sg cf tg) (k : p_cm K l ep' sd' b' e1' es' pt' sg' cf' tg') : ep = ep' ∧ sd = sd' ∧ b = b' ∧ e1 = e1' ∧ es = es' ∧ pt = pt' ∧ sg = sg' ∧ cf = cf' ∧ tg = tg' := by
  obtain ⟨_, _, h1, h2, h3, h4, h5, h6, h7⟩ := h
  obtain ⟨_, _, k1, k2, k3, k4, k5, k6, k7⟩ := k
  rw [h1] at k1
  rw [h2] at k2
  rw [h3] at k3
  have k3 := Option.some.inj k3
  simp only [Prod.mk.injEq] at k3
  obtain ⟨⟨x1, x2⟩, x3, _⟩ := k3
  subst x1; subst x2; subst x3
  rw [h4] at k4
  rw [h5] at k5
  rw [h6] at k6
  rw [h7] at k7
  exact ⟨(Prod.mk.inj (Option.some.inj k1)).1, (Prod.mk.inj (Option.some.inj k2)).1, rfl, rfl, rfl, (Prod.mk.inj (Option.some.inj k4)).1, (Prod.mk.inj (Option.some.inj k5)).1, (Prod.mk.inj (Option.some.inj k6)).1, (Prod.mk.inj (Option.some.inj k7)).1⟩
def p_cmS (K : Wt → Prop) (l : List Wt) : p_S := p_to (p_t K 2 l (p_to (p_t K 2 l (p_to (p_t K 7 l (p_to (p_wp K l (p_to (p_row (p_all (p_en K l)) l (p_to (p_16 l (p_to (p_32 l (p_to (p_8 l (some (0, l.length)))))))))))))))))
theorem p_lf_in {src : Int} : p_fw (p_lf K src l) := ⟨rfl, fun i e a s h => by
  obtain ⟨m, k, p, so, ph, g⟩ := a
  obtain ⟨b1, b2, _⟩ := p_lf_ix h
  rw [b1]
  refine ⟨?_, b2, rfl⟩
  show i < i + _
  split <;> omega⟩
theorem p_pa_fw : p_fw (p_pa K l) := ⟨rfl, fun i e a s h => by
  unfold p_pa at h
  rw [Option.bind_eq_some_iff] at h
  obtain ⟨⟨k, i1, e1⟩, h1, h⟩ := h
  obtain ⟨b1, b2, b3⟩ := p_lf_in.2 _ _ _ _ h1
  have b1 : i < i1 := b1
  have b3 : e1 = e := b3
  subst b3
  rw [Option.map_eq_some_iff] at h
  obtain ⟨⟨x, s'⟩, h2, h⟩ := h
  have h : s' = s := (Prod.mk.inj h).2
  obtain ⟨c1, c2, c3⟩ := (p_row_fw2 (p_all_in (p_nd_fw (K := K) (l := l)))).2 _ _ _ _ h2
  rw [← h]
  exact ⟨by omega, c2, c3⟩⟩
theorem p_wp_fw : p_fw (p_wp K l) := ⟨rfl, fun i e a s h => by
  unfold p_wp at h
  rw [Option.bind_eq_some_iff] at h
  obtain ⟨⟨b, i1, e1⟩, h1, h⟩ := h
  obtain ⟨a1, a2, a3⟩ := p_8_le h1
  subst a1; subst a2
  have h : (if b = 1 then (p_pa K l (some (i + 1, e1))).map (fun p => (some p.1, p.2)) else if b = 0 then some (none, i + 1, e1) else none) = some (a, s) := h
  by_cases c1 : b = 1
  · rw [if_pos c1, Option.map_eq_some_iff] at h
    obtain ⟨⟨p, s'⟩, h2, h⟩ := h
    have h : s' = s := (Prod.mk.inj h).2
    obtain ⟨q1, q2, q3⟩ := p_pa_fw.2 _ _ _ _ h2
    rw [← h]
    exact ⟨by omega, q2, q3⟩
  · rw [if_neg c1] at h
    by_cases c2 : b = 0
    · rw [if_pos c2] at h
      have h := (Prod.mk.inj (Option.some.inj h)).2
      rw [← h]
      exact ⟨by show i < i + 1; omega, by show i + 1 ≤ e1; omega, rfl⟩
    · rw [if_neg c2] at h
      exact absurd h (by simp)⟩
theorem p_cm_st (h : p_cmS K l = some (i, e)) : e = l.length ∧ (i = e → ∃ ep sd b e1 es pt sg cf tg, p_cm K l ep sd b e1 es pt sg cf tg) := by
  unfold p_cmS at h
  obtain ⟨tg, h8⟩ := p_to_some h
  obtain ⟨S7, e7⟩ : ∃ S, p_to (p_t K 2 l (p_to (p_t K 7 l (p_to (p_wp K l (p_to (p_row (p_all (p_en K l)) l (p_to (p_16 l (p_to (p_32 l (p_to (p_8 l (some (0, l.length))))))))))))))) = S := ⟨_, rfl⟩
  rw [e7] at h8
  cases S7 with
  | none => exact absurd h8 (by simp [p_t])
  | some s7 =>
  obtain ⟨i7, e7'⟩ := s7
  obtain ⟨cf, h7⟩ := p_to_some e7
  obtain ⟨S6, e6⟩ : ∃ S, p_to (p_t K 7 l (p_to (p_wp K l (p_to (p_row (p_all (p_en K l)) l (p_to (p_16 l (p_to (p_32 l (p_to (p_8 l (some (0, l.length))))))))))))) = S := ⟨_, rfl⟩
  rw [e6] at h7
  cases S6 with
  | none => exact absurd h7 (by simp [p_t])
  | some s6 =>
  obtain ⟨i6, e6'⟩ := s6
  obtain ⟨sg, h6⟩ := p_to_some e6
  obtain ⟨S5, e5⟩ : ∃ S, p_to (p_wp K l (p_to (p_row (p_all (p_en K l)) l (p_to (p_16 l (p_to (p_32 l (p_to (p_8 l (some (0, l.length))))))))))) = S := ⟨_, rfl⟩
  rw [e5] at h6
  cases S5 with
  | none => exact absurd h6 (by simp [p_t])
  | some s5 =>
  obtain ⟨i5, e5'⟩ := s5
  obtain ⟨pt, h5⟩ := p_to_some e5
  obtain ⟨S4, e4⟩ : ∃ S, p_to (p_row (p_all (p_en K l)) l (p_to (p_16 l (p_to (p_32 l (p_to (p_8 l (some (0, l.length)))))))))  = S := ⟨_, rfl⟩
  rw [e4] at h5
  cases S4 with
  | none => exact absurd h5 (by simp [p_wp, p_8])
  | some s4 =>
  obtain ⟨i4, e4'⟩ := s4
  obtain ⟨v, h4⟩ := p_to_some e4
  obtain ⟨S3, e3⟩ : ∃ S, p_to (p_16 l (p_to (p_32 l (p_to (p_8 l (some (0, l.length))))))) = S := ⟨_, rfl⟩
  rw [e3] at h4
  cases S3 with
  | none => exact absurd h4 (by simp [p_row, p_r, p_16, p_8])
  | some s3 =>
  obtain ⟨i3, e3'⟩ := s3
  obtain ⟨sd, h3⟩ := p_to_some e3
  obtain ⟨S2, e2⟩ : ∃ S, p_to (p_32 l (p_to (p_8 l (some (0, l.length))))) = S := ⟨_, rfl⟩
  rw [e2] at h3
  cases S2 with
  | none => exact absurd h3 (by simp [p_16, p_8])
  | some s2 =>
  obtain ⟨i2, e2'⟩ := s2
  obtain ⟨ep, h2⟩ := p_to_some e2
  obtain ⟨S1, e1⟩ : ∃ S, p_to (p_8 l (some (0, l.length))) = S := ⟨_, rfl⟩
  rw [e1] at h2
  cases S1 with
  | none => exact absurd h2 (by simp [p_32, p_16, p_8])
  | some s1 =>
  obtain ⟨i1, e1'⟩ := s1
  obtain ⟨b, h1⟩ := p_to_some e1
  obtain ⟨x1, x2, _⟩ := p_8_in h1
  have x1 := Prod.mk.inj x1
  obtain ⟨x1, x3⟩ := x1
  subst x1; subst x3
  obtain ⟨y1, y2⟩ := p_32_ix h2
  have y1 := Prod.mk.inj y1
  obtain ⟨y1, y3⟩ := y1
  subst y1; subst y3
  obtain ⟨w1, w2, w3⟩ := p_16_le h3
  subst w1; subst w2
  obtain ⟨u1, u2, u3⟩ := (p_row_fw2 (p_all_in (p_en_fw (K := K) (l := l)))).2 _ _ _ _ h4
  have u3 : e4' = l.length := u3
  subst u3
  obtain ⟨v1, v2, v3⟩ := p_wp_fw.2 _ _ _ _ h5
  have v3 : e5' = l.length := v3
  subst v3
  obtain ⟨z1, z2, _⟩ := p_t_in h6
  have z1 := Prod.mk.inj z1
  obtain ⟨z1, z3⟩ := z1
  subst z1; subst z3
  obtain ⟨a1, a2, _⟩ := p_t_in h7
  have a1 := Prod.mk.inj a1
  obtain ⟨a1, a3⟩ := a1
  subst a1; subst a3
  obtain ⟨b1, b2, _⟩ := p_t_in h8
  have b1 := Prod.mk.inj b1
  obtain ⟨b1, b3⟩ := b1
  subst b1; subst b3
  obtain ⟨bb, es⟩ := v
  refine ⟨rfl, fun hi => ⟨ep, sd, bb, i4, es, pt, sg, cf, tg, ?_⟩⟩
  have hn : i5 = l.length - 3 := by omega
  rw [hn] at h5 h6 h7 h8
  have n1 : l.length - 3 + 1 = l.length - 2 := by omega
  rw [n1] at h6 h7 h8
  have n2 : l.length - 2 + 1 = l.length - 1 := by omega
  rw [n2] at h7 h8
  have n3 : l.length - 1 + 1 = l.length := by omega
  rw [n3] at h8
  exact ⟨by omega, ⟨b, h1⟩, h2, h3, h4, h5, h6, h7, h8⟩
theorem p_cm_S (h : p_cm K l ep sd b e1 es pt sg cf tg) : p_cmS K l = some (l.length, l.length) := by
  obtain ⟨_, ⟨b, h0⟩, h1, h2, h3, h4, h5, h6, h7⟩ := h
  unfold p_cmS
  rw [h0, p_to_s, h1, p_to_s, h2, p_to_s, h3, p_to_s, h4, p_to_s, h5, p_to_s, h6, p_to_s, h7, p_to_s]
end
variable {H Z X Y : sw_H} {nn nm r ra g m : Nat} {K K' S : Wt → Prop} {tl mk mm l : List Wt} {a b c x y n cn cs N U M : Int} {Q : sw_H → Prop} {P : Int → sw_H → Prop} {A B : List Nat} {w : Wt} {st : p_S}
theorem c_readHead (r43 : 43 < r ∧ 43 < ra) (hV : c_V H mk nn K tl cn cs) (hs : c_rs H mk r ra l) (h : c_rd H l st) (q : ∀ G, c_rd G l (p_to (p_16 l (p_to (p_32 l (p_to (p_8 l st)))))) → (∀ z s, p_32 l (p_to (p_8 l st)) = some (z, s) → sw_iv G 18 6 = z) → (∀ z s, p_16 l (p_to (p_32 l (p_to (p_8 l st)))) = some (z, s) → sw_iv G 18 7 = z) → 0 ≤ sw_iv G 18 7 → c_fr [18] H G → (∀ f, 5 ≤ f → f ≠ 6 → f ≠ 7 → sw_iv G 18 f = sw_iv H 18 f) → Q G) : wm_345 18 H Q := by
  unfold wm_345
  refine c_u8 hV.1 hs h (fun z1 G1 r1 v1 _ _ f1 k1 _ _ => ?_)
  have V1 := c_VR hV f1 (by simp)
  have s1 := c_rs_frN hs f1 (by simp) r43
  refine c_u32 V1 s1 r1 (fun z2 G2 r2 v2 _ f2 k2 _ _ => ?_)
  intro H3 e3
  have f3 : c_fr [18] G2 H3 := by rw [e3]; exact c_fr_si _ _ _ _
  have f13 := c_fr_t f1 (c_fr_t f2 f3)
  have r3 : c_rd H3 l (p_to (p_32 l (p_to (p_8 l st)))) := c_rd_fr r2 (fun f hf => by rw [e3, c_si_f (by omega)])
  refine c_u16 (c_VR hV f13 (by simp)).1 (c_rs_frN hs f13 (by simp) r43) r3 (fun z4 G4 r4 v4 p4 q4 f4 k4 _ _ => ?_)
  intro H5 e5
  have f5 : c_fr [18] G4 H5 := by rw [e5]; exact c_fr_si _ _ _ _
  refine q H5 (c_rd_fr r4 (fun f hf => by rw [e5, c_si_f (by omega)])) (fun z s hz => ?_) (fun z s hz => ?_) ?_ (c_fr_t f13 (c_fr_t f4 f5)) (fun f h5 h6 h7 => ?_)
  · rw [e5, c_si_f (by decide), k4 6 (by omega), e3, c_si_eq]
    exact v2 z s hz
  · rw [e5, c_si_eq]
    exact v4 z s hz
  · rw [e5, c_si_eq]; exact p4
  · rw [e5, c_si_f h7, k4 f h5, e3, c_si_f h6, k2 f h5, k1 f h5]
/-- a PROPOSAL -/
theorem c_readProposal (r43 : 43 < r ∧ 43 < ra) (hml : mk.length ≤ 999999999) (hV : c_V H mk nn K tl cn cs) (hRe : c_Re H) (hs : c_rs H mk r ra l) (h : c_rd H l (some (0, l.length))) (q : ∀ G, c_rd G l (p_to (p_t K 2 l (p_to (p_t K 7 l (p_to (p_ct K l (p_to (p_16 l (p_to (p_32 l (p_to (p_8 l (some (0, l.length))))))))))))))  → (∀ ep lf v sg tg, p_pr K l ep lf v sg tg → sw_iv G 18 6 = ep ∧ sw_iv G 18 7 = lf ∧ c_co G mk v) → c_fr [18, 22] H G → sw_iv G 18 5 = sw_iv H 18 5 → Q G) : wm_266 18 H Q := by
  unfold wm_266
  refine c_readHead r43 hV hs h (fun G1 r1 v6 v7 _ f1 k1 _ => ?_)
  have V1 := c_VR hV f1 (by simp)
  have s1 := c_rs_frN hs f1 (by simp) r43
  refine c_readContent V1 hml s1 (by omega) (by omega) (c_Re_fr hRe f1).1.2.2.2.1 (c_Re_fr hRe f1).2.2.1 r1 (fun G2 r2 v2 f2 k2 _ => ?_)
  have f12 : c_fr [18, 22] H G2 := c_fr_sub (c_fr_trans f1 f2) (by simp)
  refine c_termOf (so := 7) (by decide) (by decide) (c_VR hV f12 (by simp)) hml (c_rs_frN hs f12 (by simp) r43) r2 (fun z3 G3 r3 _ _ _ f3 k3 _ _ => ?_)
  have f13 : c_fr [18, 22] H G3 := c_fr_sub (c_fr_trans f12 f3) (by simp)
  refine c_termOf (so := 2) (by decide) (by decide) (c_VR hV f13 (by simp)) hml (c_rs_frN hs f13 (by simp) r43) r3 (fun z4 G4 r4 _ _ _ f4 k4 _ _ => ?_)
  refine q G4 r4 (fun ep lf v sg tg hp => ?_) (c_fr_sub (c_fr_trans f13 f4) (by simp)) ?_
  · obtain ⟨_, ⟨b0, c0⟩, c1, c2, c3, _⟩ := hp
    have S1 : p_to (p_8 l (some (0, l.length))) = some (1, l.length) := by rw [c0, p_to_s]
    rw [S1] at v6 v7 v2
    have S2 : p_to (p_32 l (some (1, l.length))) = some (5, l.length) := by rw [c1, p_to_s]
    rw [S2] at v7 v2
    have S3 : p_to (p_16 l (some (5, l.length))) = some (7, l.length) := by rw [c2, p_to_s]
    rw [S3] at v2
    have e6 := v6 ep _ c1
    have e7 := v7 lf _ c2
    have co := v2 v _ c3
    obtain ⟨kd, ⟨ik, ⟨m, k, p, so, ph, g0⟩, gg⟩, n0⟩ := v
    refine ⟨by rw [k4 6 (by omega), k3 6 (by omega), k2 6 (by omega) (by omega)]; exact e6, by rw [k4 7 (by omega), k3 7 (by omega), k2 7 (by omega) (by omega)]; exact e7, ?_⟩
    unfold c_co at co ⊢
    obtain ⟨o1, o2⟩ := co
    have i22 : sw_iv G4 22 = sw_iv G2 22 := by rw [f4.2.2.2.2.2 22 (by decide), f3.2.2.2.2.2 22 (by decide)]
    refine ⟨by rw [k4 8 (by omega), k3 8 (by omega)]; exact o1, fun hk => ?_⟩
    obtain ⟨o3, o4⟩ := o2 hk
    exact ⟨c_lf_iv o3 (fun f _ => by rw [i22]) (w_le_refl _), by rw [i22]; exact o4⟩
  · rw [k4 5 (by omega), k3 5 (by omega), k2 5 (by omega) (by omega), k1 5 (by omega) (by omega) (by omega)]
end
