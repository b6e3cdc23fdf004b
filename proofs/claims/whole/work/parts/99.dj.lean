/-! ===== the class: the Reader's readWelcome ===== -/
noncomputable section
section
variable {K : Wt → Prop} {l : List Wt} {i e : Nat} {s : Nat × Nat} {ep sd ep' sd' : Int} {b e1 b' e1' : Nat} {prs prs' : List (Wt × Wt)} {ns ns' : List p_V} {th cf cm sg th' cf' cm' sg' : Wt}
/-- a WELCOME: epoch, its row and what stands there, tree hash, confirmed hash, leaf of who sent it, nodes, confirmation, signature -/
def p_we (K : Wt → Prop) (l : List Wt) (ep : Int) (b e1 : Nat) (prs : List (Wt × Wt)) (th cf : Wt) (sd : Int) (ns : List p_V) (cm sg : Wt) : Prop := 2 ≤ l.length ∧ (∃ b0, p_8 l (some (0, l.length)) = some (b0, 1, l.length)) ∧ p_row (p_all (p_hs K l)) l (some (1, l.length)) = some ((b, prs), e1, l.length) ∧ p_32 l (some (e1, l.length)) = some (ep, e1 + 4, l.length) ∧ p_t K 1 l (some (e1 + 4, l.length)) = some (th, e1 + 5, l.length) ∧ p_h K l (some (e1 + 5, l.length)) = some (cf, e1 + 6, l.length) ∧ p_16 l (some (e1 + 6, l.length)) = some (sd, e1 + 8, l.length) ∧ p_tr K l (some (e1 + 8, l.length)) = some (ns, l.length - 2, l.length) ∧ p_t K 2 l (some (l.length - 2, l.length)) = some (cm, l.length - 1, l.length) ∧ p_t K 7 l (some (l.length - 1, l.length)) = some (sg, l.length, l.length)
theorem p_we_u (h : p_we K l ep b e1 prs th cf sd ns cm sg) (k : p_we K l ep' b' e1' prs' th' cf' sd' ns' cm' sg') : ep = ep' ∧ b = b' ∧ e1 = e1' ∧ prs = prs' ∧ th = th' ∧ cf = cf' ∧ sd = sd' ∧ ns = ns' ∧ cm = cm' ∧ sg = sg' := by
  obtain ⟨_, _, h1, h2, h3, h4, h5, h6, h7, h8⟩ := h
  obtain ⟨_, _, k1, k2, k3, k4, k5, k6, k7, k8⟩ := k
  rw [h1] at k1
  have k1 := Option.some.inj k1
  simp only [Prod.mk.injEq] at k1
  obtain ⟨⟨x1, x2⟩, x3, _⟩ := k1
  subst x1; subst x2; subst x3
  rw [h2] at k2
  rw [h3] at k3
  rw [h4] at k4
  rw [h5] at k5
  rw [h6] at k6
  rw [h7] at k7
  rw [h8] at k8
  exact ⟨(Prod.mk.inj (Option.some.inj k2)).1, rfl, rfl, rfl, (Prod.mk.inj (Option.some.inj k3)).1, (Prod.mk.inj (Option.some.inj k4)).1, (Prod.mk.inj (Option.some.inj k5)).1, (Prod.mk.inj (Option.some.inj k6)).1, (Prod.mk.inj (Option.some.inj k7)).1, (Prod.mk.inj (Option.some.inj k8)).1⟩
def p_weS (K : Wt → Prop) (l : List Wt) : p_S := p_to (p_t K 7 l (p_to (p_t K 2 l (p_to (p_tr K l (p_to (p_16 l (p_to (p_h K l (p_to (p_t K 1 l (p_to (p_32 l (p_to (p_row (p_all (p_hs K l)) l (p_to (p_8 l (some (0, l.length)))))))))))))))))))
theorem p_tr_fw : p_fw (p_tr K l) := ⟨rfl, fun i e a s h => by
  unfold p_tr at h
  rw [Option.bind_eq_some_iff] at h
  obtain ⟨⟨⟨b, ns⟩, s'⟩, h1, h2⟩ := h
  obtain ⟨q1, q2, q3⟩ := (p_row_fw2 (l := l) (p_nos_pin (K := K) (l := l) (n := 31) (x := 0))).2 _ _ _ _ h1
  have h2 : (if w_nn ns.length then some (ns, s') else none) = some (a, s) := h2
  by_cases c : w_nn ns.length
  · rw [if_pos c] at h2
    have h2 := (Prod.mk.inj (Option.some.inj h2)).2
    rw [← h2]
    exact ⟨q1, q2, q3⟩
  · rw [if_neg c] at h2
    exact absurd h2 (by simp)⟩
theorem p_we_st (h : p_weS K l = some (i, e)) : e = l.length ∧ (i = e → ∃ ep b e1 prs th cf sd ns cm sg, p_we K l ep b e1 prs th cf sd ns cm sg) := by
  unfold p_weS at h
  obtain ⟨sg, h9⟩ := p_to_some h
  obtain ⟨S8, e8⟩ : ∃ S, p_to (p_t K 2 l (p_to (p_tr K l (p_to (p_16 l (p_to (p_h K l (p_to (p_t K 1 l (p_to (p_32 l (p_to (p_row (p_all (p_hs K l)) l (p_to (p_8 l (some (0, l.length))))))))))))))))) = S := ⟨_, rfl⟩
  rw [e8] at h9
  cases S8 with
  | none => exact absurd h9 (by simp [p_t])
  | some s8 =>
  obtain ⟨i8, e8'⟩ := s8
  obtain ⟨cm, h8⟩ := p_to_some e8
  obtain ⟨S7, e7⟩ : ∃ S, p_to (p_tr K l (p_to (p_16 l (p_to (p_h K l (p_to (p_t K 1 l (p_to (p_32 l (p_to (p_row (p_all (p_hs K l)) l (p_to (p_8 l (some (0, l.length))))))))))))))) = S := ⟨_, rfl⟩
  rw [e7] at h8
  cases S7 with
  | none => exact absurd h8 (by simp [p_t])
  | some s7 =>
  obtain ⟨i7, e7'⟩ := s7
  obtain ⟨ns, h7⟩ := p_to_some e7
  obtain ⟨S6, e6⟩ : ∃ S, p_to (p_16 l (p_to (p_h K l (p_to (p_t K 1 l (p_to (p_32 l (p_to (p_row (p_all (p_hs K l)) l (p_to (p_8 l (some (0, l.length))))))))))))) = S := ⟨_, rfl⟩
  rw [e6] at h7
  cases S6 with
  | none => exact absurd h7 (by simp [p_tr, p_row, p_r, p_16, p_8])
  | some s6 =>
  obtain ⟨i6, e6'⟩ := s6
  obtain ⟨sd, h6⟩ := p_to_some e6
  obtain ⟨S5, e5⟩ : ∃ S, p_to (p_h K l (p_to (p_t K 1 l (p_to (p_32 l (p_to (p_row (p_all (p_hs K l)) l (p_to (p_8 l (some (0, l.length))))))))))) = S := ⟨_, rfl⟩
  rw [e5] at h6
  cases S5 with
  | none => exact absurd h6 (by simp [p_16, p_8])
  | some s5 =>
  obtain ⟨i5, e5'⟩ := s5
  obtain ⟨cf, h5⟩ := p_to_some e5
  obtain ⟨S4, e4⟩ : ∃ S, p_to (p_t K 1 l (p_to (p_32 l (p_to (p_row (p_all (p_hs K l)) l (p_to (p_8 l (some (0, l.length))))))))) = S := ⟨_, rfl⟩
  rw [e4] at h5
  cases S4 with
  | none => exact absurd h5 (by simp [p_h])
  | some s4 =>
  obtain ⟨i4, e4'⟩ := s4
  obtain ⟨th, h4⟩ := p_to_some e4
  obtain ⟨S3, e3⟩ : ∃ S, p_to (p_32 l (p_to (p_row (p_all (p_hs K l)) l (p_to (p_8 l (some (0, l.length))))))) = S := ⟨_, rfl⟩
  rw [e3] at h4
  cases S3 with
  | none => exact absurd h4 (by simp [p_t])
  | some s3 =>
  obtain ⟨i3, e3'⟩ := s3
  obtain ⟨ep, h3⟩ := p_to_some e3
  obtain ⟨S2, e2⟩ : ∃ S, p_to (p_row (p_all (p_hs K l)) l (p_to (p_8 l (some (0, l.length))))) = S := ⟨_, rfl⟩
  rw [e2] at h3
  cases S2 with
  | none => exact absurd h3 (by simp [p_32, p_16, p_8])
  | some s2 =>
  obtain ⟨i2, e2'⟩ := s2
  obtain ⟨v, h2⟩ := p_to_some e2
  obtain ⟨S1, e1⟩ : ∃ S, p_to (p_8 l (some (0, l.length))) = S := ⟨_, rfl⟩
  rw [e1] at h2
  cases S1 with
  | none => exact absurd h2 (by simp [p_row, p_r, p_16, p_8])
  | some s1 =>
  obtain ⟨i1, e1'⟩ := s1
  obtain ⟨b, h1⟩ := p_to_some e1
  obtain ⟨x1, x2, _⟩ := p_8_in h1
  have x1 := Prod.mk.inj x1
  obtain ⟨x1, x3⟩ := x1
  subst x1; subst x3
  obtain ⟨u1, u2, u3⟩ := (p_row_fw2 (p_all_in (p_hs_fw (K := K) (l := l)))).2 _ _ _ _ h2
  have u3 : e2' = l.length := u3
  subst u3
  obtain ⟨y1, y2⟩ := p_32_ix h3
  have y1 := Prod.mk.inj y1
  obtain ⟨y1, y3⟩ := y1
  subst y1; subst y3
  obtain ⟨z1, z2, _⟩ := p_t_in h4
  have z1 := Prod.mk.inj z1
  obtain ⟨z1, z3⟩ := z1
  subst z1; subst z3
  obtain ⟨a1, a2, _⟩ := p_h_in h5
  have a1 := Prod.mk.inj a1
  obtain ⟨a1, a3⟩ := a1
  subst a1; subst a3
  obtain ⟨w1, w2, w3⟩ := p_16_le h6
  subst w1; subst w2
  obtain ⟨v1, v2, v3⟩ := p_tr_fw.2 _ _ _ _ h7
  have v3 : e7' = l.length := v3
  subst v3
  obtain ⟨b1, b2, _⟩ := p_t_in h8
  have b1 := Prod.mk.inj b1
  obtain ⟨b1, b3⟩ := b1
  subst b1; subst b3
  obtain ⟨c1, c2, _⟩ := p_t_in h9
  have c1 := Prod.mk.inj c1
  obtain ⟨c1, c3⟩ := c1
  subst c1; subst c3
  obtain ⟨bb, prs⟩ := v
  refine ⟨rfl, fun hi => ⟨ep, bb, i2, prs, th, cf, sd, ns, cm, sg, ?_⟩⟩
  have hn : i7 = l.length - 2 := by omega
  rw [hn] at h7 h8 h9
  have n1 : l.length - 2 + 1 = l.length - 1 := by omega
  rw [n1] at h8 h9
  have n2 : l.length - 1 + 1 = l.length := by omega
  rw [n2] at h9
  exact ⟨by omega, ⟨b, h1⟩, h2, h3, h4, h5, h6, h7, h8, h9⟩
theorem p_we_S (h : p_we K l ep b e1 prs th cf sd ns cm sg) : p_weS K l = some (l.length, l.length) := by
  obtain ⟨_, ⟨b, h0⟩, h1, h2, h3, h4, h5, h6, h7, h8⟩ := h
  unfold p_weS
  rw [h0, p_to_s, h1, p_to_s, h2, p_to_s, h3, p_to_s, h4, p_to_s, h5, p_to_s, h6, p_to_s, h7, p_to_s, h8, p_to_s]
end
variable {H Z X Y : sw_H} {nn nm r ra g m : Nat} {K K' S : Wt → Prop} {tl mk mm l : List Wt} {a b c x y n cn cs N U M : Int} {Q : sw_H → Prop} {P : Int → sw_H → Prop} {A B : List Nat} {w : Wt} {st : p_S}
theorem c_hs_l {x1 : Int} (r43 : 43 < r ∧ 43 < ra) (hml : mk.length ≤ 999999999) : ∀ (n : Nat) (left : Int) {st : p_S} {H : sw_H}, c_V H mk nn K tl cn cs → c_rs H mk r ra l → c_rd H l st → (∀ i e, st = some (i, e) → ((e - i : Nat) : Int) ≤ left) → left.toNat < n → left ≤ 2000 → (∀ G, c_rd G l (p_to (p_many (p_hs K l) left.toNat st)) → c_fr [18] H G → c_k5 H G → wb_268_35 Q 18 x1 G) → wl_268_20 Q n 18 x1 left H
  | 0, _, _, _, _, _, _, _, h, _, _ => by omega
  | n + 1, left, st, H, hV, hs, h, hle, hn, h2, k => by
    unfold wl_268_20
    have stop : (∀ i e, st = some (i, e) → e ≤ i) → wb_268_35 Q 18 x1 H := by
      intro hc
      refine k H ?_ (c_fr_refl _ _) (c_k5_r _)
      cases st with
      | none => rw [p_many_0]; exact h
      | some s =>
        obtain ⟨i, e⟩ := s
        rw [p_many_e (hc i e rfl)]
        exact h
    refine ⟨fun c => stop (fun i e ee => by have := hle i e ee; omega), fun c => ?_⟩
    refine c_hasMore h (fun i e ee hie _ _ => ⟨fun c2 => absurd c2 (by decide), fun _ => ?_⟩) (fun hc _ _ => ⟨fun _ => stop hc, fun c2 => absurd rfl c2⟩)
    subst ee
    have hle := hle i e rfl
    refine c_termOf (so := 1) (by decide) (by decide) hV hml hs h (fun z1 G1 r1 _ _ _ f1 k1 _ _ => ?_)
    refine c_termOf (so := 6) (by decide) (by decide) (c_VR hV f1 (by simp)) hml (c_rs_frN hs f1 (by simp) r43) r1 (fun z2 G2 r2 _ _ _ f2 k2 _ _ => ?_)
    have f12 := c_fr_t f1 f2
    intro y68 e68
    rw [e68, sw_w_s (by omega) (by omega), show left + -1 = left - 1 by omega]
    rw [← p_hs_to] at r2
    refine c_hs_l r43 hml n (left - 1) (c_VR hV f12 (by simp)) (c_rs_frN hs f12 (by simp) r43) r2 (fun i' e' ee => ?_) (by omega) (by omega) (fun X rX fX kX => k X ?_ (c_fr_t f12 fX) (c_k5_t k1 (c_k5_t k2 kX)))
    · obtain ⟨w, hw⟩ := p_to_some ee
      obtain ⟨b1, b2, b3⟩ := p_hs_fw.2 _ _ _ _ hw
      have b1 : i < i' := b1
      have b3 : e' = e := b3
      omega
    · have en : left.toNat = (left - 1).toNat + 1 := by omega
      rw [en, p_many_to hie]
      exact rX
/-- what the Reader has of a WELCOME -/
def c_wev (H : sw_H) (mk : List Wt) (ep sd : Int) (b e1 : Nat) (ns : List p_V) : Prop := sw_iv H 18 6 = ep ∧ sw_iv H 18 7 = sd ∧ sw_iv H 18 9 = b ∧ sw_iv H 18 10 = e1 ∧ c_tr H mk 23 (t_of ns)
theorem c_tr_18 {T : w_T} {Z : sw_H} (hV : c_V H mk nn K tl cn cs) (h : c_tr H mk 23 T) (f : c_fr [18] H Z) : c_tr Z mk 23 T := c_tr_fr hV h f (fun a ha => by simp at ha; unfold c_fix; omega)
theorem c_we_end (r43 : 43 < r ∧ 43 < ra) (hml : mk.length ≤ 999999999) (hvl : w_vl l) (hV : c_V H mk nn K tl cn cs) (hRe : c_Re H) (hs : c_rs H mk r ra l) (h : c_rd H l st) (q : ∀ G, c_rd G l (p_to (p_t K 7 l (p_to (p_t K 2 l (p_to (p_tr K l (p_to (p_16 l st)))))))) → (∀ z s, p_16 l st = some (z, s) → sw_iv G 18 7 = z) → (∀ ns s, p_tr K l (p_to (p_16 l st)) = some (ns, s) → c_tr G mk 23 (t_of ns)) → c_fr c_Bk H G → c_kx 7 H G → Q G) : wb_268_53 Q 18 H := by
  have hB : ∀ a ∈ c_Bk, 18 ≤ a ∧ a ≤ 43 := fun a ha => c_Bk_b ha
  unfold wb_268_53
  refine c_u16 hV.1 hs h (fun z1 G1 r1 v1 z0 zl f1 k1 _ _ => ?_)
  intro H6 e6
  have f6 : c_fr [18] G1 H6 := by rw [e6]; exact c_fr_si _ _ _ _
  have f16 := c_fr_t f1 f6
  have r6 := c_rd_fr (Z := H6) r1 (fun f hf => by rw [e6, c_si_f (by omega)])
  refine c_readTree r43 hml hvl (c_VR hV f16 (by simp)) (c_Re_fr hRe f16) (c_rs_frN hs f16 (by simp) r43) r6 (fun G2 r2 v2 f2 k2 _ => ?_)
  have F2 : c_fr c_Bk H G2 := c_fr_t (c_frB f16 (by simp)) f2
  refine c_termOf (so := 2) (by decide) (by decide) (c_VR hV F2 hB) hml (c_rs_frN hs F2 hB r43) r2 (fun z3 G3 r3 _ _ _ f3 k3 _ _ => ?_)
  have F3 := c_fr_t F2 (c_frB f3 (by simp))
  refine c_termOf (so := 7) (by decide) (by decide) (c_VR hV F3 hB) hml (c_rs_frN hs F3 hB r43) r3 (fun z4 G4 r4 _ _ _ f4 k4 _ _ => ?_)
  refine q G4 r4 (fun z s hz => ?_) (fun ns s hns => ?_) (c_fr_t F3 (c_frB f4 (by simp))) (fun f h5 h7 => ?_)
  · rw [k4 7 (by omega), k3 7 (by omega), k2 7 (by omega), e6, c_si_eq]
    exact v1 z s hz
  · exact c_tr_18 (c_VR hV F3 hB) (c_tr_18 (c_VR hV F2 hB) (v2 ns s hns) f3) f4
  · rw [k4 f h5, k3 f h5, k2 f h5, e6, c_si_f h7, k1 f h5]
theorem c_readWelcome (r43 : 43 < r ∧ 43 < ra) (hml : mk.length ≤ 999999999) (hvl : w_vl l) (hV : c_V H mk nn K tl cn cs) (hRe : c_Re H) (hs : c_rs H mk r ra l) (h : c_rd H l (some (0, l.length))) (q : ∀ G, c_rd G l (p_weS K l) → (∀ ep b e1 prs th cf sd ns cm sg, p_we K l ep b e1 prs th cf sd ns cm sg → c_wev G mk ep sd b e1 ns) → c_fr c_Bk H G → sw_iv G 18 5 = sw_iv H 18 5 → Q G) : wm_268 18 H Q := by
  have hl14 : l.length ≤ 1400 := hs.2.2.2.2.2.2.1
  have hB : ∀ a ∈ c_Bk, 18 ≤ a ∧ a ≤ 43 := fun a ha => c_Bk_b ha
  unfold wm_268
  refine c_u8 hV.1 hs h (fun z1 G1 r1 v1 _ _ f1 k1 _ _ => ?_)
  have V1 := c_VR hV f1 (by simp)
  have s1 := c_rs_frN hs f1 (by simp) r43
  refine c_openRow V1 s1 r1 (fun G2 r2 f2 k2 _ _ => ?_)
  have f12 := c_fr_t f1 f2
  obtain ⟨b1, b2, b3, b4⟩ := c_rd_b r2
  intro v87 e87 _ H90 e90 v93 e93 _ H96 e96 v99 e99 _ v102 e102 _ y105 e105
  have i90 : ∀ f, f ≠ 9 → sw_iv H90 18 f = sw_iv G2 18 f := fun f hf => by rw [e90, c_si_f hf]
  have i96 : ∀ f, f ≠ 9 → f ≠ 10 → sw_iv H96 18 f = sw_iv G2 18 f := fun f h9 h10 => by rw [e96, c_si_f h10, i90 f h9]
  rw [i90 3 (by decide)] at e93
  rw [i96 3 (by decide) (by decide)] at e99
  rw [i96 2 (by decide) (by decide)] at e102
  rw [sw_w_s (by omega) (by omega)] at e105
  have x9 : sw_iv H96 18 9 = sw_iv G2 18 2 := by rw [e96, c_si_f (by decide), e90, c_si_eq, e87]
  have x10 : sw_iv H96 18 10 = sw_iv G2 18 3 := by rw [e96, c_si_eq, e93]
  have fa : c_fr [18] G2 H90 := by rw [e90]; exact c_fr_si _ _ _ _
  have fb : c_fr [18] H90 H96 := by rw [e96]; exact c_fr_si _ _ _ _
  have f18 := c_fr_t f12 (c_fr_t fa fb)
  have r8 : c_rd H96 l (p_o l (p_to (p_8 l (some (0, l.length))))) := c_rd_fr r2 (fun f hf => i96 f (by omega) (by omega))
  clear e90 e96
  refine ⟨y105.toNat + 1, ?_⟩
  refine c_hs_l r43 hml (y105.toNat + 1) y105 (c_VR hV f18 (by simp)) (c_rs_frN hs f18 (by simp) r43) r8 (fun i e ee => ?_) (by omega) (by omega) (fun G3 r3 f3 k3 => ?_)
  · rw [ee] at r2
    obtain ⟨q1, q2, _⟩ := r2
    omega
  have eall : p_to (p_many (p_hs K l) y105.toNat (p_o l (p_to (p_8 l (some (0, l.length)))))) = p_to (p_all (p_hs K l) (p_o l (p_to (p_8 l (some (0, l.length)))))) := by
    obtain ⟨o, eo⟩ : ∃ o, p_o l (p_to (p_8 l (some (0, l.length)))) = o := ⟨_, rfl⟩
    rw [eo] at r2 ⊢
    cases o with
    | none => rw [p_many_0]; rfl
    | some s =>
      obtain ⟨i', e'⟩ := s
      obtain ⟨q1, q2, _, q4, _⟩ := r2
      have : y105.toNat = e' - i' := by omega
      rw [this]
      rfl
  rw [eall] at r3
  have f38 := c_fr_t f18 f3
  unfold wb_268_35
  refine c_close (f := p_all (p_hs K l)) (S := p_to (p_8 l (some (0, l.length)))) (Z := G1) (P0 := p_to (p_row (p_all (p_hs K l)) l (p_to (p_8 l (some (0, l.length)))))) (p_all_in p_hs_fw) r3 r1 rfl rfl (fun G4 r4 f4 k4 _ => ?_)
  have f14 := c_fr_t f38 f4
  refine c_u32 (c_VR hV f14 (by simp)) (c_rs_frN hs f14 (by simp) r43) r4 (fun z5 G5 r5 v5 _ f5 k5 _ _ => ?_)
  intro H6 e6
  have f6 : c_fr [18] G5 H6 := by rw [e6]; exact c_fr_si _ _ _ _
  have f16 := c_fr_t f14 (c_fr_t f5 f6)
  have r6 := c_rd_fr (Z := H6) r5 (fun f hf => by rw [e6, c_si_f (by omega)])
  refine c_termOf (so := 1) (by decide) (by decide) (c_VR hV f16 (by simp)) hml (c_rs_frN hs f16 (by simp) r43) r6 (fun z7 G7 r7 _ _ _ f7 k7 _ _ => ?_)
  have f17 := c_fr_t f16 f7
  have V7 := c_VR hV f17 (by simp)
  have s7 := c_rs_frN hs f17 (by simp) r43
  have y5 : ∀ f, 5 ≤ f → f ≠ 6 → sw_iv G7 18 f = sw_iv H96 18 f := fun f h5 h6 => by rw [k7 f h5, e6, c_si_f h6, k5 f h5, k4 f h5, k3 f h5]
  have y6 : sw_iv G7 18 6 = z5 := by rw [k7 6 (by omega), e6, c_si_eq]
  -- the rest
  have fin : ∀ G8, c_rd G8 l (p_to (p_h K l (p_to (p_t K 1 l (p_to (p_32 l (p_to (p_row (p_all (p_hs K l)) l (p_to (p_8 l (some (0, l.length)))))))))))) → c_fr [18] G7 G8 → c_k5 G7 G8 → wb_268_53 Q 18 G8 := by
    intro G8 r8' f8 k8
    have f18' := c_fr_t f17 f8
    refine c_we_end r43 hml hvl (c_VR hV f18' (by simp)) (c_Re_fr hRe f18') (c_rs_frN hs f18' (by simp) r43) r8' (fun G9 r9 v7 vt f9 k9 => q G9 r9 (fun ep b e1 prs th cf sd ns cm sg hp => ?_) (c_fr_t (c_frB f18' (by simp)) f9) ?_)
    · obtain ⟨_, ⟨b0, c0⟩, c1, c2, c3, c4, c5, c6, _⟩ := hp
      have S1 : p_to (p_8 l (some (0, l.length))) = some (1, l.length) := by rw [c0, p_to_s]
      rw [S1] at v5 v7 vt r2
      have S2 : p_to (p_row (p_all (p_hs K l)) l (some (1, l.length))) = some (e1, l.length) := by rw [c1, p_to_s]
      rw [S2] at v5 v7 vt
      have S3 : p_to (p_32 l (some (e1, l.length))) = some (e1 + 4, l.length) := by rw [c2, p_to_s]
      rw [S3] at v7 vt
      have S4 : p_to (p_t K 1 l (some (e1 + 4, l.length))) = some (e1 + 5, l.length) := by rw [c3, p_to_s]
      rw [S4] at v7 vt
      have S5 : p_to (p_h K l (some (e1 + 5, l.length))) = some (e1 + 6, l.length) := by rw [c4, p_to_s]
      rw [S5] at v7 vt
      have S6 : p_to (p_16 l (some (e1 + 6, l.length))) = some (e1 + 8, l.length) := by rw [c5, p_to_s]
      rw [S6] at vt
      have q6 := v5 ep _ c2
      have q7 := v7 sd _ c5
      have qt := vt ns _ c6
      have c1' := c1
      unfold p_row at c1'
      rw [Option.bind_eq_some_iff] at c1'
      obtain ⟨⟨en, i1, e1'⟩, hr, c1'⟩ := c1'
      rw [Option.bind_eq_some_iff] at c1'
      obtain ⟨⟨tt, i2, e2⟩, h3, c1'⟩ := c1'
      have c1' : (if i2 = en then some ((i1, tt), i2, e1') else none) = some ((b, prs), e1, l.length) := c1'
      by_cases cc : i2 = en
      · rw [if_pos cc] at c1'
        have c1' := Option.some.inj c1'
        simp only [Prod.mk.injEq] at c1'
        obtain ⟨⟨g1, g2⟩, g3, g4⟩ := c1'
        have eo : p_o l (some (1, l.length)) = some (i1, en) := by unfold p_o; rw [hr]; rfl
        rw [eo] at r2
        have x2 : sw_iv G2 18 2 = i1 := r2.1
        have x3 : sw_iv G2 18 3 = en := r2.2.1
        refine ⟨?_, q7, ?_, ?_, qt⟩
        · rw [k9 6 (by omega) (by omega), k8 6 (by omega), y6]; exact q6
        · rw [k9 9 (by omega) (by omega), k8 9 (by omega), y5 9 (by omega) (by omega), x9, x2, g1]
        · rw [k9 10 (by omega) (by omega), k8 10 (by omega), y5 10 (by omega) (by omega), x10, x3]; omega
      · rw [if_neg cc] at c1'
        exact absurd c1' (by simp)
    · rw [k9 5 (by omega) (by omega), k8 5 (by omega), y5 5 (by omega) (by omega), i96 5 (by decide) (by decide), k2 5 (by omega), k1 5 (by omega)]
  refine c_isZero V7 s7 r7 (fun G8 r8 _ f8 k8 _ _ => ⟨fun _ => fin G8 r8 f8 k8, fun c => absurd c (by decide)⟩) (fun hh _ _ => ⟨fun c => absurd rfl c, fun _ => ?_⟩)
  refine c_termOf (so := 1) (by decide) (by decide) V7 hml s7 r7 (fun z8 G8 r8 _ _ _ f8 k8 _ _ => fin G8 (by rw [hh]; exact r8) f8 k8)
end
