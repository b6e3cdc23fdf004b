/-! ===== the class: the Reader's readCommit ===== -/
noncomputable section
variable {H Z X Y : sw_H} {nn nm r ra g m : Nat} {K K' S : Wt → Prop} {tl mk mm l : List Wt} {a b c x y n cn cs N U M : Int} {Q : sw_H → Prop} {P : Int → sw_H → Prop} {A B : List Nat} {w : Wt} {st : p_S}
theorem c_ent_l {x1 : Int} (r43 : 43 < r ∧ 43 < ra) (hml : mk.length ≤ 999999999) : ∀ (n : Nat) (left : Int) {st : p_S} {H : sw_H}, c_V H mk nn K tl cn cs → c_Re H → c_rs H mk r ra l → c_rd H l st → (∀ i e, st = some (i, e) → ((e - i : Nat) : Int) ≤ left) → left.toNat < n → left ≤ 2000 → (∀ G, c_rd G l (p_to (p_many (p_en K l) left.toNat st)) → c_fr [18, 22] H G → c_kx 8 H G → wb_267_46 Q 18 x1 G) → wl_267_19 Q n 18 x1 left H
  | 0, _, _, _, _, _, _, _, _, h, _, _ => by omega
  | n + 1, left, st, H, hV, hRe, hs, h, hle, hn, h2, k => by
    unfold wl_267_19
    have stop : (∀ i e, st = some (i, e) → e ≤ i) → wb_267_46 Q 18 x1 H := by
      intro hc
      refine k H ?_ (c_fr_refl _ _) (fun _ _ _ => rfl)
      cases st with
      | none => rw [p_many_0]; exact h
      | some s =>
        obtain ⟨i, e⟩ := s
        rw [p_many_e (hc i e rfl)]
        exact h
    refine ⟨fun c => stop (fun i e ee => by have := hle i e ee; omega), fun c => ?_⟩
    refine c_hasMore h (fun i e ee hie _ _ => ⟨fun c2 => absurd c2 (by decide), fun _ => ?_⟩) (fun hc _ _ => ⟨fun _ => stop hc, fun c2 => absurd rfl c2⟩)
    subst ee
    have hle := hle i e rfl
    refine c_u8 hV.1 hs h (fun z1 G1 r1 v1 _ _ f1 k1 _ _ => ?_)
    have V1 := c_VR hV f1 (by simp)
    have s1 := c_rs_frN hs f1 (by simp) r43
    obtain ⟨e1, e2, e3⟩ := p_en_st (K := K) v1
    have go : ∀ G, c_rd G l (p_to (p_en K l (some (i, e)))) → c_fr [18, 22] H G → c_kx 8 H G → wb_267_44 Q (wl_267_19 Q n) 18 x1 left G := by
      intro G rG fG kG
      unfold wb_267_44
      intro y42 e42
      rw [e42, sw_w_s (by omega) (by omega), show left + -1 = left - 1 by omega]
      refine c_ent_l r43 hml n (left - 1) (c_VR hV fG (by simp)) (c_Re_fr hRe fG) (c_rs_frN hs fG (by simp) r43) rG (fun i' e' ee => ?_) (by omega) (by omega) (fun X rX fX kX => k X ?_ (c_fr_t fG fX) (c_kx_t kG kX))
      · obtain ⟨w, hw⟩ := p_to_some ee
        obtain ⟨b1, b2, b3⟩ := p_en_fw.2 _ _ _ _ hw
        have b1 : i < i' := b1
        have b3 : e' = e := b3
        omega
      · have en : left.toNat = (left - 1).toNat + 1 := by omega
        rw [en, p_many_to hie]
        exact rX
    refine ⟨fun c1 => ⟨fun c2 => ?_, fun c2 => ?_⟩, fun c1 => ?_⟩
    · intro H59 e59
      obtain ⟨b1, b2, b3, b4⟩ := c_rd_b r1
      obtain ⟨w1, w2⟩ := c_rd_wrong b1 b2 b3 b4 e59
      refine go H59 (by rw [e3 c1 c2]; exact w1) (c_fr_sub (c_fr_trans f1 w2) (by simp)) (fun f h5 h8 => by rw [e59, c_si_f (by omega), k1 f h5])
    · refine c_readContent V1 hml s1 (by omega) (by omega) (c_Re_fr hRe f1).1.2.2.2.1 (c_Re_fr hRe f1).2.2.1 r1 (fun G2 r2 v2 f2 k2 _ => ?_)
      refine go G2 (by rw [e2 c2]; exact r2) (c_fr_sub (c_fr_trans f1 f2) (by simp)) (fun f h5 h8 => by rw [k2 f h5 h8, k1 f h5])
    · refine c_termOf (so := 1) (by decide) (by decide) V1 hml s1 r1 (fun z2 G2 r2 _ _ _ f2 k2 _ _ => ?_)
      refine go G2 (by rw [e1 c1]; exact r2) (c_fr_sub (c_fr_trans f1 f2) (by simp)) (c_kx_5 (c_k5_t k1 k2))
/-- the end of a COMMIT -/
theorem c_cm_end (r43 : 43 < r ∧ 43 < ra) (hml : mk.length ≤ 999999999) (hV : c_V H mk nn K tl cn cs) (hs : c_rs H mk r ra l) (h : c_rd H l st) (q : ∀ G, c_rd G l (p_to (p_t K 2 l (p_to (p_t K 2 l (p_to (p_t K 7 l st)))))) → c_fr [18] H G → c_k5 H G → Q G) : wb_267_66 Q 18 H := by
  unfold wb_267_66
  refine c_termOf (so := 7) (by decide) (by decide) hV hml hs h (fun z1 G1 r1 _ _ _ f1 k1 _ _ => ?_)
  refine c_termOf (so := 2) (by decide) (by decide) (c_VR hV f1 (by simp)) hml (c_rs_frN hs f1 (by simp) r43) r1 (fun z2 G2 r2 _ _ _ f2 k2 _ _ => ?_)
  have f12 := c_fr_t f1 f2
  refine c_termOf (so := 2) (by decide) (by decide) (c_VR hV f12 (by simp)) hml (c_rs_frN hs f12 (by simp) r43) r2 (fun z3 G3 r3 _ _ _ f3 k3 _ _ => ?_)
  exact q G3 r3 (c_fr_t f12 f3) (c_k5_t k1 (c_k5_t k2 k3))
/-- what the Reader has of a COMMIT -/
def c_cmv (H : sw_H) (mk : List Wt) (ep sd : Int) (b e1 : Nat) (pt : Option p_P) : Prop := sw_iv H 18 6 = ep ∧ sw_iv H 18 7 = sd ∧ sw_iv H 18 9 = b ∧ sw_iv H 18 10 = e1 ∧ match pt with
  | none => sw_iv H 18 11 = -1
  | some v => c_pv H mk v
theorem c_pv_fr {Z : sw_H} {v : p_P} (h : c_pv H mk v) (e : ∀ p, 19 ≤ p → p ≤ 22 → sw_iv Z p = sw_iv H p) (e11 : sw_iv Z 18 11 = sw_iv H 18 11) : c_pv Z mk v := by
  obtain ⟨⟨m, k, p, so, ph, g⟩, ns⟩ := v
  obtain ⟨⟨h1, h2⟩, h3, h4⟩ := h
  refine ⟨⟨c_lf_iv h1 (fun f _ => by rw [e 22 (by omega) (by omega)]) (w_le_refl _), by rw [e 22 (by omega) (by omega)]; exact h2⟩, by rw [e11]; exact h3, fun i k s t hi hk => ?_⟩
  rw [e 19 (by omega) (by omega), e 20 (by omega) (by omega), e 21 (by omega) (by omega)]
  exact h4 i k s t hi hk
theorem c_readCommit (r43 : 43 < r ∧ 43 < ra) (hml : mk.length ≤ 999999999) (hV : c_V H mk nn K tl cn cs) (hRe : c_Re H) (hs : c_rs H mk r ra l) (h : c_rd H l (some (0, l.length))) (q : ∀ G, c_rd G l (p_cmS K l) → (∀ ep sd b e1 es pt sg cf tg, p_cm K l ep sd b e1 es pt sg cf tg → c_cmv G mk ep sd b e1 pt) → c_fr [18, 19, 20, 21, 22] H G → sw_iv G 18 5 = sw_iv H 18 5 → Q G) : wm_267 18 H Q := by
  have hl14 : l.length ≤ 1400 := hs.2.2.2.2.2.2.1
  unfold wm_267
  refine c_readHead r43 hV hs h (fun G1 r1 v6 v7 _ f1 k1 _ => ?_)
  have V1 := c_VR hV f1 (by simp)
  have s1 := c_rs_frN hs f1 (by simp) r43
  refine c_openRow V1 s1 r1 (fun G2 r2 f2 k2 _ _ => ?_)
  have f12 := c_fr_t f1 f2
  obtain ⟨b1, b2, b3, b4⟩ := c_rd_b r2
  intro v89 e89 _ H92 e92 v95 e95 _ H98 e98 v101 e101 _ v104 e104 _ y107 e107
  have i92 : ∀ f, f ≠ 9 → sw_iv H92 18 f = sw_iv G2 18 f := fun f hf => by rw [e92, c_si_f hf]
  have i98 : ∀ f, f ≠ 9 → f ≠ 10 → sw_iv H98 18 f = sw_iv G2 18 f := fun f h9 h10 => by rw [e98, c_si_f h10, i92 f h9]
  rw [i92 3 (by decide)] at e95
  rw [i98 3 (by decide) (by decide)] at e101
  rw [i98 2 (by decide) (by decide)] at e104
  rw [sw_w_s (by omega) (by omega)] at e107
  have x9 : sw_iv H98 18 9 = sw_iv G2 18 2 := by rw [e98, c_si_f (by decide), e92, c_si_eq, e89]
  have x10 : sw_iv H98 18 10 = sw_iv G2 18 3 := by rw [e98, c_si_eq, e95]
  have fa : c_fr [18] G2 H92 := by rw [e92]; exact c_fr_si _ _ _ _
  have fb : c_fr [18] H92 H98 := by rw [e98]; exact c_fr_si _ _ _ _
  have f18 := c_fr_t f12 (c_fr_t fa fb)
  have r8 : c_rd H98 l (p_o l (p_to (p_16 l (p_to (p_32 l (p_to (p_8 l (some (0, l.length))))))))) := c_rd_fr r2 (fun f hf => i98 f (by omega) (by omega))
  clear e92 e98
  refine ⟨y107.toNat + 1, ?_⟩
  refine c_ent_l r43 hml (y107.toNat + 1) y107 (c_VR hV f18 (by simp)) (c_Re_fr hRe f18) (c_rs_frN hs f18 (by simp) r43) r8 (fun i e ee => ?_) (by omega) (by omega) (fun G3 r3 f3 k3 => ?_)
  · rw [ee] at r2
    obtain ⟨q1, q2, _⟩ := r2
    omega
  have eall : p_to (p_many (p_en K l) y107.toNat (p_o l (p_to (p_16 l (p_to (p_32 l (p_to (p_8 l (some (0, l.length)))))))))) = p_to (p_all (p_en K l) (p_o l (p_to (p_16 l (p_to (p_32 l (p_to (p_8 l (some (0, l.length)))))))))) := by
    obtain ⟨o, eo⟩ : ∃ o, p_o l (p_to (p_16 l (p_to (p_32 l (p_to (p_8 l (some (0, l.length)))))))) = o := ⟨_, rfl⟩
    rw [eo] at r2 ⊢
    cases o with
    | none => rw [p_many_0]; rfl
    | some s =>
      obtain ⟨i', e'⟩ := s
      obtain ⟨q1, q2, _, q4, _⟩ := r2
      have : y107.toNat = e' - i' := by omega
      rw [this]
      rfl
  rw [eall] at r3
  have f38 : c_fr [18, 22] H G3 := c_fr_sub (c_fr_trans f18 f3) (by simp)
  unfold wb_267_46
  refine c_close (f := p_all (p_en K l)) (S := p_to (p_16 l (p_to (p_32 l (p_to (p_8 l (some (0, l.length)))))))) (Z := G1) (P0 := p_to (p_row (p_all (p_en K l)) l (p_to (p_16 l (p_to (p_32 l (p_to (p_8 l (some (0, l.length))))))))))  (p_all_in p_en_fw) r3 r1 rfl rfl (fun G4 r4 f4 k4 _ => ?_)
  intro H5 e5
  have f5 : c_fr [18] G4 H5 := by rw [e5]; exact c_fr_si _ _ _ _
  have f45 : c_fr [18, 22] H H5 := c_fr_sub (c_fr_trans (c_fr_trans f38 f4) f5) (by simp)
  have r5 := c_rd_fr (Z := H5) r4 (fun f hf => by rw [e5, c_si_f (by omega)])
  have y11 : sw_iv H5 18 11 = -1 := by rw [e5, c_si_eq]
  have y5 : ∀ f, 5 ≤ f → f ≠ 8 → f ≠ 11 → sw_iv H5 18 f = sw_iv H98 18 f := fun f h5 h8 h11 => by rw [e5, c_si_f h11, k4 f h5, k3 f h5 h8]
  refine c_u8 (c_VR hV f45 (by simp)).1 (c_rs_frN hs f45 (by simp) r43) r5 (fun z6 G6 r6 v6' _ _ f6 k6 _ _ => ?_)
  have f16 : c_fr [18, 22] H G6 := c_fr_sub (c_fr_trans f45 f6) (by simp)
  have V6 := c_VR hV f16 (by simp)
  have s6 := c_rs_frN hs f16 (by simp) r43
  have Re6 := c_Re_fr hRe f16
  obtain ⟨p1, p2, p3⟩ := p_wp_st (K := K) v6'
  -- to the end
  have fin : ∀ G7, c_rd G7 l (p_to (p_wp K l (p_to (p_row (p_all (p_en K l)) l (p_to (p_16 l (p_to (p_32 l (p_to (p_8 l (some (0, l.length))))))))))) ) → (∀ pt s, p_wp K l (p_to (p_row (p_all (p_en K l)) l (p_to (p_16 l (p_to (p_32 l (p_to (p_8 l (some (0, l.length)))))))))) = some (pt, s) → match pt with | none => sw_iv G7 18 11 = -1 | some v => c_pv G7 mk v) → c_fr [18, 19, 20, 21, 22] H G7 → c_kx 11 G6 G7 → wb_267_66 Q 18 G7 := by
    intro G7 r7 v7' f7 k7
    refine c_cm_end r43 hml (c_VR hV f7 (by simp)) (c_rs_frN hs f7 (by simp) r43) r7 (fun G8 r8' f8 k8 => q G8 r8' (fun ep sd b e1 es pt sg cf tg hp => ?_) (c_fr_sub (c_fr_trans f7 f8) (by simp)) ?_)
    · obtain ⟨_, ⟨b0, c0⟩, c1, c2, c3, c4, _⟩ := hp
      have S1 : p_to (p_8 l (some (0, l.length))) = some (1, l.length) := by rw [c0, p_to_s]
      rw [S1] at v6 v7 v7' r2
      have S2 : p_to (p_32 l (some (1, l.length))) = some (5, l.length) := by rw [c1, p_to_s]
      rw [S2] at v7 v7' r2
      have S3 : p_to (p_16 l (some (5, l.length))) = some (7, l.length) := by rw [c2, p_to_s]
      rw [S3] at v7' r2
      have S4 : p_to (p_row (p_all (p_en K l)) l (some (7, l.length))) = some (e1, l.length) := by rw [c3, p_to_s]
      rw [S4] at v7'
      have e6 := v6 ep _ c1
      have e7 := v7 sd _ c2
      have pv := v7' pt _ c4
      have c3' := c3
      unfold p_row at c3'
      rw [Option.bind_eq_some_iff] at c3'
      obtain ⟨⟨en, i1, e1'⟩, hr, c3'⟩ := c3'
      rw [Option.bind_eq_some_iff] at c3'
      obtain ⟨⟨tt, i2, e2⟩, h3, c3'⟩ := c3'
      have c3' : (if i2 = en then some ((i1, tt), i2, e1') else none) = some ((b, es), e1, l.length) := c3'
      by_cases cc : i2 = en
      · rw [if_pos cc] at c3'
        have c3' := Option.some.inj c3'
        simp only [Prod.mk.injEq] at c3'
        obtain ⟨⟨g1, g2⟩, g3, g4⟩ := c3'
        have eo : p_o l (some (7, l.length)) = some (i1, en) := by unfold p_o; rw [hr]; rfl
        rw [eo] at r2
        have x2 : sw_iv G2 18 2 = i1 := r2.1
        have x3 : sw_iv G2 18 3 = en := r2.2.1
        have back : ∀ f, 5 ≤ f → f ≠ 8 → f ≠ 11 → sw_iv G8 18 f = sw_iv H98 18 f := fun f h5 h8 h11 => by rw [k8 f h5, k7 f h5 h11, k6 f h5, y5 f h5 h8 h11]
        refine ⟨?_, ?_, ?_, ?_, ?_⟩
        · rw [back 6 (by omega) (by omega) (by omega), i98 6 (by decide) (by decide), k2 6 (by omega)]; exact e6
        · rw [back 7 (by omega) (by omega) (by omega), i98 7 (by decide) (by decide), k2 7 (by omega)]; exact e7
        · rw [back 9 (by omega) (by omega) (by omega), x9, x2, g1]
        · rw [back 10 (by omega) (by omega) (by omega), x10, x3]; omega
        · cases pt with
          | none =>
            have pv : sw_iv G7 18 11 = -1 := pv
            show sw_iv G8 18 11 = -1
            rw [k8 11 (by omega)]; exact pv
          | some v =>
            have pv : c_pv G7 mk v := pv
            exact c_pv_fr pv (fun p h1 h2 => f8.2.2.2.2.2 p (by simp; omega)) (k8 11 (by omega))
      · rw [if_neg cc] at c3'
        exact absurd c3' (by simp)
    · rw [k8 5 (by omega), k7 5 (by omega) (by omega), k6 5 (by omega), y5 5 (by omega) (by omega) (by omega), i98 5 (by decide) (by decide), k2 5 (by omega), k1 5 (by omega) (by omega) (by omega)]
  refine ⟨fun c7 => ⟨fun c8 => ?_, fun c8 => ?_⟩, fun c7 => ?_⟩
  · have e := p2 c8
    refine fin G6 ?_ (fun pt s hpt => ?_) (c_fr_sub f16 (by simp)) (fun _ _ _ => rfl)
    · rw [e]
      cases ho : p_8 l (p_to (p_row (p_all (p_en K l)) l (p_to (p_16 l (p_to (p_32 l (p_to (p_8 l (some (0, l.length)))))))))) with
      | none => rw [ho] at r6; exact r6
      | some a => rw [ho] at r6; exact r6
    · rw [e, Option.map_eq_some_iff] at hpt
      obtain ⟨a, _, hpt⟩ := hpt
      have hpt := (Prod.mk.inj hpt).1
      subst hpt
      show sw_iv G6 18 11 = -1
      rw [k6 11 (by omega)]; exact y11
  · intro H32 e32
    obtain ⟨b1', b2', b3', b4'⟩ := c_rd_b r6
    obtain ⟨w1, w2⟩ := c_rd_wrong b1' b2' b3' b4' e32
    have e := p3 c7 c8
    refine fin H32 (by rw [e]; exact w1) (fun pt s hpt => by rw [e] at hpt; exact absurd hpt (by simp)) (c_fr_sub (c_fr_trans f16 w2) (by simp)) (fun f h5 _ => by rw [e32, c_si_f (by omega)])
  · have e := p1 c7
    refine c_readPath r43 hml V6 Re6 s6 r6 (fun G7 r7 v7' f7 k7 _ => fin G7 ?_ (fun pt s hpt => ?_) (c_fr_sub (c_fr_trans f16 f7) (by simp)) k7)
    · rw [e]
      cases ho : p_pa K l (p_to (p_8 l (p_to (p_row (p_all (p_en K l)) l (p_to (p_16 l (p_to (p_32 l (p_to (p_8 l (some (0, l.length))))))))))))  with
      | none => rw [ho] at r7; exact r7
      | some a => rw [ho] at r7; exact r7
    · rw [e, Option.map_eq_some_iff] at hpt
      obtain ⟨⟨v, s'⟩, hv, hpt⟩ := hpt
      have hpt := (Prod.mk.inj hpt).1
      subst hpt
      exact v7' v s' hv
end
