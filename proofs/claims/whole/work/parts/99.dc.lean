/-! ===== the class: the Reader's readPath, all of it ===== -/
noncomputable section
variable {H Z X Y : sw_H} {nn nm r ra g m : Nat} {K K' S : Wt → Prop} {tl mk mm l : List Wt} {a b c x y n cn cs N U M : Int} {Q : sw_H → Prop} {P : Int → sw_H → Prop} {A B : List Nat} {w : Wt} {st : p_S}
/-- the Reader's other numbers stay, but f0 -/
def c_kx (f0 : Nat) (H Z : sw_H) : Prop := ∀ f, 5 ≤ f → f ≠ f0 → sw_iv Z 18 f = sw_iv H 18 f
theorem c_kx_5 {f0 : Nat} (h : c_k5 H Z) : c_kx f0 H Z := fun f h1 _ => h f h1
theorem c_kx_t {f0 : Nat} (h : c_kx f0 H Z) (k : c_kx f0 Z X) : c_kx f0 H X := fun f h1 h2 => by rw [k f h1 h2, h f h1 h2]
theorem p_nd_v {i e : Nat} {k : Wt} {s0 : Nat} {t : List Wt} {s : Nat × Nat} (he : e ≤ l.length) (h : p_nd K l (some (i, e)) = some ((k, s0, t), s)) : p_t K 5 l (some (i, e)) = some (k, i + 1, e) ∧ p_o l (some (i + 1, e)) = some (s0, s.1) ∧ s0 = i + 3 ∧ t = w_sli l s0 s.1 ∧ s0 ≤ s.1 ∧ s.1 ≤ e ∧ s.2 = e ∧ ∀ w ∈ t, w.head? = some 6 ∧ K w := by
  unfold p_nd at h
  rw [Option.bind_eq_some_iff] at h
  obtain ⟨⟨k', sk⟩, h1, h⟩ := h
  obtain ⟨b1, b2, _⟩ := p_t_in h1
  subst b1
  rw [Option.map_eq_some_iff] at h
  obtain ⟨⟨x, s'⟩, h2, h⟩ := h
  simp only [Prod.mk.injEq] at h
  obtain ⟨⟨x1, x2⟩, x3⟩ := h
  subst x1; subst x3; subst x2
  have h2 : p_row (p_all (p_t K 6 l)) l (some (i + 1, e)) = some ((s0, t), s') := h2
  unfold p_row at h2
  rw [Option.bind_eq_some_iff] at h2
  obtain ⟨⟨en, i1, e1⟩, hr, h2⟩ := h2
  obtain ⟨r1, r2, r3, r4, r5⟩ := p_r_ix hr
  rw [Option.bind_eq_some_iff] at h2
  obtain ⟨⟨tt, i2, e2⟩, h3, h2⟩ := h2
  have h3 : p_many (p_t K 6 l) (en - i1) (some (i1, en)) = some (tt, i2, e2) := h3
  have h2 : (if i2 = en then some ((i1, tt), i2, e1) else none) = some ((s0, t), s') := h2
  by_cases c : i2 = en
  · rw [if_pos c] at h2
    have h2 := Option.some.inj h2
    simp only [Prod.mk.injEq] at h2
    obtain ⟨⟨y1, y2⟩, y3⟩ := h2
    subst y1; subst y2; subst y3
    obtain ⟨q1, q2⟩ := p_many_t r4 (by omega) h3
    subst c
    refine ⟨h1, ?_, by omega, q1, r4, r3, r2, q2⟩
    unfold p_o
    rw [hr]
    rfl
  · rw [if_neg c] at h2
    exact absurd h2 (by simp)
theorem c_path_l {x1 : Int} (r43 : 43 < r ∧ 43 < ra) (hml : mk.length ≤ 999999999) (hl14 : l.length ≤ 1400) : ∀ (n : Nat) (left : Int) {st : p_S} {H : sw_H} {done : List p_N} {cnt : Int}, c_V H mk nn K tl cn cs → c_Re H → c_rs H mk r ra l → c_rd H l st → (∀ i e, st = some (i, e) → ((e - i : Nat) : Int) ≤ left) → left.toNat < n → left ≤ 2000 → sw_iv H 18 11 = cnt → 0 ≤ cnt → cnt + left ≤ 2000 → (∀ s, st = some s → c_pn H mk done) → (∀ G, c_rd G l (p_to (p_many (p_nd K l) left.toNat st)) → (∀ ns s, p_many (p_nd K l) left.toNat st = some (ns, s) → c_pn G mk (done ++ ns)) → c_fr [18, 19, 20, 21] H G → c_kx 11 H G → wb_350_83 Q 18 x1 G) → wl_350_15 Q n 18 x1 left H
  | 0, _, _, _, _, _, _, _, _, _, _, h, _, _, _, _, _, _ => by omega
  | n + 1, left, st, H, done, cnt, hV, hRe, hs, h, hle, hn, h2, hc, hc0, hcl, hpn, k => by
    unfold wl_350_15
    have stop : (∀ i e, st = some (i, e) → e ≤ i) → wb_350_83 Q 18 x1 H := by
      intro hst
      refine k H ?_ ?_ (c_fr_refl _ _) (fun _ _ _ => rfl)
      · cases st with
        | none => rw [p_many_0]; exact h
        | some s =>
          obtain ⟨i, e⟩ := s
          rw [p_many_e (hst i e rfl)]
          exact h
      · intro ns s hm
        cases st with
        | none => rw [p_many_0] at hm; exact absurd hm (by simp)
        | some s =>
          obtain ⟨i, e⟩ := s
          rw [p_many_e (hst i e rfl)] at hm
          have hm := (Prod.mk.inj (Option.some.inj hm)).1
          rw [← hm, List.append_nil]
          exact hpn _ rfl
    refine ⟨fun c => stop (fun i e ee => by have := hle i e ee; omega), fun c => ?_⟩
    refine c_hasMore h (fun i e ee hie _ _ => ⟨fun c2 => absurd c2 (by decide), fun _ => ?_⟩) (fun hst _ _ => ⟨fun _ => stop hst, fun c2 => absurd rfl c2⟩)
    subst ee
    have hle := hle i e rfl
    have hle2 : e ≤ l.length := h.2.2.2.2
    have hpn := hpn _ rfl
    refine c_termOf (so := 5) (by decide) (by decide) hV hml hs h (fun z1 G1 r1 v1 z0 zl f1 k1 _ _ => ?_)
    have V1 := c_VR hV f1 (by simp)
    have s1 := c_rs_frN hs f1 (by simp) r43
    refine c_openRow V1 s1 r1 (fun G2 r2 f2 k2 _ _ => ?_)
    have V2 := c_VR V1 f2 (by simp)
    have s2 := c_rs_frN s1 f2 (by simp) r43
    have f12 := c_fr_t f1 f2
    have k12 := c_k5_t k1 k2
    obtain ⟨b1, b2, b3, b4⟩ := c_rd_b r2
    intro v92 e92 _ v98 e98 _ v101 e101 _ y104 e104
    rw [sw_w_s (by omega) (by omega)] at e104
    refine ⟨y104.toNat + 1, ?_⟩
    refine c_seal_l r43 hml (y104.toNat + 1) y104 V2 s2 r2 (fun i' e' ee => ?_) (by omega) (by omega) (fun G3 r3 f3 k3 => ?_)
    · rw [ee] at r2
      obtain ⟨q1, q2, _⟩ := r2
      omega
    have f13 := c_fr_t f12 f3
    have k13 := c_k5_t k12 k3
    -- all of the inner ROW
    have eall : p_to (p_many (p_t K 6 l) y104.toNat (p_o l (p_to (p_t K 5 l (some (i, e)))))) = p_to (p_all (p_t K 6 l) (p_o l (p_to (p_t K 5 l (some (i, e)))))) := by
      obtain ⟨o, eo⟩ : ∃ o, p_o l (p_to (p_t K 5 l (some (i, e)))) = o := ⟨_, rfl⟩
      rw [eo] at r2 ⊢
      cases o with
      | none => rw [p_many_0]; rfl
      | some s =>
        obtain ⟨i', e'⟩ := s
        obtain ⟨q1, q2, _, q4, _⟩ := r2
        have : y104.toNat = e' - i' := by omega
        rw [this]
        rfl
    rw [eall] at r3
    unfold wb_350_47
    refine c_close (f := p_all (p_t K 6 l)) (S := p_to (p_t K 5 l (some (i, e)))) (Z := G1) (p_all_in (p_t_fw 6)) r3 r1 rfl p_nd_to.symm (fun G4 r4 f4 k4 _ => ?_)
    have f14 := c_fr_t f13 f4
    have k14 := c_k5_t k13 k4
    have V4 := c_VR hV f14 (by simp)
    have s4 := c_rs_frN hs f14 (by simp) r43
    have Re4 := c_Re_fr hRe f14
    have c4 : sw_iv G4 18 11 = cnt := by rw [k14 11 (by omega)]; exact hc
    have iv4 : ∀ p, p ≠ 18 → sw_iv G4 p = sw_iv H p := fun p hp => f14.2.2.2.2.2 p (by simpa using hp)
    -- what is kept of the node
    have val : ∀ kk s0 t s, p_nd K l (some (i, e)) = some ((kk, s0, t), s) → w_at mk z1 kk ∧ v92 = s0 ∧ sw_iv G4 18 2 - v92 = t.length := by
      intro kk s0 t s hnd
      obtain ⟨u1, u2, u3, u4, u5, u6, u7, u8⟩ := p_nd_v hle2 hnd
      have e1 : p_to (p_t K 5 l (some (i, e))) = some (i + 1, e) := by rw [u1, p_to_s]
      rw [e1, u2] at r2
      rw [hnd, p_to_s] at r4
      have g1 : sw_iv G2 18 2 = s0 := r2.1
      obtain ⟨s1, s2⟩ := s
      have g2 : sw_iv G4 18 2 = s1 := r4.1
      have u4 : t = w_sli l s0 s1 := u4
      have u6 : s1 ≤ e := u6
      refine ⟨v1 kk _ u1, by omega, ?_⟩
      rw [u4, w_sli_len (by omega)]
      have u5 : s0 ≤ s1 := u5
      omega
    -- go on
    have go : ∀ Z9, c_fr [19, 20, 21] G4 Z9 → (∀ j : Nat, j < 4 → (j : Int) ≠ cnt → sw_iv Z9 19 j = sw_iv G4 19 j ∧ sw_iv Z9 20 j = sw_iv G4 20 j ∧ sw_iv Z9 21 j = sw_iv G4 21 j) → (∀ j : Nat, j < 4 → (j : Int) = cnt → sw_iv Z9 19 j = z1 ∧ sw_iv Z9 20 j = v92 ∧ sw_iv Z9 21 j = sw_iv G4 18 2 - v92) → wb_350_75 Q (wl_350_15 Q n) 18 x1 left Z9 := by
      intro Z9 f9 i9 j9
      have i18 : sw_iv Z9 18 = sw_iv G4 18 := f9.2.2.2.2.2 18 (by simp)
      unfold wb_350_75
      intro v6 e6 _ H9 eH9 y12 e12
      rw [i18, c4] at e6
      rw [e6, sw_w_s (by omega) (by omega)] at eH9
      rw [e12, sw_w_s (by omega) (by omega), show left + -1 = left - 1 by omega]
      have f10 : c_fr [18] Z9 H9 := by rw [eH9]; exact c_fr_si _ _ _ _
      have fA : c_fr [18, 19, 20, 21] H H9 := c_fr_sub (c_fr_trans (c_fr_trans f14 f9) f10) (by simp)
      have iv18 : ∀ f, f ≠ 11 → sw_iv H9 18 f = sw_iv G4 18 f := fun f hf => by rw [eH9, c_si_f hf, i18]
      have iv11 : sw_iv H9 18 11 = cnt + 1 := by rw [eH9, c_si_eq]
      have ivo : ∀ p, p ≠ 18 → sw_iv H9 p = sw_iv Z9 p := fun p hp => f10.2.2.2.2.2 p (by simpa using hp)
      have kx : c_kx 11 H H9 := fun f hf1 hf2 => by rw [iv18 f hf2, k14 f hf1]
      have rd9 : c_rd H9 l (p_to (p_nd K l (some (i, e)))) := c_rd_fr r4 (fun f hf => iv18 f (by omega))
      obtain ⟨o, eo⟩ : ∃ o, p_nd K l (some (i, e)) = o := ⟨_, rfl⟩
      have pn9 : ∀ v s, o = some (v, s) → c_pn H9 mk (done ++ [v]) := by
        intro v s hv
        subst hv
        obtain ⟨kk, s0, t⟩ := v
        obtain ⟨w1, w2, w3⟩ := val kk s0 t s eo
        obtain ⟨pn1, pn2⟩ := hpn
        have hcn : cnt = done.length := by omega
        refine ⟨by rw [iv11, hcn, List.length_append]; simp, fun j k' s' t' hj hjk => ?_⟩
        rw [ivo 19 (by decide), ivo 20 (by decide), ivo 21 (by decide)]
        by_cases cj : j < done.length
        · rw [List.getElem?_append_left cj] at hjk
          obtain ⟨a1, a2, a3⟩ := i9 j hj (by omega)
          rw [a1, a2, a3, iv4 19 (by decide), iv4 20 (by decide), iv4 21 (by decide)]
          exact pn2 j k' s' t' hj hjk
        · have ej : j = done.length := by
            have := (List.getElem?_eq_some_iff.mp hjk).1
            rw [List.length_append] at this
            simp at this
            omega
          subst ej
          rw [List.getElem?_append_right (by omega), Nat.sub_self] at hjk
          have hjk := Option.some.inj hjk
          simp only [Prod.mk.injEq] at hjk
          obtain ⟨a1, a2, a3⟩ := j9 done.length hj (by omega)
          rw [a1, a2, a3, ← hjk.1, ← hjk.2.1, ← hjk.2.2]
          exact ⟨w1, w2, w3⟩
      rw [eo] at rd9
      have en : left.toNat = (left - 1).toNat + 1 := by omega
      refine c_path_l r43 hml hl14 n (left - 1) (done := match o with | none => done | some v => done ++ [v.1]) (cnt := cnt + 1) (c_VR hV fA (by simp)) (c_Re_fr hRe fA) (c_rs_frN hs fA (by simp) r43) rd9 (fun i' e' ee => ?_) (by omega) (by omega) iv11 (by omega) (by omega) (fun s hs' => ?_) (fun G rG vG fG kG => k G ?_ (fun ns s hns => ?_) (c_fr_t fA fG) (c_kx_t kx kG))
      · cases o with
        | none => exact absurd ee (by simp [p_to])
        | some v =>
          obtain ⟨v, s⟩ := v
          rw [p_to_s] at ee
          obtain ⟨q1, q2, q3⟩ := p_nd_fw.2 _ _ _ _ eo
          have ee := Option.some.inj ee
          rw [ee] at q1 q2 q3
          have q1 : i < i' := q1
          have q3 : e' = e := q3
          omega
      · cases o with
        | none => exact absurd hs' (by simp [p_to])
        | some v =>
          obtain ⟨v, s'⟩ := v
          exact pn9 v s' rfl
      · rw [en, p_many_to hie, eo]
        exact rG
      · rw [en, p_many_s hie, eo] at hns
        cases o with
        | none => exact absurd hns (by simp)
        | some v =>
          obtain ⟨v, s'⟩ := v
          have hns : (p_many (p_nd K l) (left - 1).toNat (some s')).map (fun r => (v :: r.1, r.2)) = some (ns, s) := hns
          rw [Option.map_eq_some_iff] at hns
          obtain ⟨⟨ns', s''⟩, h1, h2⟩ := hns
          have := vG ns' s'' (by rw [p_to_s]; exact h1)
          have h2 := (Prod.mk.inj h2).1
          have h2 : v :: ns' = ns := h2
          rw [← h2]
          have e3 : (done ++ [v]) ++ ns' = done ++ (v :: ns') := by simp
          rw [← e3]
          exact this
    intro v21 e21 _
    rw [c4] at e21
    refine ⟨fun c5 => go G4 (c_fr_refl _ _) (fun j _ _ => ⟨rfl, rfl, rfl⟩) (fun j hj hjc => by omega), fun c5 => ?_⟩
    obtain ⟨⟨p12, p13, p14, p15, p16⟩, p17, _⟩ := Re4
    obtain ⟨cn', ecn⟩ : ∃ cn' : Nat, cnt = cn' := ⟨cnt.toNat, by omega⟩
    rw [p12]
    refine ⟨(p17 19 (by decide) (by decide)).1, ?_⟩
    intro q24 e24 v27 e27 _
    rw [c4] at e27
    rw [e24, e27]
    refine ⟨by omega, by rw [(p17 19 (by decide) (by decide)).2]; omega, ?_⟩
    intro H30 e30
    have f30 : c_fr [19] G4 H30 := by rw [e30]; exact c_fr_si _ _ _ _
    rw [f30.2.2.2.2.1, p13]
    refine ⟨by rw [f30.2.2.1]; exact (p17 20 (by decide) (by decide)).1, ?_⟩
    intro q33 e33 v36 e36 _
    rw [f30.2.2.2.2.2 18 (by decide), c4] at e36
    rw [e33, e36]
    refine ⟨by omega, by rw [f30.2.2.2.1, (p17 20 (by decide) (by decide)).2]; omega, ?_⟩
    intro H39 e39
    have f39 : c_fr [20] H30 H39 := by rw [e39]; exact c_fr_si _ _ _ _
    rw [f39.2.2.2.2.1, f30.2.2.2.2.1, p14]
    refine ⟨by rw [f39.2.2.1, f30.2.2.1]; exact (p17 21 (by decide) (by decide)).1, ?_⟩
    intro q42 e42 v45 e45 _ v48 e48 _
    rw [f39.2.2.2.2.2 18 (by decide), f30.2.2.2.2.2 18 (by decide)] at e45 e48
    rw [c4] at e45
    rw [e42, e45]
    refine ⟨by omega, by rw [f39.2.2.2.1, f30.2.2.2.1, (p17 21 (by decide) (by decide)).2]; omega, ?_⟩
    intro H51 e51
    obtain ⟨d1, d2, d3, d4⟩ := c_rd_b r4
    rw [sw_w_s (by omega) (by omega), e48] at e51
    have f51 : c_fr [21] H39 H51 := by rw [e51]; exact c_fr_si _ _ _ _
    have v19 : ∀ j, sw_iv H51 19 j = if j = cnt.toNat then z1 else sw_iv G4 19 j := fun j => by
      rw [f51.2.2.2.2.2 19 (by decide), f39.2.2.2.2.2 19 (by decide), e30, sw_iv_si]
      by_cases cj : j = cnt.toNat
      · rw [if_pos ⟨rfl, cj⟩, if_pos cj]
      · rw [if_neg (fun e => cj e.2), if_neg cj]
    have v20 : ∀ j, sw_iv H51 20 j = if j = cnt.toNat then v92 else sw_iv G4 20 j := fun j => by
      rw [f51.2.2.2.2.2 20 (by decide), e39, sw_iv_si]
      by_cases cj : j = cnt.toNat
      · rw [if_pos ⟨rfl, cj⟩, if_pos cj]
      · rw [if_neg (fun e => cj e.2), if_neg cj, f30.2.2.2.2.2 20 (by decide)]
    have v21 : ∀ j, sw_iv H51 21 j = if j = cnt.toNat then sw_iv G4 18 2 - v92 else sw_iv G4 21 j := fun j => by
      rw [e51, sw_iv_si]
      by_cases cj : j = cnt.toNat
      · rw [if_pos ⟨rfl, cj⟩, if_pos cj]
      · rw [if_neg (fun e => cj e.2), if_neg cj, f39.2.2.2.2.2 21 (by decide), f30.2.2.2.2.2 21 (by decide)]
    refine go H51 (c_fr_sub (c_fr_trans (c_fr_trans f30 f39) f51) (by simp)) (fun j hj hjc => ?_) (fun j hj hjc => ?_)
    · rw [v19, v20, v21, if_neg (by omega), if_neg (by omega), if_neg (by omega)]
      exact ⟨rfl, rfl, rfl⟩
    · rw [v19, v20, v21, if_pos (by omega), if_pos (by omega), if_pos (by omega)]
      exact ⟨rfl, rfl, rfl⟩
/-- what the Reader has of a PATH -/
def c_pv (H : sw_H) (mk : List Wt) : p_P → Prop
  | ((m, k, p, so, ph, g), ns) => (c_lf H mk 22 m k p so ph ∧ w_at mk (sw_iv H 22 5) g) ∧ c_pn H mk ns
theorem c_readPath (r43 : 43 < r ∧ 43 < ra) (hml : mk.length ≤ 999999999) (hV : c_V H mk nn K tl cn cs) (hRe : c_Re H) (hs : c_rs H mk r ra l) (h : c_rd H l st) (q : ∀ G, c_rd G l (p_to (p_pa K l st)) → (∀ v s, p_pa K l st = some (v, s) → c_pv G mk v) → c_fr [18, 19, 20, 21, 22] H G → c_kx 11 H G → Q G) : wm_350 18 H Q := by
  have hl14 : l.length ≤ 1400 := hs.2.2.2.2.2.2.1
  unfold wm_350
  refine c_readLeaf (src := 3) hV hml hs (by omega) (by omega) hRe.1.2.2.2.1 hRe.2.2.1 (by decide) h (fun G1 r1 v1 f1 k1 _ => ?_)
  have V1 := c_VR hV f1 (by simp)
  have s1 := c_rs_frN hs f1 (by simp) r43
  refine c_openRow V1 s1 r1 (fun G2 r2 f2 k2 _ _ => ?_)
  intro H3 e3
  have f3 : c_fr [18] G2 H3 := by rw [e3]; exact c_fr_si _ _ _ _
  have r3 : c_rd H3 l (p_o l (p_to (p_lf K 3 l st))) := c_rd_fr r2 (fun f hf => by rw [e3, c_si_f (by omega)])
  have f13 : c_fr [18, 22] H H3 := c_fr_sub (c_fr_trans (c_fr_trans f1 f2) f3) (by simp)
  have k13 : c_kx 11 H H3 := fun f h1 h2 => by rw [e3, c_si_f h2, k2 f h1, k1 f h1]
  have c11 : sw_iv H3 18 11 = 0 := by rw [e3, c_si_eq]
  obtain ⟨b1, b2, b3, b4⟩ := c_rd_b r3
  intro v4 e4 _ v5 e5 _ y6 e6
  rw [sw_w_s (by omega) (by omega)] at e6
  refine ⟨y6.toNat + 1, ?_⟩
  have i22 : sw_iv H3 22 = sw_iv G1 22 := by rw [f3.2.2.2.2.2 22 (by decide), f2.2.2.2.2.2 22 (by decide)]
  refine c_path_l r43 hml hl14 (y6.toNat + 1) y6 (done := []) (cnt := 0) (c_VR hV f13 (by simp)) (c_Re_fr hRe f13) (c_rs_frN hs f13 (by simp) r43) r3 (fun i e ee => ?_) (by omega) (by omega) c11 (by omega) (by omega) (fun s _ => ⟨by rw [c11]; rfl, fun j k s t _ hj => by simp at hj⟩) (fun G4 r4 v4' f4 k4 => ?_)
  · rw [ee] at r3
    obtain ⟨q1, q2, _⟩ := r3
    omega
  have eall : p_many (p_nd K l) y6.toNat (p_o l (p_to (p_lf K 3 l st))) = p_all (p_nd K l) (p_o l (p_to (p_lf K 3 l st))) := by
    obtain ⟨o, eo⟩ : ∃ o, p_o l (p_to (p_lf K 3 l st)) = o := ⟨_, rfl⟩
    rw [eo] at r3 ⊢
    cases o with
    | none => rw [p_many_0]; rfl
    | some s =>
      obtain ⟨i', e'⟩ := s
      obtain ⟨q1, q2, _, q4, _⟩ := r3
      have : y6.toNat = e' - i' := by omega
      rw [this]
      rfl
  rw [eall] at r4 v4'
  unfold wb_350_83
  refine c_close (f := p_all (p_nd K l)) (S := p_to (p_lf K 3 l st)) (Z := G1) (p_all_in p_nd_fw) r4 r1 rfl p_pa_to.symm (fun G5 r5 f5 k5 _ => ?_)
  have i22' : sw_iv G5 22 = sw_iv G1 22 := by rw [f5.2.2.2.2.2 22 (by decide), f4.2.2.2.2.2 22 (by decide), i22]
  refine q G5 r5 (fun v s hv => ?_) (c_fr_sub (c_fr_trans (c_fr_trans f13 f4) f5) (by simp)) (c_kx_t (c_kx_t k13 k4) (c_kx_5 k5))
  · obtain ⟨⟨m, k, p, so, ph, g⟩, ns⟩ := v
    unfold p_pa at hv
    rw [Option.bind_eq_some_iff] at hv
    obtain ⟨⟨lf, s2⟩, h1, hv⟩ := hv
    rw [Option.map_eq_some_iff] at hv
    obtain ⟨⟨⟨b, ns'⟩, s3⟩, h2, hv⟩ := hv
    simp only [Prod.mk.injEq] at hv
    obtain ⟨⟨x1, x2⟩, x3⟩ := hv
    subst x1; subst x2
    obtain ⟨y1, y2⟩ := v1 m k p so ph g s2 h1
    refine ⟨⟨c_lf_iv y1 (fun f _ => by rw [i22']) (w_le_refl _), by rw [i22']; exact y2⟩, ?_⟩
    have h2 : p_row (p_all (p_nd K l)) l (some s2) = some ((b, ns'), s3) := h2
    unfold p_row at h2
    rw [Option.bind_eq_some_iff] at h2
    obtain ⟨⟨en, i1, e1⟩, hr, h2⟩ := h2
    rw [Option.bind_eq_some_iff] at h2
    obtain ⟨⟨tt, i2, e2⟩, h3, h2⟩ := h2
    have h2 : (if i2 = en then some ((i1, tt), i2, e1) else none) = some ((b, ns'), s3) := h2
    have et : tt = ns' := by
      by_cases c : i2 = en
      · rw [if_pos c] at h2
        have h2 := Option.some.inj h2
        simp only [Prod.mk.injEq] at h2
        exact h2.1.2
      · rw [if_neg c] at h2
        exact absurd h2 (by simp)
    subst et
    have eo : p_o l (p_to (p_lf K 3 l st)) = some (i1, en) := by
      rw [h1, p_to_s]
      unfold p_o
      rw [hr]
      rfl
    have pn := v4' tt (i2, e2) (by rw [eo]; exact h3)
    rw [List.nil_append] at pn
    obtain ⟨n1, n2⟩ := pn
    refine ⟨by rw [k5 11 (by omega)]; exact n1, fun j k s t hj hjk => ?_⟩
    rw [f5.2.2.2.2.2 19 (by decide), f5.2.2.2.2.2 20 (by decide), f5.2.2.2.2.2 21 (by decide)]
    exact n2 j k s t hj hjk
end
