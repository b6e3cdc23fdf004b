/-! ===== the class: the Reader's readTree ===== -/
noncomputable section
section
variable {K : Wt → Prop} {l : List Wt} {x : Nat}
theorem p_no_fw : p_fw (p_no K l x) := ⟨rfl, fun i e v s h => by
  obtain ⟨o, eo⟩ : ∃ o, p_8 l (some (i, e)) = o := ⟨_, rfl⟩
  cases o with
  | none =>
    unfold p_no at h
    rw [eo] at h
    exact absurd h (by simp)
  | some a =>
    obtain ⟨z, i1, e1⟩ := a
    obtain ⟨a1, a2, a3⟩ := p_8_le eo
    subst a1; subst a2
    obtain ⟨p0, p1, p2, p3⟩ := p_no_st (K := K) (x := x) (z := z) (st := some (i, e1)) (fun b s hb => by rw [eo] at hb; exact (Prod.mk.inj (Option.some.inj hb)).1)
    rw [eo] at p0 p1 p2
    rw [p_to_s] at p1 p2
    by_cases c0 : z = 0
    · rw [p0 c0] at h
      have h := Option.some.inj h
      have h : (p_V0, i + 1, e1) = (v, s) := h
      simp only [Prod.mk.injEq] at h
      rw [← h.2]
      exact ⟨by show i < i + 1; omega, by show i + 1 ≤ e1; omega, rfl⟩
    by_cases c1 : z = 1 ∧ x % 2 = 0
    · rw [p1 c1.1 c1.2, Option.map_eq_some_iff] at h
      obtain ⟨⟨f, s'⟩, hl, h⟩ := h
      have hs := (Prod.mk.inj h).2
      have hs : s' = s := hs
      subst hs
      obtain ⟨q1, q2, q3⟩ := p_lf_in.2 _ _ _ _ hl
      exact ⟨by omega, q2, q3⟩
    by_cases c2 : z = 2 ∧ x % 2 = 1
    · rw [p2 c2.1 c2.2, Option.bind_eq_some_iff] at h
      obtain ⟨⟨k, sk⟩, h1, h⟩ := h
      obtain ⟨b1, b2, _⟩ := p_t_in h1
      subst b1
      rw [Option.bind_eq_some_iff] at h
      obtain ⟨⟨ph, sh⟩, h2, h⟩ := h
      obtain ⟨b3, b4, _⟩ := p_h_in h2
      subst b3
      rw [Option.map_eq_some_iff] at h
      obtain ⟨⟨u, su⟩, h3, h⟩ := h
      have hs : su = s := (Prod.mk.inj h).2
      subst hs
      obtain ⟨q1, q2, q3⟩ := (p_row_fw2 (l := l) (p_ua_in (l := l))).2 _ _ _ _ h3
      exact ⟨by omega, q2, q3⟩
    · rw [p3 c0 c1 c2] at h
      exact absurd h (by simp)⟩
theorem p_nos_end : ∀ {n x i e : Nat} {r : List p_V} {s : Nat × Nat}, i ≤ e → p_nos K l n x (some (i, e)) = some (r, s) → s = (e, e) ∧ r.length ≤ n
  | 0, x, i, e, r, s, hi, h => by
    by_cases c : i < e
    · rw [show p_nos K l 0 x (some (i, e)) = none from if_pos c] at h
      exact absurd h (by simp)
    · rw [p_nos_e (by omega)] at h
      have h := Prod.mk.inj (Option.some.inj h)
      have : i = e := by omega
      rw [← h.1, ← h.2, this]
      exact ⟨rfl, Nat.le_refl _⟩
  | n + 1, x, i, e, r, s, hi, h => by
    by_cases c : i < e
    · rw [p_nos_s c, Option.bind_eq_some_iff] at h
      obtain ⟨⟨a, i', e'⟩, h1, h⟩ := h
      obtain ⟨b1, b2, b3⟩ := p_no_fw.2 _ _ _ _ h1
      have b3 : e' = e := b3
      subst b3
      rw [Option.map_eq_some_iff] at h
      obtain ⟨⟨r', s'⟩, h2, h⟩ := h
      have h := Prod.mk.inj h
      have hr : a :: r' = r := h.1
      have hs : s' = s := h.2
      obtain ⟨c1, c2⟩ := p_nos_end b2 h2
      rw [← hr, ← hs]
      exact ⟨c1, by rw [List.length_cons]; omega⟩
    · rw [p_nos_e (by omega)] at h
      have h := Prod.mk.inj (Option.some.inj h)
      have : i = e := by omega
      rw [← h.1, ← h.2, this]
      exact ⟨rfl, Nat.zero_le _⟩
theorem p_nos_pin {n x : Nat} : p_in (p_nos K l n x) := ⟨p_nos_0 n x, fun i e a s hi h => by
  obtain ⟨h1, _⟩ := p_nos_end hi h
  rw [h1]
  exact ⟨hi, Nat.le_refl _, rfl⟩⟩
end
variable {H Z X Y : sw_H} {nn nm r ra g m : Nat} {K K' S : Wt → Prop} {tl mk mm l : List Wt} {a b c n cn cs N U M : Int} {Q : sw_H → Prop} {P : Int → sw_H → Prop} {A B : List Nat} {w : Wt} {st : p_S} {x i e : Nat} {done ns : List p_V} {v : p_V}
theorem c_nodes_l {x1 : Int} (r43 : 43 < r ∧ 43 < ra) (hml : mk.length ≤ 999999999) (hvl : w_vl l) : ∀ (n left cnt : Nat) {st : p_S} {H : sw_H} {done : List p_V}, c_V H mk nn K tl cn cs → c_Re H → c_rs H mk r ra l → c_rd H l st → left < n → cnt + left = 31 → (∀ s, st = some s → c_nds H mk done ∧ done.length = cnt ∧ ∀ (j : Nat) u, done[j]? = some u → w_vok K j u) → (∀ G (st' : p_S) (cnt' : Nat), c_rd G l st' → cnt' ≤ 31 → (∀ i e' i0 e0, st' = some (i, e') → st = some (i0, e0) → e' = e0) → (st = none → st' = none) → ((p_nos K l left cnt st = none ∧ (st' = none ∨ ∃ i e, st' = some (i, e) ∧ i < e)) ∨ ∃ ns s, p_nos K l left cnt st = some (ns, s) ∧ st' = some s ∧ cnt' = cnt + ns.length ∧ c_nds G mk (done ++ ns)) → c_fr c_Bk H G → c_k5 H G → wb_354_21 Q 18 x1 cnt' G) → wl_354_10 Q n 18 x1 cnt left H
  | 0, _, _, _, _, _, _, _, _, _, h, _, _, _ => by omega
  | n + 1, left, cnt, st, H, done, hV, hRe, hs, h, hn, hc, hd, k => by
    unfold wl_354_10
    have stop : (∀ i e, st = some (i, e) → e ≤ i) → wb_354_21 Q 18 x1 cnt H := by
      intro hst
      refine k H st cnt h (by omega) (fun i e' i0 e0 h1 h2 => by rw [h1] at h2; exact (Prod.mk.inj (Option.some.inj h2)).2) (fun h => h) ?_ (c_fr_refl _ _) (c_k5_r _)
      cases st with
      | none => exact Or.inl ⟨p_nos_0 _ _, Or.inl rfl⟩
      | some s =>
        obtain ⟨i, e⟩ := s
        refine Or.inr ⟨[], (i, e), p_nos_e (hst i e rfl), rfl, by simp, ?_⟩
        rw [List.append_nil]
        exact (hd _ rfl).1
    refine ⟨fun c => ?_, fun c => ?_⟩
    · -- no more nodes may come
      have l0 : left = 0 := by omega
      subst l0
      cases st with
      | none => exact stop (fun i e ee => absurd ee (by simp))
      | some s =>
        obtain ⟨i, e⟩ := s
        by_cases ce : i < e
        · refine k H (some (i, e)) cnt h (by omega) (fun i' e' i0 e0 h1 h2 => by rw [h1] at h2; exact (Prod.mk.inj (Option.some.inj h2)).2) (fun h => h) (Or.inl ⟨if_pos ce, Or.inr ⟨i, e, rfl, ce⟩⟩) (c_fr_refl _ _) (c_k5_r _)
        · exact stop (fun i' e' ee => by have := Prod.mk.inj (Option.some.inj ee); omega)
    · obtain ⟨left', el⟩ : ∃ left', left = left' + 1 := ⟨left - 1, by omega⟩
      subst el
      refine c_hasMore h (fun i e ee hie _ _ => ⟨fun c2 => absurd c2 (by decide), fun _ => ?_⟩) (fun hst _ _ => ⟨fun _ => stop hst, fun c2 => absurd rfl c2⟩)
      subst ee
      obtain ⟨d1, d2, d3⟩ := hd _ rfl
      refine c_readNode r43 hml (by omega) hvl hV hRe hs h d1 d2 d3 (fun G1 r1 v1 f1 k1 _ => ?_)
      intro y43 e43 y47 e47
      rw [e43, e47, sw_w_s (by omega) (by omega), sw_w_s (by omega) (by omega), show (cnt : Int) + 1 = ((cnt + 1 : Nat) : Int) by omega, show ((left' + 1 : Nat) : Int) + -1 = ((left' : Nat) : Int) by omega]
      obtain ⟨o, eo⟩ : ∃ o, p_no K l cnt (some (i, e)) = o := ⟨_, rfl⟩
      rw [eo] at r1 v1
      have hB : ∀ a ∈ c_Bk, 18 ≤ a ∧ a ≤ 43 := fun a ha => c_Bk_b ha
      have he : e ≤ l.length := h.2.2.2.2
      refine c_nodes_l r43 hml hvl n left' (cnt + 1) (done := match o with | none => done | some a => done ++ [a.1]) (c_VR hV f1 hB) (c_Re_fr hRe f1) (c_rs_frN hs f1 hB r43) r1 (by omega) (by omega) (fun s hs' => ?_) (fun G st' cnt' rG c31 hend hnone hres fG kG => ?_)
      · cases o with
        | none => exact absurd hs' (by simp [p_to])
        | some a =>
          obtain ⟨a, sa⟩ := a
          refine ⟨v1 a sa rfl, by show (done ++ [a]).length = _; rw [List.length_append]; simp; exact d2, fun j u hj => ?_⟩
          have hj : (done ++ [a])[j]? = some u := hj
          by_cases cj : j < done.length
          · rw [List.getElem?_append_left cj] at hj
            exact d3 j u hj
          · have ej : j = cnt := by
              have := (List.getElem?_eq_some_iff.mp hj).1
              rw [List.length_append] at this
              simp at this
              omega
            subst ej
            rw [List.getElem?_append_right (by omega), d2, Nat.sub_self] at hj
            have hj := Option.some.inj hj
            subst hj
            exact (p_no_ix hvl he eo).2.2.2
      · refine k G st' cnt' rG c31 (fun i' e' i0 e0 h1 h2 => ?_) (fun h => absurd h (by simp)) ?_ (c_fr_t f1 fG) (c_k5_t k1 kG)
        · have h2 := Prod.mk.inj (Option.some.inj h2)
          cases o with
          | none =>
            have := hnone rfl
            rw [this] at h1
            exact absurd h1 (by simp)
          | some a =>
            obtain ⟨a, sa1, sa2⟩ := a
            have := hend i' e' sa1 sa2 h1 rfl
            obtain ⟨_, _, b3⟩ := p_no_fw.2 _ _ _ _ eo
            have b3 : sa2 = e := b3
            omega
        · rw [p_nos_s hie, eo]
          cases o with
          | none =>
            refine Or.inl ⟨rfl, Or.inl (hnone rfl)⟩
          | some a =>
            obtain ⟨a, sa⟩ := a
            rw [p_to_s] at hres
            rcases hres with ⟨h1, h2⟩ | ⟨ns, s, h1, h2, h3, h4⟩
            · refine Or.inl ⟨?_, h2⟩
              show (p_nos K l left' (cnt + 1) (some sa)).map _ = none
              rw [h1]; rfl
            · refine Or.inr ⟨a :: ns, s, ?_, h2, by rw [List.length_cons]; omega, ?_⟩
              · show (p_nos K l left' (cnt + 1) (some sa)).map (fun r => (a :: r.1, r.2)) = _
                rw [h1]; rfl
              · have e3 : (done ++ [a]) ++ ns = done ++ (a :: ns) := by simp
                rw [← e3]
                exact h4
def w_dd (n : Nat) : Nat := if n ≤ 1 then 0 else if n ≤ 3 then 1 else if n ≤ 7 then 2 else if n ≤ 15 then 3 else 4
theorem w_dd_k : ∀ n : Fin 32, w_dd n.val ≤ 4 ∧ (2 ^ (w_dd n.val + 1) - 1 = n.val ↔ w_nn n.val) ∧ (w_nn n.val → w_dd n.val = w_dpt n.val) ∧ ∀ d : Fin 5, (d.val < w_dd n.val → 2 ^ (d.val + 1) - 1 < n.val) ∧ (d.val = w_dd n.val → d.val < 4 → n.val ≤ 2 ^ (d.val + 1) - 1) := by decide
theorem c_depth_l {cnt : Nat} (h32 : cnt ≤ 31) (k : wb_354_38 Q 18 cnt (w_dd cnt) H) : ∀ (n d : Nat), d ≤ w_dd cnt → w_dd cnt - d < n → wl_354_26 Q n 18 cnt d H
  | 0, _, _, h => by omega
  | n + 1, d, hd, hn => by
    obtain ⟨k1, _, _, k4⟩ := w_dd_k ⟨cnt, by omega⟩
    have k1 : w_dd cnt ≤ 4 := k1
    unfold wl_354_26
    refine ⟨fun c => ?_, fun c => ?_⟩
    · have : d = w_dd cnt := by omega
      rw [this]
      exact k
    · have p : sw_w (sw_shl 2 (d : Int) - 1) = ((2 ^ (d + 1) - 1 : Nat) : Int) := by
        rw [sw_shl_2 (by omega)]
        have p5 : (2 : Nat) ^ (d + 1) ≤ 2 ^ 5 := Nat.pow_le_pow_right (by decide) (by omega)
        have p0 : 1 ≤ (2 : Nat) ^ (d + 1) := Nat.one_le_two_pow
        rw [sw_w_s (by omega) (by omega)]
        omega
      rw [p]
      obtain ⟨q1, q2⟩ := k4 ⟨d, by omega⟩
      have q1 : d < w_dd cnt → 2 ^ (d + 1) - 1 < cnt := q1
      have q2 : d = w_dd cnt → d < 4 → cnt ≤ 2 ^ (d + 1) - 1 := q2
      refine ⟨fun c2 => ?_, fun c2 => ?_⟩
      · have : d = w_dd cnt := by
          rcases Nat.lt_or_ge d (w_dd cnt) with c3 | c3
          · have := q1 c3; omega
          · omega
        rw [this]
        exact k
      · intro y19 e19
        have : d < w_dd cnt := by
          rcases Nat.lt_or_ge d (w_dd cnt) with c3 | c3
          · exact c3
          · have := q2 (by omega) (by omega); omega
        rw [e19, sw_w_s (by omega) (by omega), show (d : Int) + 1 = ((d + 1 : Nat) : Int) by omega]
        exact c_depth_l h32 k n (d + 1) (by omega) (by omega)
theorem c_readTree (r43 : 43 < r ∧ 43 < ra) (hml : mk.length ≤ 999999999) (hvl : w_vl l) (hV : c_V H mk nn K tl cn cs) (hRe : c_Re H) (hs : c_rs H mk r ra l) (h : c_rd H l st) (q : ∀ G, c_rd G l (p_to (p_tr K l st)) → (∀ ns s, p_tr K l st = some (ns, s) → c_tr G mk 23 (t_of ns)) → c_fr c_Bk H G → c_k5 H G → Q G) : wm_354 18 H Q := by
  have hl14 : l.length ≤ 1400 := hs.2.2.2.2.2.2.1
  have hB : ∀ a ∈ c_Bk, 18 ≤ a ∧ a ≤ 43 := fun a ha => c_Bk_b ha
  unfold wm_354
  rw [hRe.1.2.2.2.2]
  refine ⟨hRe.2.2.2.2.2.1, ?_⟩
  intro q53 e53
  rw [e53]
  refine c_treeClear hRe.2.2.2 (fun G1 f1 d1 z1 _ => ?_)
  have F1 : c_fr c_Bk H G1 := c_frB f1 (by simp)
  have V1 := c_VR hV F1 hB
  have s1 := c_rs_frN hs F1 hB r43
  have i18 : sw_iv G1 18 = sw_iv H 18 := f1.2.2.2.2.2 18 (by decide)
  have r1 := c_rd_fr (Z := G1) h (fun f _ => by rw [i18])
  refine c_openRow V1 s1 r1 (fun G2 r2 f2 k2 _ _ => ?_)
  have F2 : c_fr c_Bk H G2 := c_fr_t F1 (c_frB f2 (by simp))
  have n2 : c_nds G2 mk [] := by
    refine ⟨fun x v hx => by simp at hx, fun x _ hx => ?_⟩
    rw [f2.2.2.2.2.2 24 (by decide), f2.2.2.2.2.2 25 (by decide), f2.2.2.2.2.2 26 (by decide)]
    exact ⟨z1 1 x (by omega) (by omega) hx, z1 2 x (by omega) (by omega) hx, z1 3 x (by omega) (by omega) hx⟩
  have E0 := c_rd_b r1
  refine ⟨32, ?_⟩
  refine c_nodes_l r43 hml hvl 32 31 0 (done := []) (c_VR hV F2 hB) (c_Re_fr hRe F2) (c_rs_frN hs F2 hB r43) r2 (by omega) (by omega) (fun s _ => ⟨n2, rfl, fun j u hj => by simp at hj⟩) (fun G3 st' cnt r3 c31 hend hnone hres f3 k3 => ?_)
  simp only [List.nil_append] at hres
  have F3 := c_fr_t F2 f3
  have K3 : c_k5 H G3 := fun f hf => by rw [k3 f hf, k2 f hf, i18]
  unfold wb_354_21
  obtain ⟨e0, ee0⟩ : ∃ e0 : Nat, sw_iv G1 18 3 = e0 := ⟨(sw_iv G1 18 3).toNat, by omega⟩
  rw [ee0]
  have hst' : ∀ i f, st' = some (i, f) → f ≤ e0 := fun i f hif => by
    cases st with
    | none =>
      have : p_o l none = none := rfl
      rw [hnone this] at hif
      exact absurd hif (by simp)
    | some s =>
      obtain ⟨i0, e1⟩ := s
      have : sw_iv G1 18 3 = e1 := r1.2.1
      obtain ⟨o, eo⟩ : ∃ o, p_o l (some (i0, e1)) = o := ⟨_, rfl⟩
      cases o with
      | none => rw [hnone eo] at hif; exact absurd hif (by simp)
      | some s2 =>
        obtain ⟨i2, en⟩ := s2
        have le := p_o_le eo
        have := hend i f i2 en hif eo
        omega
  refine c_closeRow (e := e0) r3 (by omega) hst' rfl (fun G4 r4 f4 k4 _ => ?_)
  have F4 := c_fr_t F3 (c_frB f4 (by simp))
  have K4 := c_k5_t K3 k4
  -- where the ROW ends
  have erow : p_c e0 st' = p_to (p_row (p_nos K l 31 0) l st) := by
    obtain ⟨a1, a2⟩ := p_row_st (l := l) (f := p_nos K l 31 0) p_nos_pin st
    cases st with
    | none =>
      have : p_o l none = none := rfl
      rw [a2 rfl, hnone this]
      rfl
    | some s =>
      obtain ⟨i0, e1⟩ := s
      have h3 : sw_iv G1 18 3 = e1 := r1.2.1
      have ee : e0 = e1 := by omega
      rw [a1 i0 e1 rfl, ee]
      rcases hres with ⟨h1, h2⟩ | ⟨ns, s, h1, h2, _⟩
      · rw [h1, p_to_0]
        rcases h2 with h2 | ⟨i, e, h2, h4⟩
        · rw [h2]
        · rw [h2]
          show (if i = e then some (i, e1) else none) = none
          rw [if_neg (by omega)]
      · rw [h1, h2, p_to_s]
  have ns31 : ∀ b ns s, p_row (p_nos K l 31 0) l st = some ((b, ns), s) → cnt = ns.length ∧ c_nds G3 mk ns ∧ ∀ (j : Nat) u, ns[j]? = some u → w_vok K j u := by
    intro b ns s hrow
    unfold p_row at hrow
    rw [Option.bind_eq_some_iff] at hrow
    obtain ⟨⟨en, i1, e1⟩, hr, hrow⟩ := hrow
    rw [Option.bind_eq_some_iff] at hrow
    obtain ⟨⟨tt, i2, e2⟩, h4, hrow⟩ := hrow
    have h4 : p_nos K l 31 0 (some (i1, en)) = some (tt, i2, e2) := h4
    have eo : p_o l st = some (i1, en) := by unfold p_o; rw [hr]; rfl
    have hrow : (if i2 = en then some ((i1, tt), i2, e1) else none) = some ((b, ns), s) := hrow
    have et : tt = ns := by
      by_cases c : i2 = en
      · rw [if_pos c] at hrow
        have hrow := Option.some.inj hrow
        simp only [Prod.mk.injEq] at hrow
        exact hrow.1.2
      · rw [if_neg c] at hrow
        exact absurd hrow (by simp)
    subst et
    rw [eo] at hres r2
    obtain ⟨_, _, _, hi, hl⟩ := r2
    rcases hres with ⟨h1, _⟩ | ⟨ns, s', h1, h2, h3, h5⟩
    · rw [h4] at h1; exact absurd h1 (by simp)
    · rw [h4] at h1
      have h1 := Prod.mk.inj (Option.some.inj h1)
      rw [← h1.1] at h3 h5
      refine ⟨by omega, h5, fun j u hj => ?_⟩
      have := (p_nos_in hvl hi hl h4).2.2 j u hj
      rw [Nat.zero_add] at this
      exact this
  rw [erow] at r4
  obtain ⟨dd1, dd2, dd3, _⟩ := w_dd_k ⟨cnt, by omega⟩
  have dd1 : w_dd cnt ≤ 4 := dd1
  have dd2 : 2 ^ (w_dd cnt + 1) - 1 = cnt ↔ w_nn cnt := dd2
  have dd3 : w_nn cnt → w_dd cnt = w_dpt cnt := dd3
  refine ⟨5, ?_⟩
  refine c_depth_l c31 ?_ 5 0 (by omega) (by omega)
  have Re4 := c_Re_fr hRe F4
  unfold wb_354_38
  rw [Re4.1.2.2.2.2]
  refine ⟨Re4.2.2.2.2.2.1, ?_⟩
  intro q1 e1 H5 e5
  rw [e1] at e5
  have f5 : c_fr [23] G4 H5 := by rw [e5]; exact c_fr_si _ _ _ _
  have F5 := c_fr_t F4 (c_frB f5 (by simp))
  have i185 : sw_iv H5 18 = sw_iv G4 18 := f5.2.2.2.2.2 18 (by decide)
  have K5 : c_k5 H H5 := fun f hf => by rw [i185, K4 f hf]
  have r5 := c_rd_fr (Z := H5) r4 (fun f _ => by rw [i185])
  rw [f5.2.2.2.2.1, Re4.1.2.2.2.2, f5.2.2.1]
  refine ⟨Re4.2.2.2.2.2.1, ?_⟩
  intro q7 e7
  rw [e7]
  have iv5 : sw_iv H5 23 0 = ((w_dd cnt : Nat) : Int) := by rw [e5, c_si_eq]
  have p5 : (2 : Nat) ^ (w_dd cnt + 1) ≤ 2 ^ 5 := Nat.pow_le_pow_right (by decide) (by omega)
  have p0 : 1 ≤ (2 : Nat) ^ (w_dd cnt + 1) := Nat.one_le_two_pow
  have en : sw_w (sw_shl 2 ((w_dd cnt : Nat) : Int) - 1) = ((2 ^ (w_dd cnt + 1) - 1 : Nat) : Int) := by
    rw [sw_shl_2 dd1, sw_w_s (by omega) (by omega)]
    omega
  unfold wm_136
  intro v8 e8 _
  rw [iv5] at e8
  rw [e8, en]
  intro _ _
  -- the tree, if it is one
  have tto : p_to (p_tr K l st) = if w_nn cnt then p_to (p_row (p_nos K l 31 0) l st) else none := by
    unfold p_tr
    obtain ⟨o, eo⟩ : ∃ o, p_row (p_nos K l 31 0) l st = o := ⟨_, rfl⟩
    rw [eo]
    cases o with
    | none => split <;> rfl
    | some rr =>
      obtain ⟨⟨b, ns⟩, s⟩ := rr
      have hc := (ns31 b ns s eo).1
      show p_to (if w_nn ns.length then some (ns, s) else none) = if w_nn cnt then some s else none
      rw [← hc]
      split <;> rfl
  have trv : ∀ ns s, p_tr K l st = some (ns, s) → w_nn cnt ∧ cnt = ns.length ∧ c_nds G3 mk ns ∧ ∀ (j : Nat) u, ns[j]? = some u → w_vok K j u := by
    intro ns s htr
    unfold p_tr at htr
    rw [Option.bind_eq_some_iff] at htr
    obtain ⟨⟨⟨b, ns'⟩, s'⟩, h1, h2⟩ := htr
    have h2 : (if w_nn ns'.length then some (ns', s') else none) = some (ns, s) := h2
    obtain ⟨c1, c2, c3⟩ := ns31 b ns' s' h1
    by_cases c : w_nn ns'.length
    · rw [if_pos c] at h2
      have h2 := (Prod.mk.inj (Option.some.inj h2)).1
      subst h2
      exact ⟨by rw [c1]; exact c, c1, c2, c3⟩
    · rw [if_neg c] at h2
      exact absurd h2 (by simp)
  refine ⟨fun c => ?_, fun c => ?_⟩
  · have wn : w_nn cnt := dd2.mp (by omega)
    refine q H5 (by rw [tto, if_pos wn]; exact r5) (fun ns s htr => ?_) F5 K5
    obtain ⟨_, c1, ⟨c2, c2'⟩, c3⟩ := trv ns s htr
    have wl : w_nn ns.length := by rw [← c1]; exact wn
    obtain ⟨tw, td⟩ := t_of_w wl
    have iv : ∀ p, p ≠ 18 → p ≠ 23 → sw_iv H5 p = sw_iv G3 p := fun p h1 h2 => by
      rw [f5.2.2.2.2.2 p (by simpa using h2), f4.2.2.2.2.2 p (by simpa using h1)]
    have nvx : ∀ x, x < ns.length → ns[x]? = some (p_nv ns x) := fun x hx => by
      unfold p_nv
      rw [List.getElem?_eq_getElem hx]
      rfl
    refine ⟨c_ts_fr Re4.2.2.2 f5, t_of_ok wl c3, by rw [iv5, dd3 wn, c1]; rfl, fun x hx => ?_, fun x hx hx31 => ?_, fun k hk hky => ?_⟩
    · rw [tw] at hx
      obtain ⟨a1, a2, a3, _⟩ := c2 x _ (nvx x hx)
      show w_az mk (sw_iv H5 24 x) _ ∧ w_az mk (sw_iv H5 25 x) _ ∧ sw_iv H5 26 x = _
      rw [iv 24 (by decide) (by decide), iv 25 (by decide) (by decide), iv 26 (by decide) (by decide)]
      exact ⟨a1, a2, a3⟩
    · rw [tw] at hx
      show sw_iv H5 24 x = 0 ∧ sw_iv H5 25 x = 0 ∧ sw_iv H5 26 x = 0
      rw [iv 24 (by decide) (by decide), iv 25 (by decide) (by decide), iv 26 (by decide) (by decide)]
      exact c2' x hx hx31
    · rw [tw] at hk
      obtain ⟨_, _, _, a4⟩ := c2 (2 * k) _ (nvx (2 * k) hk)
      have hky : (p_nv ns (2 * k)).2.2.1 ≠ [] := hky
      have vk := c3 (2 * k) _ (nvx (2 * k) hk)
      rcases vk with e | ⟨_, m, ky, p, so, ph, g, e, _⟩ | ⟨e0, _⟩
      · rw [e] at hky; exact absurd rfl hky
      · have a4 := a4 (by rw [e])
        have hk2 : 28 + 2 * k / 2 = 23 + 5 + k := by omega
        rw [hk2] at a4
        have i9 : sw_iv H5 (23 + 5 + k) = sw_iv G3 (23 + 5 + k) := iv _ (by omega) (by omega)
        have a5 := c_nl_iv a4 i9
        show c_lf H5 mk (23 + 5 + k) (p_nv ns (2 * k)).2.1.1 (p_nv ns (2 * k)).2.2.1 (p_nv ns (2 * k)).2.1.2.2.1 (p_nv ns (2 * k)).2.1.2.2.2.1 (p_nv ns (2 * k)).2.2.2.1 ∧ w_at mk (sw_iv H5 (23 + 5 + k) 5) (p_nv ns (2 * k)).2.1.2.2.2.2.2
        rw [e] at a5 ⊢
        exact a5
      · omega
  · intro H15 e15
    have nwn : ¬ w_nn cnt := fun h => c (by have := dd2.mpr h; omega)
    obtain ⟨b1, b2, b3, b4⟩ := c_rd_b r5
    obtain ⟨w1, w2⟩ := c_rd_wrong b1 b2 b3 b4 e15
    refine q H15 (by rw [tto, if_neg nwn]; exact w1) (fun ns s htr => absurd (trv ns s htr).1 nwn) (c_fr_t F5 (c_frB w2 (by simp))) (c_k5_t K5 (c_k5_si e15 (by omega)))
end
