/-! ===== what a WELCOME is answered with ===== -/
noncomputable section
/-- the first PACKAGE that a WELCOME names -/
def e_find (Pt : List (List Wt × Wt × Wt)) (prs : List (Wt × Wt)) (k i : Nat) (pr : Wt × Wt) (e : List Wt × Wt × Wt) : Prop := prs[k]? = some pr ∧ Pt[i]? = some e ∧ pr.1 = w_t 1 [] [] [] e.1 ∧ (∀ (k' : Nat) pr', k' < k → prs[k']? = some pr' → ∀ e' ∈ Pt, pr'.1 ≠ w_t 1 [] [] [] e'.1) ∧ ∀ (i' : Nat) e', i' < i → Pt[i']? = some e' → pr.1 ≠ w_t 1 [] [] [] e'.1
def e_none (Pt : List (List Wt × Wt × Wt)) (prs : List (Wt × Wt)) : Prop := ∀ pr ∈ prs, ∀ e ∈ Pt, pr.1 ≠ w_t 1 [] [] [] e.1
/-- the group that is joined -/
def e_es (T : w_T) (ep : Int) (cf jn : Wt) : Wt := w_t 3 jn [0] [] (w_ctx T ep cf)
def e_hd (T : w_T) (l sd : Nat) (v sc : Wt) (x : Nat) : Wt := @ite _ (x = 2 * l) (Classical.propDecidable _) v (@ite _ (sc ≠ [] ∧ x % 2 = 1 ∧ x = t_ab l (w_h x) ∧ w_h x ≤ t_dp T ∧ e_h T l sd ≤ w_h x ∧ t_ky T x ≠ []) (Classical.propDecidable _) (w_dr (e_ls T l sc (e_h T l sd) (w_h x)) 5) [])
def e_G (T : w_T) (ep : Int) (l sd : Nat) (cf cm jn v sc : Wt) : w_G := (ep, l, T, w_int cf cm, cf, e_es T ep cf jn, e_hd T l sd v sc)
def e_w5 (T : w_T) (ep : Int) (l sd i : Nat) (cf cm jn v sc : Wt) (z : Int) (o : Option (w_G × Nat)) : Prop := (w_cfm (e_es T ep cf jn) cf ≠ cm ∧ z = 12 ∧ o = none) ∨ (w_cfm (e_es T ep cf jn) cf = cm ∧ ((sc ≠ [] ∧ ¬ e_cl T l sd sc ∧ z = 11 ∧ o = none) ∨ ((sc = [] ∨ e_cl T l sd sc) ∧ z = 0 ∧ o = some (e_G T ep l sd cf cm jn v sc, i))))
def e_w4 (lm : List Wt) (e1 : Nat) (sg : Wt) (T : w_T) (ep : Int) (l : Nat) (sd : Int) (i : Nat) (cf cm jn v sc : Wt) (z : Int) (o : Option (w_G × Nat)) : Prop := (¬ (h_hl T sd ∧ w_sok (t_ow T sd.toNat) (t_sk T sd.toNat) sg (w_sli lm e1 (lm.length - 1))) ∧ z = 4 ∧ o = none) ∨ ((h_hl T sd ∧ w_sok (t_ow T sd.toNat) (t_sk T sd.toNat) sg (w_sli lm e1 (lm.length - 1))) ∧ e_w5 T ep l sd.toNat i cf cm jn v sc z o)
def e_w3 (lm : List Wt) (e1 : Nat) (sg th : Wt) (T : w_T) (ep : Int) (f : p_L) (sd : Int) (i : Nat) (cf cm jn v sc : Wt) (z : Int) (o : Option (w_G × Nat)) : Prop := (w_th T 0 (t_top T) ≠ th ∧ z = 14 ∧ o = none) ∨ (w_th T 0 (t_top T) = th ∧ ((¬ (t_snd T ∧ t_sgn T ∧ ∃ l, t_fl1 T f l) ∧ z = 15 ∧ o = none) ∨ (t_snd T ∧ t_sgn T ∧ ∃ l, t_fl1 T f l ∧ e_w4 lm e1 sg T ep l sd i cf cm jn v sc z o)))
def e_w2 (K : Wt → Prop) (lm : List Wt) (e1 : Nat) (sg th : Wt) (T : w_T) (ep sd : Int) (i : Nat) (cf cm : Wt) (pr : Wt × Wt) (e : List Wt × Wt × Wt) (z : Int) (o : Option (w_G × Nat)) : Prop := ∃ a jn sc L ik f g0, pr.2 = w_t 6 a jn sc L ∧ w_isP K e.1 (ik, f, g0) ∧ ((a ≠ w_p5 e.2.1 ∧ z = 13 ∧ o = none) ∨ (a = w_p5 e.2.1 ∧ e_w3 lm e1 sg th T ep f sd i cf cm jn e.2.2 sc z o))
/-- what a WELCOME is answered with, and the group that is joined, with the place of the PACKAGE -/
def e_weR (K : Wt → Prop) (inn : Prop) (Pt : List (List Wt × Wt × Wt)) (lm : List Wt) (z : Int) (o : Option (w_G × Nat)) : Prop := ((∀ ep b e1 prs th cf sd ns cm sg, ¬ p_we K lm ep b e1 prs th cf sd ns cm sg) ∧ z = 1 ∧ o = none) ∨ ∃ ep b e1 prs th cf sd ns cm sg, p_we K lm ep b e1 prs th cf sd ns cm sg ∧ ((inn ∧ z = 2 ∧ o = none) ∨ (¬ inn ∧ ((e_none Pt prs ∧ z = 13 ∧ o = none) ∨ ∃ k i pr e, e_find Pt prs k i pr e ∧ e_w2 K lm e1 sg th (t_of ns) ep sd i cf cm pr e z o)))
/-- what may be made for it -/
def e_wS (K : Wt → Prop) (Pt : List (List Wt × Wt × Wt)) (lm : List Wt) (v : Wt) : Prop := (∃ e ∈ Pt, v = w_t 1 [] [] [] e.1) ∨ ∃ ep b e1 prs th cf sd ns cm sg, p_we K lm ep b e1 prs th cf sd ns cm sg ∧ ((∃ y ∈ w_ordk (w_h (t_top (t_of ns))) (t_top (t_of ns)) (w_h (t_top (t_of ns)) + 1) 0, v = w_th (t_of ns) 0 y) ∨ (w_th (t_of ns) 0 (t_top (t_of ns)) = th ∧ t_sS (t_of ns) v) ∨ (w_th (t_of ns) 0 (t_top (t_of ns)) = th ∧ ∃ l, t_is (t_of ns) l ∧ (∀ j, j < l → t_is (t_of ns) j → w_lfs (t_lfa (t_of ns) j) (j : Int)) ∧ v = t_lsg (t_of ns) l) ∨ ∃ k i pr e, e_find Pt prs k i pr e ∧ (v = w_p5 e.2.1 ∨ ∃ a jn sc L ik f g0 l, pr.2 = w_t 6 a jn sc L ∧ w_isP K e.1 (ik, f, g0) ∧ w_th (t_of ns) 0 (t_top (t_of ns)) = th ∧ t_snd (t_of ns) ∧ t_fl1 (t_of ns) f l ∧ (v = e_es (t_of ns) ep cf jn ∨ v = w_dr (e_es (t_of ns) ep cf jn) 2 ∨ v = w_cfm (e_es (t_of ns) ep cf jn) cf ∨ v = w_int cf (w_cfm (e_es (t_of ns) ep cf jn) cf) ∨ e_clS (t_of ns) l sc (e_h (t_of ns) l sd.toNat) v)))
section
variable {K : Wt → Prop} {l lm : List Wt} {ep sd : Int} {b e1 : Nat} {prs : List (Wt × Wt)} {th cf cm sg : Wt} {ns : List p_V} {i e : Nat} {h s : Wt} {st : Nat × Nat} {T : w_T} {v : p_V}
theorem p_hs_ix (hx : p_hs K l (some (i, e)) = some ((h, s), st)) : st = (i + 2, e) ∧ i + 2 ≤ e ∧ p_t K 1 l (some (i, e)) = some (h, i + 1, e) ∧ p_t K 6 l (some (i + 1, e)) = some (s, i + 2, e) := by
  unfold p_hs at hx
  rw [Option.bind_eq_some_iff] at hx
  obtain ⟨⟨a, s1⟩, h1, h2⟩ := hx
  rw [Option.map_eq_some_iff] at h2
  obtain ⟨⟨a2, s2⟩, h3, h4⟩ := h2
  obtain ⟨t1, t2, _⟩ := p_t_in h1
  subst t1
  have h3 : p_t K 6 l (some (i + 1, e)) = some (a2, s2) := h3
  obtain ⟨u1, u2, _⟩ := p_t_in h3
  subst u1
  rw [Prod.mk.injEq, Prod.mk.injEq] at h4
  obtain ⟨⟨f1, f2⟩, f3⟩ := h4
  have f1 : a = h := f1
  have f2 : a2 = s := f2
  have f3 : (i + 1 + 1, e) = st := f3
  rw [f1] at h1
  rw [f2] at h3
  exact ⟨f3.symm, by omega, h1, h3⟩
theorem p_hs_many : ∀ {n i e : Nat} {r : List (Wt × Wt)} {s : Nat × Nat}, i ≤ e → p_many (p_hs K l) n (some (i, e)) = some (r, s) → i + 2 * r.length = e ∧ ∀ (k : Nat) (pr : Wt × Wt), r[k]? = some pr → p_t K 1 l (some (i + 2 * k, e)) = some (pr.1, i + 2 * k + 1, e) ∧ p_t K 6 l (some (i + 2 * k + 1, e)) = some (pr.2, i + 2 * k + 2, e)
  | 0, i, e, r, s, hi, h => by
    by_cases c : i < e
    · rw [show p_many (p_hs K l) 0 (some (i, e)) = none from if_pos c] at h
      cases h
    · rw [p_many_e (by omega)] at h
      have h := Option.some.inj h
      rw [Prod.mk.injEq] at h
      rw [← h.1]
      exact ⟨by show i + 2 * 0 = e; omega, fun k pr hk => by cases hk⟩
  | n + 1, i, e, r, s, hi, h => by
    by_cases c : i < e
    · rw [p_many_s c, Option.bind_eq_some_iff] at h
      obtain ⟨⟨⟨a, a'⟩, i', e'⟩, eo, h⟩ := h
      obtain ⟨b1, b2, b3, b4⟩ := p_hs_ix eo
      rw [Prod.mk.injEq] at b1
      obtain ⟨b5, b6⟩ := b1
      subst b5; subst b6
      rw [Option.map_eq_some_iff] at h
      obtain ⟨⟨r', s'⟩, h1, h2⟩ := h
      have h1 : p_many (p_hs K l) n (some (i + 2, e')) = some (r', s') := h1
      rw [Prod.mk.injEq] at h2
      have h2 : (a, a') :: r' = r := h2.1
      obtain ⟨c1, c2⟩ := p_hs_many b2 h1
      rw [← h2]
      refine ⟨by rw [List.length_cons]; omega, fun k pr hk => ?_⟩
      cases k with
      | zero =>
        have hk : (a, a') = pr := Option.some.inj hk
        rw [← hk]
        exact ⟨b3, b4⟩
      | succ k =>
        have hk : r'[k]? = some pr := hk
        obtain ⟨d1, d2⟩ := c2 k pr hk
        rw [show i + 2 * (k + 1) = i + 2 + 2 * k by omega]
        exact ⟨d1, d2⟩
    · rw [p_many_e (by omega)] at h
      have h := Option.some.inj h
      rw [Prod.mk.injEq] at h
      rw [← h.1]
      exact ⟨by show i + 2 * 0 = e; omega, fun k pr hk => by cases hk⟩
theorem p_we_hs (h : p_we K lm ep b e1 prs th cf sd ns cm sg) : e1 = b + 2 * prs.length ∧ e1 + 8 ≤ lm.length ∧ ∀ (k : Nat) (pr : Wt × Wt), prs[k]? = some pr → lm[b + 2 * k]? = some pr.1 ∧ pr.1.head? = some 1 ∧ lm[b + 2 * k + 1]? = some pr.2 ∧ pr.2.head? = some 6 ∧ K pr.2 ∧ b + 2 * k + 1 < lm.length := by
  have h5 := h.2.2.1
  unfold p_row at h5
  rw [Option.bind_eq_some_iff] at h5
  obtain ⟨⟨en, i1, e2⟩, h6, h7⟩ := h5
  obtain ⟨r1, r2, r3, r4, _⟩ := p_r_ix h6
  rw [Option.bind_eq_some_iff] at h7
  obtain ⟨⟨es', s'⟩, h8, h9⟩ := h7
  have h8 : p_many (p_hs K lm) (en - i1) (some (i1, en)) = some (es', s') := h8
  have e8 : e1 + 8 ≤ lm.length := by have := (p_16_le h.2.2.2.2.2.2.1).2.2; omega
  dsimp only at h9
  split at h9
  · rename_i hs1
    have h9 := Option.some.inj h9
    rw [Prod.mk.injEq, Prod.mk.injEq, Prod.mk.injEq] at h9
    obtain ⟨⟨f1, f2⟩, f3, f4⟩ := h9
    have f3 : s'.1 = e1 := f3
    have f1 : i1 = b := f1
    have f2 : es' = prs := f2
    have hs1 : s'.1 = en := hs1
    have een : en = e1 := by omega
    rw [een, f1, f2] at h8
    obtain ⟨c1, c2⟩ := p_hs_many (by omega) h8
    refine ⟨c1.symm, e8, fun k pr hk => ?_⟩
    obtain ⟨d1, d2⟩ := c2 k pr hk
    obtain ⟨_, _, _, y4, _⟩ := p_t_in d1
    obtain ⟨_, z2, _, z4, z5⟩ := p_t_in d2
    exact ⟨p_t_sl (by omega) d1, y4, p_t_sl (by omega) d2, z4, z5, by omega⟩
  · cases h9
theorem p_no_5 (hx : ∀ w ∈ l, w.head? = some 5 → w_i5 w) (he : e ≤ l.length) {x : Nat} (h : p_no K l x (some (i, e)) = some (v, st)) : v.2.2.1 = [] ∨ w_i5 v.2.2.1 := by
  unfold p_no at h
  rw [Option.bind_eq_some_iff] at h
  obtain ⟨⟨z, i1, e1⟩, h1, h2⟩ := h
  obtain ⟨a1, _⟩ := p_8_in h1
  rw [Prod.mk.injEq] at a1
  obtain ⟨a2, a3⟩ := a1
  subst a2; subst a3
  dsimp only at h2
  split at h2
  · have h2 := Option.some.inj h2
    rw [Prod.mk.injEq] at h2
    rw [← h2.1]
    exact Or.inl rfl
  · split at h2
    · rw [Option.map_eq_some_iff] at h2
      obtain ⟨⟨f, s⟩, h3, h4⟩ := h2
      rw [Prod.mk.injEq] at h4
      rw [← h4.1]
      exact Or.inr (p_lf_5 hx he h3)
    · split at h2
      · rw [Option.bind_eq_some_iff] at h2
        obtain ⟨⟨k, s⟩, h3, h4⟩ := h2
        rw [Option.bind_eq_some_iff] at h4
        obtain ⟨⟨k2, s2⟩, h5, h6⟩ := h4
        rw [Option.map_eq_some_iff] at h6
        obtain ⟨u, _, h7⟩ := h6
        rw [Prod.mk.injEq] at h7
        rw [← h7.1]
        exact Or.inr (hx _ (List.mem_of_getElem? (p_t_sl he h3)) (p_t_in h3).2.2.2.1)
      · cases h2
theorem p_nos_5 (hx : ∀ w ∈ l, w.head? = some 5 → w_i5 w) : ∀ {n x i e : Nat} {r : List p_V} {s : Nat × Nat}, e ≤ l.length → p_nos K l n x (some (i, e)) = some (r, s) → ∀ v ∈ r, v.2.2.1 = [] ∨ w_i5 v.2.2.1
  | 0, x, i, e, r, s, he, h, v, hv => by
    by_cases c : i < e
    · rw [show p_nos K l 0 x (some (i, e)) = none from if_pos c] at h
      cases h
    · rw [p_nos_e (by omega)] at h
      have h := Option.some.inj h
      rw [Prod.mk.injEq] at h
      rw [← h.1] at hv
      cases hv
  | n + 1, x, i, e, r, s, he, h, v, hv => by
    by_cases c : i < e
    · rw [p_nos_s c, Option.bind_eq_some_iff] at h
      obtain ⟨⟨a, i', e'⟩, eo, h⟩ := h
      obtain ⟨_, _, b3⟩ := p_no_fw.2 i e a _ eo
      have b3 : e' = e := b3
      subst b3
      rw [Option.map_eq_some_iff] at h
      obtain ⟨⟨r', s'⟩, h1, h2⟩ := h
      rw [Prod.mk.injEq] at h2
      have h2 : a :: r' = r := h2.1
      rw [← h2, List.mem_cons] at hv
      rcases hv with hv | hv
      · rw [hv]; exact p_no_5 hx he eo
      · exact p_nos_5 hx he h1 v hv
    · rw [p_nos_e (by omega)] at h
      have h := Option.some.inj h
      rw [Prod.mk.injEq] at h
      rw [← h.1] at hv
      cases hv
theorem p_we_5 (hx : ∀ w ∈ lm, w.head? = some 5 → w_i5 w) (h : p_we K lm ep b e1 prs th cf sd ns cm sg) : t_pk (t_of ns) := by
  have h5 := h.2.2.2.2.2.2.2.1
  unfold p_tr at h5
  rw [Option.bind_eq_some_iff] at h5
  obtain ⟨⟨⟨a, ns'⟩, i1, e2⟩, h6, h7⟩ := h5
  dsimp only at h7
  split at h7
  · have h7 := Option.some.inj h7
    rw [Prod.mk.injEq] at h7
    have h7 : ns' = ns := h7.1
    subst h7
    unfold p_row at h6
    rw [Option.bind_eq_some_iff] at h6
    obtain ⟨⟨en, i3, e3⟩, h8, h9⟩ := h6
    obtain ⟨r1, r2, r3, r4, _⟩ := p_r_ix h8
    rw [Option.bind_eq_some_iff] at h9
    obtain ⟨⟨es', s'⟩, h10, h11⟩ := h9
    have h10 : p_nos K lm 31 0 (some (i3, en)) = some (es', s') := h10
    dsimp only at h11
    split at h11
    · have h11 := Option.some.inj h11
      rw [Prod.mk.injEq, Prod.mk.injEq] at h11
      have h12 : es' = ns' := h11.1.2
      subst h12
      have all := p_nos_5 hx r3 h10
      intro x _
      show (p_nv es' x).2.2.1 = [] ∨ _
      unfold p_nv
      obtain ⟨o, eo⟩ : ∃ o, es'[x]? = o := ⟨_, rfl⟩
      have e : t_ky (t_of es') x = (p_nv es' x).2.2.1 := rfl
      rw [e]
      unfold p_nv
      rw [eo]
      cases o with
      | none => exact Or.inl rfl
      | some v => exact all v (List.mem_of_getElem? eo)
    · cases h11
  · cases h7
end
section
variable {T : w_T} {l sd m : Nat} {f : p_L} {ep : Int} {cf cm jn v sc : Wt}
theorem t_inv_snd (h : t_snd T) (hok : t_ok T) : t_inv T := fun x hx hk b hb hbit => by
  rcases Nat.mod_two_eq_zero_or_one x with g | g
  · rw [(hok.2.1 x hx).2.2.1 g] at hbit
    have : w_bit 0 b = 0 := by unfold w_bit; simp
    omega
  · obtain ⟨a1, a2, _⟩ := (h.2.2 x hx g hk).1 b hb hbit
    exact ⟨a1, a2.symm⟩
theorem t_lv_sgn (h : t_sgn T) : t_lv T := fun k hk hne => by
  have a := h k ⟨(t_lf_w T k).mp hk, hne⟩
  have a : w_sok (t_ow T k) (t_sk T k) _ _ := a
  exact ⟨a.2.1, a.2.2.1⟩
/-- one leaf at most -/
theorem t_fl1_u (h : t_onm T) {l' : Nat} (h1 : t_fl1 T f l) (h2 : t_fl1 T f l') : l = l' := by
  rcases Nat.lt_trichotomy l l' with g | g | g
  · exact absurd (h2.2.1.trans h1.2.1.symm) (h l' l g h2.1 h1.1)
  · exact g
  · exact absurd (h1.2.1.trans h2.2.1.symm) (h l l' g h1.1 h2.1)
/-- the group that is joined is right -/
theorem e_iv (hok : t_ok T) (hpk : t_pk T) (hs : t_snd T) (hg : t_sgn T) (hf : t_fl1 T f l) (hm : f.1 = (m : Int)) (hk : f.2.1 = w_p5 v) (hep : sw_c ep) : gg_ok (e_G T ep l sd cf cm jn v sc) ∧ g_iv m (e_G T ep l sd cf cm jn v sc) ∧ gg_lv (e_G T ep l sd cf cm jn v sc) := by
  have h4 := hok.1
  have d16 := t_d_16 h4
  have w31 := t_w_4 h4
  obtain ⟨f1, f2, f3, f4, f5, f6⟩ := id hf
  have lw := (t_lf_w T l).mpr f1.1
  have ll := f1.1
  have lv := t_lv_sgn hg
  have eh : ∀ x, gg_hd (e_G T ep l sd cf cm jn v sc) x = e_hd T l sd v sc x := fun _ => rfl
  refine ⟨⟨hep, lw, f1.2, hpk, fun x hx hbl => ?_⟩, ⟨t_inv_snd hs hok, f2.trans hm, ?_, fun l' hl' => ?_, ?_, hok⟩, lv⟩
  · rw [eh]
    have hbl : t_ky T x = [] := hbl
    unfold e_hd
    by_cases c : x = 2 * l
    · rw [c] at hbl
      exact absurd hbl f1.2
    · rw [if_neg c, if_neg (fun cc => cc.2.2.2.2.2 hbl)]
  · have := (lv l lw f1.2).2
    rw [f2, hm, Int.toNat_natCast] at this
    exact this
  · rw [eh]
    have hl' : l' ≠ l := hl'
    unfold e_hd
    rw [if_neg (by omega), if_neg (fun cc => by have := cc.2.1; omega)]
  · have e : gg_hd (e_G T ep l sd cf cm jn v sc) (2 * l) = v := by
      rw [eh]
      unfold e_hd
      rw [if_pos rfl]
    have : t_ky T (2 * l) = w_p5 v := f3.trans hk
    show t_ky T (2 * l) = w_p5 (gg_hd (e_G T ep l sd cf cm jn v sc) (2 * l))
    rw [e]
    exact this
end
end
