/-! ===== the reference: deliverCommit ===== -/
noncomputable section
section
variable {A : Type} {f : p_S → Option (A × Nat × Nat)} {K : Wt → Prop} {l : List Wt} {ep sd : Int} {b e1 : Nat} {es : List p_E} {pt : Option p_P} {sg cf tg : Wt}
theorem p_many_l2 (hf : p_fw f) (h2 : ∀ i e a s, f (some (i, e)) = some (a, s) → i + 2 ≤ s.1) : ∀ {n i e : Nat} {r : List A} {s : Nat × Nat}, i ≤ e → p_many f n (some (i, e)) = some (r, s) → i + 2 * r.length ≤ e
  | 0, i, e, r, s, hi, h => by
    by_cases c : i < e
    · rw [show p_many f 0 (some (i, e)) = none from if_pos c] at h
      cases h
    · rw [p_many_e (by omega)] at h
      have h := Option.some.inj h
      rw [Prod.mk.injEq] at h
      rw [← h.1]
      simp
      omega
  | n + 1, i, e, r, s, hi, h => by
    by_cases c : i < e
    · rw [p_many_s c, Option.bind_eq_some_iff] at h
      obtain ⟨⟨a, i', e'⟩, eo, h⟩ := h
      obtain ⟨b1, b2, b3⟩ := hf.2 i e a _ eo
      have c2 : i + 2 ≤ i' := h2 i e a _ eo
      have b2 : i' ≤ e := b2
      have b3 : e' = e := b3
      subst b3
      rw [Option.map_eq_some_iff] at h
      obtain ⟨⟨r', s'⟩, h1, h3⟩ := h
      have h1 : p_many f n (some (i', e')) = some (r', s') := h1
      rw [Prod.mk.injEq] at h3
      have h3 : a :: r' = r := h3.1
      have ih := p_many_l2 hf h2 b2 h1
      rw [← h3, List.length_cons]
      omega
    · rw [p_many_e (by omega)] at h
      have h := Option.some.inj h
      rw [Prod.mk.injEq] at h
      rw [← h.1]
      simp
      omega
theorem p_cm_len (h : p_cm K l ep sd b e1 es pt sg cf tg) : 2 * es.length ≤ l.length := by
  have h5 := h.2.2.2.2.1
  unfold p_row at h5
  rw [Option.bind_eq_some_iff] at h5
  obtain ⟨⟨en, i1, e2⟩, h6, h7⟩ := h5
  obtain ⟨r1, r2, r3, r4, _⟩ := p_r_ix h6
  rw [Option.bind_eq_some_iff] at h7
  obtain ⟨⟨es', s'⟩, h8, h9⟩ := h7
  have h8 : p_many (p_en K l) (en - i1) (some (i1, en)) = some (es', s') := h8
  dsimp only at h9
  split at h9
  · have h9 := Option.some.inj h9
    rw [Prod.mk.injEq, Prod.mk.injEq] at h9
    have := p_many_l2 p_en_fw (fun i e a s h => by obtain ⟨pl, hh, c⟩ := a; exact (p_en_ix h).2.1) r4 h8
    rw [h9.1.2] at this
    omega
  · cases h9
end
/-- the own commit that waits -/
def d_pend (I : sr_V) (mk : List Wt) (m : Nat) (ms : List (List Wt)) : Option (List Wt × w_G) → Prop
  | none => I 28 m = 0
  | some (lp, G') => I 28 m = 1 ∧ (∃ pn : Nat, I 35 m = pn ∧ ms[pn]? = some lp) ∧ m_st I mk (24 + m) G'
/-- what taking a COMMIT may make -/
def d_dS (K : Wt → Prop) (G : w_G) (C : List w_Ch) (lm : List Wt) (v : Wt) : Prop := v = w_mem G ∨ ∃ ep sd b e1 es pt sg cf tg, p_cm K lm ep sd b e1 es pt sg cf tg ∧ w_sok (t_ow (gg_T G) sd.toNat) (t_sk (gg_T G) sd.toNat) sg (w_sli lm 0 (lm.length - 3) ++ w_cx G) ∧ w_sd G sd ∧ h_done (gg_T G) (d_L C (sd.toNat : Int) es) (sd.toNat : Int) ∧ (∀ c ∈ d_L C (sd.toNat : Int) es, p_cok c.1) ∧ d_mS G (d_L C (sd.toNat : Int) es) sd.toNat lm pt v
variable {I I' J X : sr_V} {nn us fr i e : Nat} {K : Wt → Prop} {tl mk mm lm l : List Wt} {Q : Int → sr_V → Prop} {m mi : Nat} {sg cf tg : Wt} {G : w_G} {S : Wt → Prop} {L C : List w_Ch} {ep sd com b : Int} {e1 : Nat} {es : List p_E} {pt : Option p_P} {ms : List (List Wt)} {U : List (Wt × Wt)} {Lk : List (Wt × Nat)} {c : w_Ch} {o : Option (Option w_G)} {s : Nat × Nat} {Z : Int} {pd : Option (List Wt × w_G)}
theorem s_u32 (hx : m_tk I mk K fr l) (hS : ((fr + l.length : Nat) : Int) ≤ Z) (he : e ≤ l.length) (hp : p_32 l (some (i, e)) = some (b, s)) (h : m_ry I fr i Z) (q : ∀ J, m_ry J fr (i + 4) Z → m_fr [] [57, 58, 59] I J → Q b J) : rm_212 I Q := by
  unfold p_32 at hp
  rw [Option.bind_eq_some_iff] at hp
  obtain ⟨⟨a1, s1⟩, h1, h2⟩ := hp
  rw [Option.map_eq_some_iff] at h2
  obtain ⟨⟨a2, s2⟩, h3, h4⟩ := h2
  have vl := m_tk_vl hx
  obtain ⟨_, x1, x2, x3, _⟩ := p_16_sl vl he h1
  subst x3
  have h3 : p_16 l (some (i + 2, e)) = some (a2, s2) := h3
  obtain ⟨_, y1, y2, _, _⟩ := p_16_sl vl he h3
  rw [Prod.mk.injEq] at h4
  have h4 : sw_w (65536 * a1 + a2) = b := h4.1
  unfold rm_212
  refine s_u16 hx hS he h1 h (fun J1 r1 f1 => ?_)
  intro _
  refine s_u16 (m_tk_fr hx f1) hS he h3 r1 (fun J2 r2 f2 => ?_)
  intro _
  rw [sw_or_32 x1 x2 y1 y2, h4]
  exact q J2 r2 (m_fr_trans f1 f2)
theorem m_gc_up (hm : m < 24) (h : m_gc I mk nn K tl ms us m G Lk K) (hJ : m_L J mm nn K tl) (hl : w_le mk mm) (g : m_gp (m_pD us) I J) : m_gc J mm nn K tl ms us m G Lk K := by
  obtain ⟨⟨w1, w2, w3, w4⟩, h2, h3, h4⟩ := h
  have n : ∀ f k, (18 ≤ f ∧ f ≤ 25) ∨ (f = 26 ∧ k < us) ∨ (27 ≤ f ∧ f ≤ 28) ∨ (45 ≤ f ∧ f ≤ 54) ∨ f = 16 ∨ (f = 1000 ∧ (k = 22 ∨ k = 23)) → J f k = I f k := fun f k hf => g f k (fun p => by
    unfold m_pD m_p2 m_pl at p
    omega)
  refine ⟨⟨hJ, fun k hk => ?_, m_M_up w1 hJ hl w3 w4 g (fun f k p => by unfold m_pD m_p2 m_pl at p; omega), by rw [n 1000 23 (by omega)]; exact w4⟩, m_st_le (m_st_gp h2 g (fun f k p q => by unfold m_pl at p; unfold m_pD m_p2 m_pl at q; omega)) hl, m_pp_gp (m := m) h3 g (fun f k h c => by unfold m_kq at c; unfold m_pD m_p2 m_pl at h; omega) hl (fun _ _ h => h), fun k p hp => ?_⟩
  · rw [n 20 k (by omega), n 21 k (by omega)]
    exact ⟨w_le_at hl (w2 k hk).1, w_le_at hl (w2 k hk).2⟩
  · obtain ⟨a1, a2, a3, a4, a5⟩ := w3.2.2.2.2 k p hp
    rw [n 24 k (by omega)]
    exact m_tk_up (h4 k p hp) hJ hl (fun i hi => n 26 _ (by omega)) (funext (fun k => n 16 k (by omega)))
theorem m_pD_cr (g : m_gp m_pcr I J) : m_gp (m_pD us) I J := m_gp_sub g (fun f k p => by unfold m_pcr m_prP m_pr at p; unfold m_pD; omega)
theorem m_pD_pw (g : m_gp (m_pw us) I J) : m_gp (m_pD us) I J := m_gp_sub g (fun f k p => by
  unfold m_pw at p
  rcases p with p | p | p | p
  · exact Or.inl p
  · exact Or.inr (Or.inl p)
  · unfold m_pD; omega
  · unfold m_pD; omega)
theorem m_pD_fr (g : m_fr [] [57, 58, 59] I J) : m_gp (m_pD us) I J := m_gp_sub (m_fr_gp g) (fun f k p => by
  rcases p with ⟨_, c⟩ | ⟨c, d⟩
  · cases c
  · simp only [List.mem_cons, List.mem_nil_iff, or_false] at d
    unfold m_pD; omega)
theorem m_pD_5 (g : m_fr [55] [56] I J) : m_gp (m_pD us) I J := m_gp_sub (m_fr_gp g) (fun f k p => by
  simp only [List.mem_cons, List.mem_nil_iff, or_false] at p
  unfold m_pD; omega)
theorem m_pw_n' {f k : Nat} (h : (76 ≤ f ∧ f ≤ 107 ∧ f ≠ 87) ∨ (f = 1000 ∧ ((76 ≤ k ∧ k ≤ 108) ∨ k = 111))) : ¬ m_pw us f k := by
  unfold m_pw m_p2
  intro c
  rcases c with c | c | c | c <;> omega
theorem m_pD_2 (g : m_gp m_p2 I J) : m_gp (m_pD us) I J := m_gp_sub g (fun f k p => Or.inl p)
theorem r_deliverCommit (hm : m < 24) (hw : m_wr I mk nn K tl ms us) (hmi : ms[mi]? = some lm) (htk : ∀ (k : Nat) (p : List Wt), ms[k]? = some p → m_tk I mk K (I 24 k).toNat p) (h01 : I 27 m = 0 ∨ I 27 m = 1) (hst : I 27 m = 1 → m_st I mk m G ∧ g_iv m G ∧ gg_lv G) (hP : m_pp I mk ms m Lk) (hkc : w_kc K ms Lk C) (hU : m_up I mk m U) (hUk : I 27 m = 1 → ∀ c ∈ C, c.1.1 = 2 → c.2.1 = (gg_lf G : Int) → (∃ v, (c.2.2, v) ∈ U) ∧ ∀ v, (c.2.2, v) ∈ U → (h_lf c).2.1 = w_p5 v) (hpd : I 27 m = 1 → d_pend I mk m ms pd) (hx5 : w_x5 ms) (hz : w_at mk 1 w_z) (hb : m_bS S mk) (hS : I 27 m = 1 → ∀ v, d_dS K G C lm v → S v)
    (q : ∀ z o J mm, d_dcR K (I 27 m = 1) G C pd lm z o → w_mo S mk mm → m_bS S mm → m_L J mm nn K tl → d_aft I us m J mm o → Q z J) : rm_110 mi m I Q := by
  have ml : mi < ms.length := (List.getElem?_eq_some_iff.mp hmi).1
  have m2 := hw.2.2.1.2.1
  obtain ⟨a1, a2, a3, a4, a5⟩ := hw.2.2.1.2.2.2.2 mi lm hmi
  have hus : I 1000 23 = us := hw.2.2.2
  have us3 := m_wr_us hw
  have hx := htk mi lm hmi
  obtain ⟨fr, efr⟩ : ∃ fr : Nat, I 24 mi = fr := ⟨(I 24 mi).toNat, by omega⟩
  unfold rm_110
  refine r_readCommit a3 hw.2.2.1 hmi hx (fun ep sd b e1 es pt sg cf tg J1 hcm cmv g1 => ?_) (fun J1 hno g1 => ?_)
  rotate_left
  · intro _
    exact ⟨fun c => absurd rfl c, fun _ => q 1 none J1 mk (Or.inl ⟨hno, rfl, rfl⟩) w_mo_refl hb (m_L_gp hw.1 g1 (fun f k p => by unfold m_pcr m_prP m_pr at p; omega)) (m_pD_cr g1)⟩
  intro _
  refine ⟨fun _ => ⟨by omega, by omega, ?_⟩, fun c => absurd c (by decide)⟩
  rw [efr, Int.toNat_natCast] at hx cmv
  have hb' := hx.2.1
  have hfr : fr + lm.length ≤ us := by omega
  have G1 : m_gp (m_pD us) I J1 := m_pD_cr g1
  have L1 := m_L_gp hw.1 g1 (fun f k p => by unfold m_pcr m_prP m_pr at p; omega)
  have n1 : ∀ f k, (16 ≤ f ∧ f ≤ 54) ∨ (f = 1000 ∧ (k = 22 ∨ k = 23)) → J1 f k = I f k := fun f k hf => g1 f k (by unfold m_pcr m_prP m_pr; omega)
  have x1 : m_tk J1 mk K fr lm := m_tk_pcr hx g1
  intro v139 e139 _ v148 e148 _
  rw [Int.toNat_natCast, n1 24 mi (by omega), efr] at e139
  rw [n1 1000 23 (by omega)] at e148
  unfold rm_210
  intro I1 d1 I2 d2 I3 d3
  have i1 : sw_w (v139 + 1) = ((fr + 1 : Nat) : Int) := by rw [e139, sw_w_s (by omega) (by omega)]; omega
  rw [i1] at d1
  clear i1
  have r3 : m_ry I3 fr 1 us := ⟨by rw [d3, su_k (by decide), d2, su_k (by decide), d1, su_eq], by rw [d3, su_k (by decide), d2, su_eq, e148, hus], by rw [d3, su_eq]⟩
  have f3 : m_fr [] [57, 58, 59] J1 I3 := ⟨fun g _ g2 => by rw [d3, d2, d1, su_f g2, su_f g2, su_f g2], fun f hf => by
    simp only [List.mem_cons, List.not_mem_nil, or_false] at hf
    rw [d3, d2, d1, su_k (by omega), su_k (by omega), su_k (by omega)]⟩
  clear d1 d2 d3
  have G3 : m_gp (m_pD us) I I3 := m_gp_trans G1 (m_pD_fr f3)
  have L3 : m_L I3 mk nn K tl := m_L_gp L1 (m_fr_gp f3) (fun f k p => by
    rcases p with ⟨_, c⟩ | ⟨c, d⟩
    · cases c
    · simp only [List.mem_cons, List.mem_nil_iff, or_false] at d; omega)
  refine ⟨by omega, by omega, ?_⟩
  intro v158 e158 _
  have e27 : I3 27 m = I 27 m := G3 27 m (by unfold m_pD m_p2 m_pl; omega)
  rw [Int.toNat_natCast, e27] at e158
  refine ⟨fun c => q 2 none I3 mk (Or.inr ⟨ep, sd, b, e1, es, pt, sg, cf, tg, hcm, Or.inl ⟨Or.inl (by omega), rfl, rfl⟩⟩) w_mo_refl hb L3 G3, fun c => ?_⟩
  have in1 : I 27 m = 1 := by omega
  have hS := hS in1
  obtain ⟨st, hi, hlv⟩ := hst in1
  have hg : m_gc I mk nn K tl ms us m G Lk K := ⟨hw, st, hP, htk⟩
  have h4 := hi.2.2.2.2.2.1
  have d16 := t_d_16 h4
  have w31 := t_w_4 h4
  have x3 : m_tk I3 mk K fr lm := m_tk_fr x1 f3
  refine s_u32 x3 (by omega) (Nat.le_refl _) hcm.2.2.1 r3 (fun J4 _ f4 => ?_)
  intro _
  have F4 : m_fr [] [57, 58, 59] J1 J4 := m_fr_trans f3 f4
  have G4 : m_gp (m_pD us) I J4 := m_gp_trans G1 (m_pD_fr F4)
  have L4 : m_L J4 mk nn K tl := m_L_gp L3 (m_fr_gp f4) (fun f k p => by
    rcases p with ⟨_, c⟩ | ⟨c, d⟩
    · cases c
    · simp only [List.mem_cons, List.mem_nil_iff, or_false] at d; omega)
  have gc4 := m_gc_up hm hg L4 (w_le_refl _) G4
  have st4 := gc4.2.1
  -- what was read stays
  have n4 : ∀ f k, (76 ≤ f ∧ f ≤ 107) ∨ (f = 1000 ∧ ((76 ≤ k ∧ k ≤ 108) ∨ k = 111)) → J4 f k = J1 f k := fun f k hf => by
    by_cases cf : f = 1000
    · subst cf; exact F4.2 k (by simp; omega)
    · rw [F4.1 f (by simp) cf]
  obtain ⟨c101, ces, c102, c103, c104, c106, c107, cpt⟩ := cmv
  refine ⟨by omega, by omega, ?_⟩
  intro v168 e168 _
  rw [Int.toNat_natCast, st4.2.1] at e168
  have base : ∀ {z : Int} {o : Option (Option w_G)}, d_ep G C pd sd es pt lm sg cf tg z o → ep = gg_ep G → d_dcR K (I 27 m = 1) G C pd lm z o := fun {z o} h he => Or.inr ⟨ep, sd, b, e1, es, pt, sg, cf, tg, hcm, Or.inr ⟨in1, he, h⟩⟩
  refine ⟨fun c1 => ?_, fun c1 => q 2 none J4 mk (Or.inr ⟨ep, sd, b, e1, es, pt, sg, cf, tg, hcm, Or.inl ⟨Or.inr (by omega), rfl, rfl⟩⟩) w_mo_refl hb L4 G4⟩
  have eep : ep = gg_ep G := by omega
  have hsd := p_16_sl (m_tk_vl hx) (Nat.le_refl _) hcm.2.2.2.1
  obtain ⟨l, el⟩ : ∃ l : Nat, sd = l := ⟨sd.toNat, by have := hsd.2.1; omega⟩
  subst el
  have l65 : l < 65536 := by have := hsd.2.2.1; omega
  have j101 : J4 1000 101 = (l : Nat) := by rw [n4 1000 101 (by omega)]; exact c101
  intro v171 e171 _
  rw [j101] at e171
  refine ⟨by omega, by omega, ?_⟩
  intro v174 e174 _
  rw [Int.toNat_natCast, st4.2.2.1] at e174
  refine ⟨fun c2 => ?_, fun c2 => ?_⟩
  rotate_left
  · -- the own one
    have esd : (l : Int) = gg_lf G := by omega
    have pend := hpd in1
    have no3 : (∀ G', pd ≠ some (lm, G')) → Q 3 J4 := fun h => q 3 none J4 mk (base (Or.inl ⟨esd, Or.inr ⟨h, rfl, rfl⟩⟩) eep) w_mo_refl hb L4 G4
    have e28 : J4 28 m = I 28 m := G4 28 m (by unfold m_pD m_p2 m_pl; omega)
    have e35 : J4 35 m = I 35 m := G4 35 m (by unfold m_pD m_p2 m_pl; omega)
    cases pd with
    | none =>
      have pend : I 28 m = 0 := pend
      refine r_isPending (lp := []) hm L4 gc4.1.2.2.1 hmi (fun c => absurd (e28.trans pend) c) (fun c => absurd (e28.trans pend) c) (fun _ => ?_)
      intro _
      exact ⟨fun _ => no3 (fun G' h => by cases h), fun c => absurd rfl c⟩
    | some pp =>
      obtain ⟨lp, G'⟩ := pp
      obtain ⟨p1, ⟨pn, p2, p3⟩, p4⟩ := pend
      refine r_isPending (lp := lp) hm L4 gc4.1.2.2.1 hmi (fun _ => ⟨pn, by rw [e35]; exact p2, p3⟩) (fun _ elp => ?_) (fun hn => ?_)
      · intro _
        refine ⟨fun c => absurd c (by decide), fun _ => ?_⟩
        have st' := m_st_gp p4 G4 (fun f k p q => by unfold m_pl at p; unfold m_pD m_p2 m_pl at q; omega)
        refine r_finish hm st' (fun J5 s5 j1 j2 j3 g5 => ?_)
        intro _
        refine q 0 (some (some G')) J5 mk (base (Or.inl ⟨esd, Or.inl ⟨G', by rw [elp], rfl, rfl⟩⟩) eep) w_mo_refl hb (m_L_gp L4 g5 (fun f k p => by unfold m_pl at p; omega)) ⟨s5, j1, j2, j3, m_gp_trans (m_gp_sub G4 (fun f k p => Or.inl p)) (m_gp_sub g5 (fun f k p => Or.inr p))⟩
      · intro _
        refine ⟨fun _ => no3 (fun G2 h => hn ⟨by rw [e28]; omega, ?_⟩), fun c => absurd rfl c⟩
        have h := Option.some.inj h
        rw [Prod.mk.injEq] at h
        exact h.1
  -- another's
  have esd : (l : Int) ≠ gg_lf G := by omega
  have no : ∀ {z : Int} {J : sr_V} {mm : List Wt}, d_ep G C pd l es pt lm sg cf tg z none → w_mo S mk mm → m_bS S mm → m_L J mm nn K tl → m_gp (m_pD us) I J → Q z J := fun {z J mm} h mo bm LJ gJ => q z none J mm (base h eep) mo bm LJ gJ
  have no3 : ¬ w_sd G l → Q 3 J4 := fun h => no (Or.inr ⟨esd, Or.inl ⟨h, rfl, rfl⟩⟩) w_mo_refl hb L4 G4
  intro v177 e177 _
  rw [j101] at e177
  have tr4 := st4.2.2.2.1
  refine r_leafCount (s := m) (by omega) tr4.2.1 h4 ?_
  intro _
  refine ⟨fun c3 => no3 (fun h => by have := h.1; omega), fun c3 => ?_⟩
  have ll : l < 2 ^ t_dp (gg_T G) := by omega
  have lw : 2 * l < t_w (gg_T G) := by rw [t_w_e]; omega
  intro v187 e187 _
  rw [j101] at e187
  rw [e187, sw_2k l65]
  refine r_isBlankT (s := m) (by omega) tr4 lw (fun hbl _ => ⟨fun c => absurd c (by decide), fun _ => no3 (fun h => h.2.1 (by rw [Int.toNat_natCast]; exact hbl))⟩) (fun hbl _ => ⟨fun _ => ?_, fun c => absurd rfl c⟩)
  have wsd : w_sd G l := ⟨by omega, by rw [Int.toNat_natCast]; exact hbl, esd⟩
  intro v197 e197 _
  rw [j101] at e197
  rw [e197, sw_2k l65]
  refine r_spot (s := m) (by omega) (by omega) ?_
  intro _
  obtain ⟨o1, o2, o3, o4⟩ := tr4.2.2.2 l lw hbl
  obtain ⟨l1, l2⟩ := hlv l lw hbl
  have ow0 := (tr4.1.2.2 l lw hbl).1
  refine ⟨by omega, by omega, ?_⟩
  intro v207 e207 _
  rw [Int.toNat_natCast, o1] at e207
  refine r_keepContext (s := m) (by omega) gc4.1 st4 (hb mk w_mo_refl (m_L_nd L4)) (fun J8 w8 cx8 r8 g8 => ?_)
  refine r_bContext r8 cx8 (by rw [w_cx_len]; simp) (fun J9 r9 f9 => ?_)
  rw [List.nil_append] at r9
  have L9 := m_f0_L w8.1 f9
  have G9 : m_gp (m_pD us) I J9 := m_gp_trans G4 (m_gp_trans (m_pD_pw g8) (m_pD_5 f9))
  have gc9 := m_gc_up hm hg L9 (w_le_refl _) G9
  have x9 : m_tk J9 mk K fr lm := by
    have := gc9.2.2.2 mi lm hmi
    rw [G9 24 mi (by unfold m_pD m_p2 m_pl; omega), efr, Int.toNat_natCast] at this
    exact this
  have n9 : ∀ f k, (76 ≤ f ∧ f ≤ 107 ∧ f ≠ 87) ∨ (f = 1000 ∧ ((76 ≤ k ∧ k ≤ 108) ∨ k = 111)) → J9 f k = J1 f k := fun f k hf => by
    rw [m_fr_gp f9 f k (by simp; omega), g8 f k (m_pw_n' (by omega)), n4 f k (by omega)]
  intro v227 e227 _
  rw [n9 1000 103 (by omega)] at e227
  rw [← e227] at c103
  refine ⟨by omega, by omega, ?_⟩
  intro v230 e230 _
  obtain ⟨ow, eow⟩ : ∃ ow : Nat, t_ow (gg_T G) l = ow := ⟨(t_ow (gg_T G) l).toNat, by omega⟩
  rw [eow] at e207 l1 l2
  rw [Int.toNat_natCast] at l2
  have me9 := (gc9.1.2.1 ow (by omega)).2
  rw [e207, Int.toNat_natCast] at e230
  rw [← e230] at me9
  intro v233 e233 _
  rw [n9 1000 102 (by omega), c102] at e233
  have ln3 := w_sli_0 (l := lm) (n := lm.length - 3) (by omega)
  have at9 : m_at mk.length (w_d mk) (J9 26) fr (w_sli lm 0 (lm.length - 3)) := by
    have := m_at_sli (i := 0) (j := lm.length - 3) x9.1
    rw [Nat.add_zero] at this
    exact this
  rw [e139, e207]
  refine r_isSigned (L1 := w_sli lm 0 (lm.length - 3)) (L2 := w_cx G) (p := w_pub ow) L9 gc9.1.2.1 c103 me9 at9 (by rw [ln3]; omega) r9 (by rw [w_cx_len]; omega) (by rw [ln3]; exact e233) (fun z10 J10 hz10 L10 r10 f10 => ?_)
  intro _
  have G10 : m_gp (m_pD us) I J10 := m_gp_trans G9 (m_pD_5 f10)
  have n10 : ∀ f k, (76 ≤ f ∧ f ≤ 107 ∧ f ≠ 87) ∨ (f = 1000 ∧ ((76 ≤ k ∧ k ≤ 108) ∨ k = 111)) → J10 f k = J1 f k := fun f k hf => by
    rw [m_fr_gp f10 f k (by simp; omega), n9 f k hf]
  rw [← eow, ← l2] at hz10
  rcases hz10 with ⟨ez, sok⟩ | ⟨ez, sok⟩
  rotate_left
  · refine ⟨fun cc => absurd ez cc, fun _ => no (Or.inr ⟨esd, Or.inr ⟨wsd, Or.inl ⟨?_, rfl, rfl⟩⟩⟩) w_mo_refl hb L10 G10⟩
    rw [Int.toNat_natCast]; exact sok
  refine ⟨fun _ => ?_, fun cc => by omega⟩
  have gc10 := m_gc_up hm hg L10 (w_le_refl _) G10
  intro v243 e243 _
  rw [n10 1000 107 (by omega)] at e243
  rw [← e243] at c107
  have s7 : S (w_mem G) := hS _ (Or.inl rfl)
  refine r_membership (s := m) (by omega) L10 gc10.2.1 (m_bS_tl hb (m_L_nd L10) s7) (fun t11 J11 L11 a11 f11 => ?_)
  intro _
  have mo11 := w_mo_tl (mk := mk) s7
  have b11 := m_bS_mo hb mo11
  have G11 : m_gp (m_pD us) I J11 := m_gp_trans G10 (m_pD_2 (m_f1_gp f11))
  have gc11 := m_gc_up hm hg L11 mo11.1 G11
  have n11 : ∀ f k, (76 ≤ f ∧ f ≤ 107 ∧ f ≠ 87) ∨ (f = 1000 ∧ ((76 ≤ k ∧ k ≤ 108) ∨ k = 111)) → J11 f k = J1 f k := fun f k hf => by
    rw [m_f1_gp f11 f k (by unfold m_p2; omega), n10 f k hf]
  intro v253 e253 _
  rw [n11 1000 106 (by omega), c106] at e253
  have x11 : m_tk J11 (w_tl mk (w_mem G)) K fr lm := by
    have := gc11.2.2.2 mi lm hmi
    rw [G11 24 mi (by unfold m_pD m_p2 m_pl; omega), efr, Int.toNat_natCast] at this
    exact this
  have ln1 := w_sli_0 (l := lm) (n := lm.length - 1) (by omega)
  have at11 : m_at (w_tl mk (w_mem G)).length (w_d (w_tl mk (w_mem G))) (J11 26) fr (w_sli lm 0 (lm.length - 1)) := by
    have := m_at_sli (i := 0) (j := lm.length - 1) x11.1
    rw [Nat.add_zero] at this
    exact this
  have sok' : w_sok (t_ow (gg_T G) (l : Int).toNat) (t_sk (gg_T G) (l : Int).toNat) sg (w_sli lm 0 (lm.length - 3) ++ w_cx G) := by rw [Int.toNat_natCast]; exact sok
  refine r_isMac L11 (w_le_at mo11.1 c107) a11 at11 (by rw [ln1]; omega) (by rw [ln1]; exact e253) (fun ct => ?_) (fun ct => ?_)
  rotate_left
  · intro _
    exact ⟨fun cc => absurd rfl cc, fun _ => no (Or.inr ⟨esd, Or.inr ⟨wsd, Or.inr ⟨sok', Or.inl ⟨ct, rfl, rfl⟩⟩⟩⟩) mo11 b11 L11 G11⟩
  intro _
  refine ⟨fun _ => ?_, fun cc => absurd cc (by decide)⟩
  refine r_dc_chg (fr := fr) (e1 := e1) (cf := cf) (pt := pt) (S := S) hm gc11 hkc hi hlv (m_up_gp hU G11 (fun f k p => by unfold m_pD m_p2 m_pl at p; omega) mo11.1) hcm ⟨by rw [n11 1000 76 (by omega)]; exact ces.1, fun j pl h c hj => by rw [n11 77 j (by omega), n11 81 j (by omega), n11 82 j (by omega)]; obtain ⟨y1, y2, y3⟩ := ces.2 j pl h c hj; exact ⟨y1, w_le_az mo11.1 y2, y3⟩⟩ (by have := p_cm_len hcm; omega) (by rw [n11 1000 101 (by omega)]; exact c101) (by rw [n11 1000 102 (by omega)]; exact c102) (by rw [n11 1000 104 (by omega)]; exact w_le_at mo11.1 c104) ?_ x11 hfr a3 (hx5 lm (List.mem_of_getElem? hmi)) (w_kc_5 hx5 hkc) (fun e => esd (by omega)) ⟨ll, hbl⟩ (hUk in1) (w_le_at mo11.1 hz) b11 (fun hd hok v hv => hS v (Or.inr ⟨ep, l, b, e1, es, pt, sg, cf, tg, hcm, sok', wsd, by rw [Int.toNat_natCast]; exact ⟨hd, hok, hv⟩⟩)) (fun z o J mm hh mo bm LJ aft => ?_)
  · cases pt with
    | none => exact (n11 1000 100 (by omega)).trans cpt
    | some pp =>
      obtain ⟨f, ns⟩ := pp
      obtain ⟨y1, y2, y3⟩ := cpt
      refine ⟨(n11 1000 100 (by omega)).trans y1, (n11 1000 111 (by omega)).trans y2, by rw [n11 1000 95 (by omega)]; exact y3.1, fun j k s t hj => ?_⟩
      rw [n11 96 j (by omega), n11 97 j (by omega), n11 98 j (by omega)]
      obtain ⟨y4, y5, y6⟩ := y3.2 j k s t hj
      exact ⟨w_le_at mo11.1 y4, y5, y6⟩
  · exact q z o J mm (base (Or.inr ⟨esd, Or.inr ⟨wsd, Or.inr ⟨sok', Or.inr ⟨ct, by rw [Int.toNat_natCast]; exact hh⟩⟩⟩⟩) eep) (w_mo_trans mo11 mo) bm LJ (d_aft_tr G11 aft)
end
