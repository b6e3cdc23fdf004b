/-! ===== the reference: deliverWelcome ===== -/
noncomputable section
/-- all that taking a WELCOME may touch, but the member's own state -/
def m_pE (us f k : Nat) : Prop := m_pD us f k ∨ (f = 1000 ∧ 112 ≤ k ∧ k ≤ 120)
/-- what becomes of the member's state -/
def e_aft (I : sr_V) (us m : Nat) (J : sr_V) (mm : List Wt) (L : List (Nat × Wt × Wt)) : Option (w_G × Nat) → Prop
  | none => m_gp (m_pE us) I J
  | some (G', i) => m_st J mm m G' ∧ J 27 m = 1 ∧ J 46 m = 0 ∧ J 47 m = 0 ∧ J 28 m = 0 ∧ m_pk J mm m (L.eraseIdx i) ∧ m_gp (fun f k => m_pE us f k ∨ m_pjn m f k) I J
/-- the PACKAGEs that a member keeps are its own -/
def w_pki (K : Wt → Prop) (m : Nat) (Pt : List (List Wt × Wt × Wt)) : Prop := ∀ e ∈ Pt, ∃ ik f g0, w_isP K e.1 (ik, f, g0) ∧ f.1 = (m : Int) ∧ f.2.1 = w_p5 e.2.2
variable {I I0 J X : sr_V} {nn fr i m mi l us : Nat} {K S : Wt → Prop} {tl mk m0 mm lm : List Wt} {ms : List (List Wt)} {Q : Int → sr_V → Prop} {L : List (Nat × Wt × Wt)} {Pt : List (List Wt × Wt × Wt)} {T : w_T}
theorem p_32_c {l : List Wt} {st : p_S} {z : Int} {s : Nat × Nat} (h : p_32 l st = some (z, s)) : sw_c z := by
  unfold p_32 at h
  rw [Option.bind_eq_some_iff] at h
  obtain ⟨a, _, h⟩ := h
  rw [Option.map_eq_some_iff] at h
  obtain ⟨b, _, h⟩ := h
  rw [Prod.mk.injEq] at h
  rw [← h.1]
  exact sw_w_c _
theorem p_we_nn {ep sd : Int} {b e1 : Nat} {prs : List (Wt × Wt)} {th cf cm sg : Wt} {ns : List p_V} (h : p_we K lm ep b e1 prs th cf sd ns cm sg) : w_nn ns.length := by
  have h5 := h.2.2.2.2.2.2.2.1
  unfold p_tr at h5
  rw [Option.bind_eq_some_iff] at h5
  obtain ⟨⟨⟨a, ns'⟩, i1, e2⟩, h6, h7⟩ := h5
  dsimp only at h7
  split at h7
  · rename_i hw
    have h7 := Option.some.inj h7
    rw [Prod.mk.injEq] at h7
    have h7 : ns' = ns := h7.1
    rw [← h7]
    exact hw
  · cases h7
theorem e_ln {fr e1 n : Nat} (h : e1 + 8 ≤ n) (h2 : fr + n ≤ 362000) : fr + e1 + (n - 1 - e1) ≤ 362000 ∧ ((fr + (n - 1) : Nat) : Int) = ((fr + e1 + (n - 1 - e1) : Nat) : Int) := by omega
theorem m_pE_2 (g : m_gp m_p2 I J) : m_gp (m_pE us) I J := m_gp_sub g (fun f k p => Or.inl (Or.inl p))
theorem m_pE_48 (g : m_gp (fun f k => m_p2 f k ∨ m_pl 48 f k) I J) : m_gp (m_pE us) I J := m_gp_sub g (fun f k p => Or.inl (p.elim Or.inl (fun p => Or.inr (Or.inr (Or.inl p)))))
theorem m_pE_wl (g : m_gp m_pwl I J) : m_gp (m_pE us) I J := m_gp_sub g (fun f k p => by
  unfold m_pwl m_pNs at p
  rcases p with (p | p | p) | p
  · exact Or.inl (Or.inr (Or.inr (Or.inl (Or.inr (by omega)))))
  · unfold m_pE m_pD; omega
  · exact Or.inl (Or.inr (Or.inr (Or.inl (Or.inl (by omega)))))
  · unfold m_pE m_pD; omega)
theorem m_pE_ss (g : m_gp m_pss I J) : m_gp (m_pE us) I J := m_gp_sub g (fun f k p => by
  rcases p with p | p
  · exact Or.inl (Or.inl p)
  · unfold m_prs at p; unfold m_pE m_pD; omega)
theorem m_pE_fp (g : m_fr [] [57, 58, 59, 60, 61, 62, 63, 64, 65, 66, 67, 68, 69, 70, 71, 72] I J) : m_gp (m_pE us) I J := m_gp_sub (m_fr_gp g) (fun f k p => by
  rcases p with ⟨_, c⟩ | ⟨c, d⟩
  · cases c
  · simp only [List.mem_cons, List.mem_nil_iff, or_false] at d
    unfold m_pE m_pD; omega)
theorem e_aft_none (g : m_gp (m_pE us) I J) (h : m_gp (m_pE us) J X) : e_aft I us m X mm L none := m_gp_trans g h
theorem r_deliverWelcome (hm : m < 24) (hw : m_wr I mk nn K tl ms us) (hmi : ms[mi]? = some lm) (htk : ∀ (k : Nat) (p : List Wt), ms[k]? = some p → m_tk I mk K (I 24 k).toNat p) (h01 : I 27 m = 0 ∨ I 27 m = 1) (hP : m_pk I mk m L) (hpt : w_pt ms L Pt) (hpi : w_pki K m Pt) (hx5 : w_x5 ms) (hb : m_bS S mk) (hS : ∀ v, e_wS K Pt lm v → S v)
    (q : ∀ z o J mm, e_weR K (I 27 m = 1) Pt lm z o → w_mo S mk mm → m_bS S mm → m_L J mm nn K tl → e_aft I us m J mm L o → Q z J) : rm_111 mi m I Q := by
  have ml : mi < ms.length := (List.getElem?_eq_some_iff.mp hmi).1
  obtain ⟨a1, a2, a3, a4, a5⟩ := hw.2.2.1.2.2.2.2 mi lm hmi
  have us3 := m_wr_us hw
  have hus : I 1000 23 = us := hw.2.2.2
  have hx := htk mi lm hmi
  have vlm := m_tk_vl hx
  obtain ⟨fr, efr⟩ : ∃ fr : Nat, I 24 mi = fr := ⟨(I 24 mi).toNat, by omega⟩
  unfold rm_111
  refine r_readWelcome vlm hw.2.2.1 hmi hx (fun ep b e1 prs th cf sd ns cm sg J1 hwe wev g1 => ?_) (fun J1 hno g1 => ?_)
  rotate_left
  · intro _
    exact ⟨fun c => absurd rfl c, fun _ => q 1 none J1 mk (Or.inl ⟨hno, rfl, rfl⟩) w_mo_refl hb (m_L_gp hw.1 g1 (fun f k p => by unfold m_pwl m_pNs at p; omega)) (m_pE_wl g1)⟩
  intro _
  refine ⟨fun _ => ⟨by omega, by omega, ?_⟩, fun c => absurd c (by decide)⟩
  rw [efr, Int.toNat_natCast] at hx wev
  have f362 := hx.2.1
  have G1 : m_gp (m_pE us) I J1 := m_pE_wl g1
  have L1 := m_L_gp hw.1 g1 (fun f k p => by unfold m_pwl m_pNs at p; omega)
  have n1 : ∀ f k, (16 ≤ f ∧ f ≤ 30) ∨ (45 ≤ f ∧ f ≤ 54) ∨ (f = 1000 ∧ (k = 22 ∨ k = 23)) → J1 f k = I f k := fun f k hf => g1 f k (by unfold m_pwl m_pNs; omega)
  -- what stays, whatever is touched
  have keep : ∀ {J : sr_V} {mj : List Wt}, m_gp (m_pE us) I J → m_L J mj nn K tl → w_le mk mj → m_wr J mj nn K tl ms us ∧ m_pk J mj m L ∧ (∀ (k : Nat) (p : List Wt), ms[k]? = some p → m_tk J mj K (I 24 k).toNat p) := fun {J mj} g hJ hl => by
    have nJ : ∀ f k, (18 ≤ f ∧ f ≤ 25) ∨ (f = 26 ∧ k < us) ∨ (45 ≤ f ∧ f ≤ 54) ∨ f = 16 ∨ (f = 1000 ∧ (k = 22 ∨ k = 23)) → J f k = I f k := fun f k hf => g f k (fun p => by unfold m_pE m_pD m_p2 m_pl at p; omega)
    refine ⟨⟨hJ, fun k hk => ?_, m_M_up hw.1 hJ hl hw.2.2.1 hus g (fun f k p => by unfold m_pE m_pD m_p2 m_pl at p; omega), by rw [nJ 1000 23 (by omega)]; exact hus⟩, m_pk_gp hP g (fun f k p => by unfold m_pE m_pD m_p2 m_pl at p; omega) hl, fun k p hp => ?_⟩
    · rw [nJ 20 k (by omega), nJ 21 k (by omega)]
      exact ⟨w_le_at hl (hw.2.1 k hk).1, w_le_at hl (hw.2.1 k hk).2⟩
    · obtain ⟨b1, b2, b3, b4, b5⟩ := hw.2.2.1.2.2.2.2 k p hp
      exact m_tk_up (htk k p hp) hJ hl (fun i hi => nJ 26 _ (by omega)) (funext (fun k => nJ 16 k (by omega)))
  obtain ⟨c112, c113, c114, c115, c116, c117, c118, cT, c44, c104, c119, c120⟩ := wev
  obtain ⟨he1, hel, hprs⟩ := p_we_hs hwe
  obtain ⟨T, eT⟩ : ∃ T, T = t_of ns := ⟨_, rfl⟩
  rw [← eT] at cT
  have base : ∀ {z : Int} {o : Option (w_G × Nat)}, ((I 27 m = 1 ∧ z = 2 ∧ o = none) ∨ (¬ I 27 m = 1 ∧ ((e_none Pt prs ∧ z = 13 ∧ o = none) ∨ ∃ k i pr e, e_find Pt prs k i pr e ∧ e_w2 K lm e1 sg th T ep sd i cf cm pr e z o))) → e_weR K (I 27 m = 1) Pt lm z o := fun {z o} h => Or.inr ⟨ep, b, e1, prs, th, cf, sd, ns, cm, sg, hwe, by rw [← eT]; exact h⟩
  intro v90 e90 _
  rw [Int.toNat_natCast, n1 27 m (by omega)] at e90
  refine ⟨fun c => ?_, fun c => q 2 none J1 mk (base (Or.inl ⟨by omega, rfl, rfl⟩)) w_mo_refl hb L1 G1⟩
  have nin : ¬ I 27 m = 1 := by omega
  obtain ⟨w1, P1, tk1⟩ := keep G1 L1 (w_le_refl _)
  have x1 : m_tk J1 mk K fr lm := by
    have := tk1 mi lm hmi
    rw [efr, Int.toNat_natCast] at this
    exact this
  have S13 : ∀ e ∈ Pt, S (w_t 1 [] [] [] e.1) := fun e he => hS _ (Or.inl ⟨e, he, rfl⟩)
  refine r_findPackage (S := S) hm w1 P1 hpt x1 c112 c113 he1 (by omega) (fun k pr hk => ⟨(hprs k pr hk).1, (hprs k pr hk).2.1⟩) hb S13 (fun kq i pr e J2 m2 hfd mo2 b2 L2 d112 g2 => ?_) (fun J2 m2 hno mo2 b2 L2 g2 => ?_)
  rotate_left
  · intro _
    exact ⟨fun c => absurd rfl c, fun _ => q 13 none J2 m2 (base (Or.inr ⟨nin, Or.inl ⟨hno, rfl, rfl⟩⟩)) mo2 b2 L2 (e_aft_none G1 (m_pE_2 g2))⟩
  intro _
  refine ⟨fun _ => ?_, fun c => by omega⟩
  obtain ⟨hk, hpti, hhash, _, _⟩ := id hfd
  obtain ⟨tx, u, v⟩ := e
  have il : i < L.length := by have := (List.getElem?_eq_some_iff.mp hpti).1; have := hpt.1; omega
  have p8 := hP.2.1
  obtain ⟨⟨kk, u', v'⟩, hLi⟩ : ∃ x, L[i]? = some x := ⟨_, List.getElem?_eq_getElem il⟩
  obtain ⟨tx', hkk, hpti'⟩ := hpt.2 i kk u' v' hLi
  have ee : (tx', u', v') = (tx, u, v) := Option.some.inj (hpti'.symm.trans hpti)
  rw [Prod.mk.injEq, Prod.mk.injEq] at ee
  obtain ⟨e1', e2', e3'⟩ := ee
  rw [e1'] at hkk
  rw [e2', e3'] at hLi
  clear e1' e2' e3' hpti'
  obtain ⟨ik, f, g0, hisP, hf1, hf2⟩ := hpi _ (List.mem_of_getElem? hpti)
  have hf2 : f.2.1 = w_p5 v := hf2
  have hisP : w_isP K tx (ik, f, g0) := hisP
  obtain ⟨y1, y2, y3, y4, y5, y6⟩ := hprs kq pr hk
  have G2 : m_gp (m_pE us) I J2 := m_gp_trans G1 (m_gp_sub g2 (fun f k p => p.elim (fun p => Or.inl (Or.inl p)) (fun p => Or.inr (by omega))))
  obtain ⟨w2, P2, tk2⟩ := keep G2 L2 mo2.1
  have x2 : m_tk J2 m2 K fr lm := by
    have := tk2 mi lm hmi
    rw [efr, Int.toNat_natCast] at this
    exact this
  have n2 : ∀ f k, (29 ≤ f ∧ f ≤ 50) ∨ (f = 1000 ∧ ((113 ≤ k ∧ k ≤ 120) ∨ k = 104)) → J2 f k = J1 f k := fun f k hf => g2 f k (by unfold m_p2; omega)
  intro y103 e103
  rw [w_8i hm (by omega)] at e103
  subst e103
  intro v107 e107 _
  rw [d112] at e107
  have ix : sw_w (v107 + 1) = ((fr + (b + 2 * kq + 1) : Nat) : Int) := by rw [e107, sw_w_s (by omega) (by omega)]; omega
  rw [ix]
  clear ix
  refine ⟨by omega, by omega, ?_⟩
  intro v110 e110 _
  rw [Int.toNat_natCast] at e110
  obtain ⟨s1, s2, s3⟩ := m_tk_tm x2 y3 (by rw [y4]; decide)
  rw [← e110] at s1 s2 s3
  have m45 := x2.2.2.1
  intro y113 e113
  rw [sw_w_s (by omega) (by omega)] at e113
  rw [← e113] at s3
  obtain ⟨t1, t2⟩ := w_at_le s3
  refine ⟨by omega, by omega, ?_⟩
  intro v117 e117 _
  refine ⟨by omega, by omega, ?_⟩
  intro v120 e120 _
  obtain ⟨a, jn, sc, L', epr, pa, _, _⟩ := m_seal L2 s3 y4
  rw [← e117] at pa
  obtain ⟨pk1, pk2, pk3⟩ := P2.2.2 i kk u v hLi
  rw [Int.toNat_natCast] at e120
  rw [← e120] at pk2
  refine r_pubS (S := S) b2 L2 pk2 (hS _ (Or.inr ⟨ep, b, e1, prs, th, cf, sd, ns, cm, sg, hwe, Or.inr (Or.inr (Or.inr ⟨_, _, _, _, hfd, Or.inl rfl⟩))⟩)) (fun z3 J3 m3 mo3 b3 L3 at3 f3 => ?_)
  intro _
  have mo13 := w_mo_trans mo2 mo3
  have G3 : m_gp (m_pE us) I J3 := m_gp_trans G2 (m_pE_2 (m_f1_gp f3))
  have W2 : ∀ {z : Int} {o : Option (w_G × Nat)}, ((a ≠ w_p5 u ∧ z = 13 ∧ o = none) ∨ (a = w_p5 u ∧ e_w3 lm e1 sg th T ep f sd i cf cm jn v sc z o)) → e_weR K (I 27 m = 1) Pt lm z o := fun {z o} h => base (Or.inr ⟨nin, Or.inr ⟨kq, i, pr, (tx, u, v), hfd, a, jn, sc, L', ik, f, g0, epr, hisP, h⟩⟩)
  refine ⟨fun c3 => ?_, fun c3 => q 13 none J3 m3 (W2 (Or.inl ⟨fun e => c3 ?_, rfl, rfl⟩)) mo13 b3 L3 G3⟩
  rotate_left
  · rw [e] at pa
    exact w_at_inj (m_L_nd L3) (w_le_at mo3.1 pa) at3
  have ea : a = w_p5 u := by
    rw [c3] at pa
    exact w_at_fun (w_le_at mo3.1 pa) at3
  have W3 : ∀ {z : Int} {o : Option (w_G × Nat)}, e_w3 lm e1 sg th T ep f sd i cf cm jn v sc z o → e_weR K (I 27 m = 1) Pt lm z o := fun {z o} h => W2 (Or.inr ⟨ea, h⟩)
  -- the joiner and the path secret
  obtain ⟨a', jn', sc', L'', epr', pa', pj, ps⟩ := m_seal L3 (w_le_at mo3.1 s3) y4
  obtain ⟨_, _, ej, es', _⟩ := w_t_inj (epr.symm.trans epr')
  rw [← ej] at pj
  rw [← es'] at ps
  clear ej es' epr' pa'
  refine ⟨by omega, by omega, ?_⟩
  intro v130 e130 _
  refine ⟨by omega, by omega, ?_⟩
  intro v136 e136 _
  rw [← e130] at pj
  rw [← e136] at ps
  clear e130 e136 e117 e110 e113 s1 s2 s3 t1 t2 pa
  have n3 : ∀ f k, (29 ≤ f ∧ f ≤ 50) ∨ (f = 1000 ∧ ((113 ≤ k ∧ k ≤ 120) ∨ k = 104)) → J3 f k = J1 f k := fun f k hf => by rw [m_f1_gp f3 f k (by unfold m_p2; omega), n2 f k hf]
  have T3 : m_tr J3 m3 48 T := m_tr_le (m_tr_eq cT (n3 31 48 (by omega)) (fun f x h1 h2 h3 => n3 f _ (by omega))) mo13.1
  have h4 := T3.1.1
  have d16 := t_d_16 h4
  have w31 := t_w_4 h4
  obtain ⟨tp1, tp2, tp3⟩ := t_top_h h4
  refine r_top (s := 48) (by decide) T3.2.1 h4 ?_
  intro _
  have etp : t_top T = 2 ^ t_dp T - 1 := rfl
  rw [← etp]
  have SW : ∀ {v : Wt}, _ → S v := fun {v} h => hS v (Or.inr ⟨ep, b, e1, prs, th, cf, sd, ns, cm, sg, hwe, h⟩)
  rw [← eT] at SW
  have S1 : ∀ y ∈ w_ordk (w_h (t_top T)) (t_top T) (w_h (t_top T) + 1) 0, S (w_th T 0 y) := fun y hy => SW (Or.inl ⟨y, hy, rfl⟩)
  have hmk : w_mo S m3 (w_mkh T 0 (t_top T) m3) := w_mo_tls _ (fun w hw => by
    obtain ⟨y, hy, rfl⟩ := List.mem_map.mp hw
    exact S1 y hy)
  refine r_treeHash (s := 48) (x := t_top T) (by decide) tp2 tp3 L3 T3 (by unfold sw_c; omega) (b3 _ hmk (w_tls_nd _ (m_L_nd L3))) (fun t4 J4 L4 at4 f4 => ?_)
  intro _
  obtain ⟨m4, em4⟩ : ∃ m4, m4 = w_mkh T 0 (t_top T) m3 := ⟨_, rfl⟩
  rw [← em4] at hmk L4 at4
  clear em4
  have b4 := m_bS_mo b3 hmk
  have mo14 := w_mo_trans mo13 hmk
  have G4 : m_gp (m_pE us) I J4 := m_gp_trans G3 (m_pE_2 (m_f2_gp f4))
  have n4 : ∀ f k, (29 ≤ f ∧ f ≤ 50) ∨ (f = 1000 ∧ ((113 ≤ k ∧ k ≤ 120) ∨ k = 104)) → J4 f k = J1 f k := fun f k hf => by rw [m_f2_gp f4 f k (by unfold m_p2; omega), n3 f k hf]
  intro v156 e156 _
  rw [n4 1000 116 (by omega)] at e156
  rw [← e156] at c116
  refine ⟨fun c4 => ?_, fun c4 => q 14 none J4 m4 (W3 (Or.inl ⟨fun e => c4 ?_, rfl, rfl⟩)) mo14 b4 L4 G4⟩
  rotate_left
  · rw [e] at at4
    exact w_at_inj (m_L_nd L4) at4 (w_le_at mo14.1 c116)
  have eth : w_th T 0 (t_top T) = th := by
    rw [c4] at at4
    exact w_at_fun at4 (w_le_at mo14.1 c116)
  refine ⟨by omega, by omega, ?_⟩
  intro v159 e159 _
  obtain ⟨w4, P4, tk4⟩ := keep G4 L4 mo14.1
  rw [Int.toNat_natCast, (P4.2.2 i kk u v hLi).1] at e159
  rw [e159]
  have T4 : m_tr J4 m4 48 T := m_tr_le (m_tr_eq cT (n4 31 48 (by omega)) (fun f x h1 h2 h3 => n4 f _ (by omega))) mo14.1
  have e24 : J4 24 kk = I 24 kk := G4 24 kk (by unfold m_pE m_pD m_p2 m_pl; omega)
  -- from here on the leaf is found or not
  have go : ∀ (z167 : Int) (J5 : sr_V), ((∃ l : Nat, z167 = l ∧ t_fl1 T f l) ∨ (z167 = -1 ∧ ∀ l, ¬ t_fl1 T f l)) → m_fr [] [57, 58, 59, 60, 61, 62, 63, 64, 65, 66, 67, 68, 69, 70, 71, 72] J4 J5 → rm_237 48 J5 (fun z177 I173 => sw_c z177 → (z177 = 0 → Q 15 I173) ∧ (z177 ≠ 0 → rm_238 I173 (fun z184 I180 => sw_c z184 → (z184 = 0 → Q 15 I180) ∧ (z184 ≠ 0 → (z167 ≠ ((-1)) → ∀ v186, v186 = I180 1000 118 → sw_c v186 → rm_216 48 I180 (fun z194 I190 => sw_c z194 → (z194 ≤ v186 → Q 4 I190) ∧ (v186 < z194 → ∀ v196, v196 = I190 1000 118 → sw_c v196 → rm_217 48 (sw_w (2 * v196)) I190 (fun z204 I200 => sw_c z204 → (z204 = 0 → ∀ v206, v206 = I200 1000 118 → sw_c v206 → rm_67 48 (sw_w (2 * v206)) I200 (fun z214 I210 => sw_c z214 → 0 ≤ z214 ∧ z214 < 1519 ∧ ∀ v216, v216 = I210 40 z214.toNat → sw_c v216 → ∀ I223, I223 = su I210 1000 56 0 → ∀ v227, v227 = I223 1000 120 → sw_c v227 → 0 ≤ v216 ∧ v216 < 24 ∧ ∀ v230, v230 = I223 21 v216.toNat → sw_c v230 → ∀ v233, v233 = I223 1000 114 → sw_c v233 → ∀ v236, v236 = I223 1000 119 → sw_c v236 → rm_218 v227 v216 v230 v233 v236 I223 (fun z244 I240 => sw_c z244 → (z244 ≠ 0 → e_t5 Q m i z167 ((8 * m + i : Nat) : Int) v130 v136 I240) ∧ (z244 = 0 → Q 4 I240)))) ∧ (z204 ≠ 0 → Q 4 I200))))) ∧ (z167 = ((-1)) → Q 15 I180))))) := by
    intro z167 J5 hz f5
    have g5 := m_fr_gp f5
    have L5 := m_L_gp L4 g5 (fun f k p => by
      rcases p with ⟨_, c⟩ | ⟨c, d⟩
      · cases c
      · simp only [List.mem_cons, List.mem_nil_iff, or_false] at d; omega)
    have G5 : m_gp (m_pE us) I J5 := m_gp_trans G4 (m_pE_fp f5)
    have n5 : ∀ f k, (29 ≤ f ∧ f ≤ 50) ∨ (f = 1000 ∧ ((113 ≤ k ∧ k ≤ 120) ∨ k = 104)) → J5 f k = J1 f k := fun f k hf => by
      rw [g5 f k (fun p => by
        rcases p with ⟨_, c⟩ | ⟨c, d⟩
        · cases c
        · simp only [List.mem_cons, List.mem_nil_iff, or_false] at d; omega), n4 f k hf]
    have trJ : ∀ {J : sr_V} {mj : List Wt}, (∀ f k, (29 ≤ f ∧ f ≤ 50) ∨ (f = 1000 ∧ ((113 ≤ k ∧ k ≤ 120) ∨ k = 104)) → J f k = J1 f k) → w_le mk mj → m_tr J mj 48 T := fun {J mj} n hl => m_tr_le (m_tr_eq cT (n 31 48 (by omega)) (fun f x h1 h2 h3 => n f _ (by omega))) hl
    have T5 := trJ n5 mo14.1
    refine r_isSound (s := 48) (S := S) (by decide) L5 T5 b4 (fun v hv => SW (Or.inr (Or.inl ⟨eth, hv⟩))) (fun z6 J6 m6 hz6 mo6 b6 L6 g6 => ?_)
    intro _
    have mo16 := w_mo_trans mo14 mo6
    have G6 : m_gp (m_pE us) I J6 := m_gp_trans G5 (m_pE_ss g6)
    have n6 : ∀ f k, (29 ≤ f ∧ f ≤ 50) ∨ (f = 1000 ∧ ((113 ≤ k ∧ k ≤ 120) ∨ k = 104)) → J6 f k = J1 f k := fun f k hf => by rw [g6 f k (by unfold m_pss m_p2 m_prs; omega), n5 f k hf]
    refine ⟨fun c => q 15 none J6 m6 (W3 (Or.inr ⟨eth, Or.inl ⟨fun h => ?_, rfl, rfl⟩⟩)) mo16 b6 L6 G6, fun c => ?_⟩
    · rcases hz6 with ⟨ez, _⟩ | ⟨_, hn⟩
      · omega
      · exact hn h.1
    have snd : t_snd T := by
      rcases hz6 with ⟨_, h⟩ | ⟨ez, _⟩
      · exact h
      · exact absurd ez c
    have T6 := trJ n6 mo16.1
    obtain ⟨w6, P6, tk6⟩ := keep G6 L6 mo16.1
    refine r_isTreeSigned (S := S) L6 T6 w6.2.1 b6 (fun l hl hj => SW (Or.inr (Or.inr (Or.inl ⟨eth, l, hl, hj, rfl⟩)))) (fun z7 J7 m7 hz7 mo7 b7 L7 g7 => ?_)
    intro _
    have mo17 := w_mo_trans mo16 mo7
    have G7 : m_gp (m_pE us) I J7 := m_gp_trans G6 (m_pE_2 g7)
    have n7 : ∀ f k, (29 ≤ f ∧ f ≤ 50) ∨ (f = 1000 ∧ ((113 ≤ k ∧ k ≤ 120) ∨ k = 104)) → J7 f k = J1 f k := fun f k hf => by rw [g7 f k (by unfold m_p2; omega), n6 f k hf]
    refine ⟨fun c7 => q 15 none J7 m7 (W3 (Or.inr ⟨eth, Or.inl ⟨fun h => ?_, rfl, rfl⟩⟩)) mo17 b7 L7 G7, fun c7 => ?_⟩
    · rcases hz7 with ⟨ez, _⟩ | ⟨_, hn⟩
      · omega
      · exact hn h.2.1
    have sgn : t_sgn T := by
      rcases hz7 with ⟨_, h⟩ | ⟨ez, _⟩
      · exact h
      · exact absurd ez c7
    refine ⟨fun c8 => ?_, fun c8 => q 15 none J7 m7 (W3 (Or.inr ⟨eth, Or.inl ⟨fun h => ?_, rfl, rfl⟩⟩)) mo17 b7 L7 G7⟩
    rotate_left
    · rcases hz with ⟨l, el, _⟩ | ⟨_, hn⟩
      · omega
      · obtain ⟨_, _, l, hl⟩ := h
        exact hn l hl
    obtain ⟨l, el, hfl⟩ : ∃ l : Nat, z167 = l ∧ t_fl1 T f l := by
      rcases hz with h | ⟨ez, _⟩
      · exact h
      · exact absurd ez c8
    subst el
    have W4 : ∀ {z : Int} {o : Option (w_G × Nat)}, e_w4 lm e1 sg T ep l sd i cf cm jn v sc z o → e_weR K (I 27 m = 1) Pt lm z o := fun {z o} h => W3 (Or.inr ⟨eth, Or.inr ⟨snd, sgn, l, hfl, h⟩⟩)
    have T7 := trJ n7 mo17.1
    obtain ⟨w7, P7, tk7⟩ := keep G7 L7 mo17.1
    have hsd := p_16_sl vlm (Nat.le_refl _) hwe.2.2.2.2.2.2.1
    obtain ⟨sn, esn⟩ : ∃ sn : Nat, sd = sn := ⟨sd.toNat, by have := hsd.2.1; omega⟩
    have sn65 : sn < 65536 := by have := hsd.2.2.1; omega
    have j118 : J7 1000 118 = (sn : Nat) := by rw [n7 1000 118 (by omega), c118, esn]
    have no4 : ∀ {J : sr_V} {mj : List Wt}, ¬ (h_hl T sd ∧ w_sok (t_ow T sd.toNat) (t_sk T sd.toNat) sg (w_sli lm e1 (lm.length - 1))) → w_mo S mk mj → m_bS S mj → m_L J mj nn K tl → m_gp (m_pE us) I J → Q 4 J := fun {J mj} h a1 a2 a3 a4 => q 4 none J mj (W4 (Or.inl ⟨h, rfl, rfl⟩)) a1 a2 a3 a4
    intro v186 e186 _
    rw [j118] at e186
    refine r_leafCount (s := 48) (by decide) T7.2.1 h4 ?_
    intro _
    refine ⟨fun c9 => no4 (fun h => by have := h.1.2.1; omega) mo17 b7 L7 G7, fun c9 => ?_⟩
    have snl : sn < 2 ^ t_dp T := by omega
    have snw := (t_lf_w T sn).mpr snl
    intro v196 e196 _
    rw [j118] at e196
    rw [e196, sw_2k sn65]
    refine r_isBlankT (s := 48) (by decide) T7 snw (fun hbl => ?_) (fun hbl => ?_)
    · intro _
      exact ⟨fun c => absurd c (by decide), fun _ => no4 (fun h => h.1.2.2 (by rw [esn, Int.toNat_natCast]; exact hbl)) mo17 b7 L7 G7⟩
    intro _
    refine ⟨fun _ => ?_, fun c => absurd rfl c⟩
    have hhl : h_hl T sd := ⟨by omega, by omega, by rw [esn, Int.toNat_natCast]; exact hbl⟩
    intro v206 e206 _
    rw [j118] at e206
    rw [e206, sw_2k sn65]
    refine r_spot (s := 48) (by decide) (by omega) ?_
    intro _
    refine ⟨by omega, by omega, ?_⟩
    obtain ⟨o1, o2, o3, o4⟩ := T7.2.2.2 sn snw hbl
    obtain ⟨l1, l2⟩ := t_lv_sgn sgn sn snw hbl
    have ow0 := (T7.1.2.2 sn snw hbl).1
    obtain ⟨ow, eow⟩ : ∃ ow : Nat, t_ow T sn = ow := ⟨(t_ow T sn).toNat, by omega⟩
    intro v216 e216 _
    rw [Int.toNat_natCast, o1, eow] at e216
    rw [eow] at l1 l2
    rw [Int.toNat_natCast] at l2
    intro I223 e223
    obtain ⟨L223, r223, f223⟩ := r_rs0 L7 e223
    have g223 := m_fr_gp f223
    have n223 : ∀ f k, (16 ≤ f ∧ f ≤ 50) ∨ (f = 1000 ∧ ((113 ≤ k ∧ k ≤ 120) ∨ k = 104)) → I223 f k = J7 f k := fun f k hf => g223 f k (fun p => by
      simp only [List.mem_cons, List.mem_nil_iff, or_false] at p
      omega)
    intro v227 e227 _
    rw [n223 1000 120 (by omega), n7 1000 120 (by omega)] at e227
    rw [← e227] at c120
    rw [e216]
    refine ⟨by omega, by omega, ?_⟩
    intro v230 e230 _
    rw [Int.toNat_natCast, n223 21 _ (by omega)] at e230
    have me := (w7.2.1 ow (by omega)).2
    rw [← e230] at me
    intro v233 e233 _ v236 e236 _
    rw [n223 1000 114 (by omega), n7 1000 114 (by omega), c114] at e233
    rw [n223 1000 119 (by omega), n7 1000 119 (by omega), c119] at e236
    have x7 : m_tk J7 m7 K fr lm := by
      have := tk7 mi lm hmi
      rw [efr, Int.toNat_natCast] at this
      exact this
    have atx : m_at m7.length (w_d m7) (I223 26) (fr + e1) (w_sli lm e1 (lm.length - 1)) := by
      have e26 : I223 26 = J7 26 := funext (fun k => n223 26 k (by omega))
      rw [e26]
      exact m_at_sli (i := e1) (j := lm.length - 1) x7.1
    have ln : (w_sli lm e1 (lm.length - 1)).length = lm.length - 1 - e1 := w_sli_len (by omega)
    have me223 : m_me I223 m7 := fun k hk => by rw [n223 20 k (by omega), n223 21 k (by omega)]; exact w7.2.1 k hk
    rw [e233]
    refine r_isSigned (L1 := w_sli lm e1 (lm.length - 1)) (L2 := []) (p := w_pub ow) (g := sg) L223 me223 (w_le_at mo17.1 c120) me atx (by rw [ln]; exact (e_ln hel f362).1) r223 (by simp) (by rw [ln, e236]; exact (e_ln hel f362).2) (fun z8 J8 hz8 L8 r8 f8 => ?_)
    intro _
    rw [List.append_nil, ← eow, ← l2] at hz8
    have sk : ∀ {B : Prop}, (B ↔ w_sok (t_ow T sn) (t_sk T sn) sg (w_sli lm e1 (lm.length - 1))) → (B ↔ w_sok (t_ow T sd.toNat) (t_sk T sd.toNat) sg (w_sli lm e1 (lm.length - 1))) := fun {B} h => by rw [esn, Int.toNat_natCast]; exact h
    have g8 := m_fr_gp f8
    have n8 : ∀ f k, (16 ≤ f ∧ f ≤ 50) ∨ (f = 1000 ∧ ((113 ≤ k ∧ k ≤ 120) ∨ k = 104)) → J8 f k = J7 f k := fun f k hf => by
      rw [g8 f k (fun p => by
        simp only [List.mem_cons, List.mem_nil_iff, or_false] at p
        omega), n223 f k hf]
    have G8 : m_gp (m_pE us) I J8 := m_gp_trans G7 (m_gp_trans (m_gp_sub (m_pD_5 (us := us) f223) (fun f k p => Or.inl p)) (m_gp_sub (m_pD_5 (us := us) f8) (fun f k p => Or.inl p)))
    refine ⟨fun c => ?_, fun c => no4 (fun h => ?_) mo17 b7 L8 G8⟩
    rotate_left
    · rcases hz8 with ⟨ez, _⟩ | ⟨_, hn⟩
      · omega
      · exact hn ((sk Iff.rfl).mpr h.2)
    have sok : w_sok (t_ow T sd.toNat) (t_sk T sd.toNat) sg (w_sli lm e1 (lm.length - 1)) := by
      rcases hz8 with ⟨_, h⟩ | ⟨ez, _⟩
      · exact (sk Iff.rfl).mp h
      · exact absurd ez c
    have W5 : ∀ {z : Int} {o : Option (w_G × Nat)}, e_w5 T ep l sn i cf cm jn v sc z o → e_weR K (I 27 m = 1) Pt lm z o := fun {z o} h => W4 (Or.inr ⟨⟨hhl, sok⟩, by rw [esn, Int.toNat_natCast]; exact h⟩)
    have n81 : ∀ f k, (29 ≤ f ∧ f ≤ 50) ∨ (f = 1000 ∧ ((113 ≤ k ∧ k ≤ 120) ∨ k = 104)) → J8 f k = J1 f k := fun f k hf => by rw [n8 f k (by omega), n7 f k hf]
    have T8 := trJ n81 mo17.1
    obtain ⟨w8, P8, _⟩ := keep G8 L8 mo17.1
    have tpk : t_pk T := by rw [eT]; exact p_we_5 (hx5 lm (List.mem_of_getElem? hmi)) hwe
    have sep : sw_c ep := p_32_c hwe.2.2.2.1
    have ok := (e_iv (ep := ep) (sd := sn) (cf := cf) (cm := cm) (jn := jn) (v := v) (sc := sc) (m := m) T8.1 tpk snd sgn hfl hf1 hf2 sep).1
    have S6 : ∀ w, (w = e_es T ep cf jn ∨ w = w_dr (e_es T ep cf jn) 2 ∨ w = w_cfm (e_es T ep cf jn) cf ∨ w = w_int cf (w_cfm (e_es T ep cf jn) cf) ∨ e_clS T l sc (e_h T l sd.toNat) w) → S w := fun w hw => SW (Or.inr (Or.inr (Or.inr ⟨kq, i, pr, (tx, u, v), hfd, Or.inr ⟨a, jn, sc, L', ik, f, g0, l, epr, hisP, eth, snd, hfl, hw⟩⟩)))
    have ll := hfl.1.1
    have mo37 : w_mo S m3 m7 := w_mo_trans hmk (w_mo_trans mo6 mo7)
    refine r_we_t5 (T := T) (S := S) (ep := ep) (cf := cf) (cm := cm) (jn := jn) (sc := sc) (sd := sn) (u := u) (v := v) (kk := kk) hm L8 T8 (by rw [n81 1000 115 (by omega)]; exact c115) sep (by rw [n81 1000 117 (by omega)]; exact w_le_az mo17.1 c117) (w_le_at mo37.1 pj) (w_le_az mo37.1 ps) (by rw [n81 1000 104 (by omega)]; exact w_le_at mo17.1 c104) (by rw [n81 1000 118 (by omega), c118, esn]) snl (fun x hx => ?_) P8 hLi ll b7 S1 (S6 _ (Or.inl rfl)) (S6 _ (Or.inr (Or.inl rfl))) (S6 _ (Or.inr (Or.inr (Or.inl rfl)))) (S6 _ (Or.inr (Or.inr (Or.inr (Or.inl rfl))))) (fun w hw => S6 w (Or.inr (Or.inr (Or.inr (Or.inr (by rw [esn, Int.toNat_natCast]; exact hw)))))) ok (fun J mm b1' b2' b3' b4' b5' => ?_) (fun J mm b1' b2' b3' b4' b5' b6' b7' => ?_) (fun J mm b1' b2' b3' b4' b5' b6' b7' b8' b9' b10' b11' b12' => ?_)
    · have tw : t_w T = ns.length := by rw [eT]; exact (t_of_w (p_we_nn hwe)).1
      rw [n81 44 _ (by omega)]
      exact c44 x (by omega)
    · exact q 12 none J mm (W5 (Or.inl ⟨b1', rfl, rfl⟩)) (w_mo_trans mo17 b2') b3' b4' (e_aft_none G8 (m_pE_48 b5'))
    · exact q 11 none J mm (W5 (Or.inr ⟨b1', Or.inl ⟨b2', b3', rfl, rfl⟩⟩)) (w_mo_trans mo17 b4') b5' b6' (e_aft_none G8 (m_pE_48 b7'))
    · exact q 0 (some (_, i)) J mm (W5 (Or.inr ⟨b1', Or.inr ⟨b2', rfl, rfl⟩⟩)) (w_mo_trans mo17 b3') b4' b5' ⟨b6', b7', b8', b9', b10', b11', m_gp_trans (m_gp_sub G8 (fun f k p => Or.inl p)) (m_gp_sub b12' (fun f k p => Or.inr p))⟩
  refine r_findLeafOf (f := f) (ik := ik) (g0 := g0) L4 w4.2.2.1 hkk (by rw [e24]; exact tk4 kk tx hkk) hisP T4 (fun l J5 h1 _ f5 => ?_) (fun J5 h1 f5 => ?_)
  · intro _
    exact go l J5 (Or.inl ⟨l, rfl, h1⟩) f5
  · intro _
    exact go (-1) J5 (Or.inr ⟨rfl, h1⟩) f5
end
