/-! ===== the reference: deliver of a PACKAGE and of a PROPOSAL, what is touched ===== -/
noncomputable section
section
variable {I J : sr_V} {nn us m : Nat} {K : Wt → Prop} {tl mk : List Wt} {ms : List (List Wt)} {G : w_G}
/-- what reading touches -/
def m_pj (f k : Nat) : Prop := f = 55 ∨ (f = 1000 ∧ (k = 56 ∨ (57 ≤ k ∧ k ≤ 75)))
/-- what taking a PROPOSAL touches -/
def m_pdp (m us f k : Nat) : Prop := m_pw us f k ∨ m_kq m f k ∨ m_pj f k
theorem m_pj_dp {f k : Nat} (h : m_pj f k) : m_pdp m us f k := Or.inr (Or.inr h)
theorem m_pj_pi (g : m_gp m_pj I J) : m_gp m_pi I J := m_gp_sub g (fun f k p => by unfold m_pj at p; unfold m_pi; omega)
theorem m_F1_pj (f : m_fr [] m_F1 I J) : m_gp m_pj I J := m_gp_sub (m_fr_gp f) (fun f k p => by
  simp only [m_F1, List.mem_cons, List.not_mem_nil, or_false, and_false, false_or] at p
  unfold m_pj
  exact Or.inr ⟨p.1, by omega⟩)
theorem m_pj_0 (f : m_fr [55] [56] I J) : m_gp m_pj I J := m_gp_sub (m_fr_gp f) (fun f k p => by
  simp only [List.mem_cons, List.not_mem_nil, or_false] at p
  unfold m_pj
  rcases p with p | p <;> omega)
theorem m_wr_pj (h : m_wr I mk nn K tl ms us) (hJ : m_L J mk nn K tl) (f : m_gp m_pj I J) : m_wr J mk nn K tl ms us := m_wr_pi h hJ (m_pj_pi f)
theorem m_st_pj {s : Nat} (h : m_st I mk s G) (f : m_gp m_pj I J) : m_st J mk s G := m_st_pi h (m_pj_pi f)
end
section
variable {I J : sr_V} {nn fr us : Nat} {K K' : Wt → Prop} {tl tl' mk mm l L1 L2 : List Wt} {ms : List (List Wt)} {x y : Int} {Q : Int → sr_V → Prop} {R : sr_V → Prop} {G : w_G} {P : Nat → Nat → Prop}
theorem r_deliverPackage2 {mi : Nat} (hL : m_L I mk nn K' tl) (hMe : m_me I mk) (hM : m_M I (w_d mk) ms) (hmi : ms[mi]? = some l) (hx : m_tk I mk K (I 24 mi).toNat l) (q : ∀ z J, w_dkR K l z → m_L J mk nn K' tl → m_gp m_pj I J → Q z J) : rm_108 mi I Q := by
  have up : ∀ {A B : sr_V}, m_fr [] [57, 58, 59, 60, 61, 62, 63, 64, 65, 66, 67, 68, 69, 70, 71, 72] A B → m_gp m_pj A B := fun {A B} f => m_gp_sub (m_fr_gp f) (fun f k p => by
    simp only [List.mem_cons, List.not_mem_nil, or_false, and_false, false_or] at p
    unfold m_pj
    exact Or.inr ⟨p.1, by omega⟩)
  have up2 : ∀ {A B : sr_V}, m_fr [55] [56] A B → m_gp m_pj A B := fun {A B} f => m_gp_sub (m_fr_gp f) (fun f k p => by
    simp only [List.mem_cons, List.not_mem_nil, or_false] at p
    unfold m_pj
    rcases p with p | p <;> omega)
  have nd := m_L_nd hL
  unfold rm_108
  refine r_isPackage hM hmi hx (fun v J hv hq fJ _ => ⟨fun _ => ?_, fun c => absurd c (by decide)⟩) (fun J hn fJ _ => ⟨fun c => absurd rfl c, fun _ => q 1 J (Or.inl ⟨hn, rfl⟩) (m_L_fr hL fJ (by simp) (by decide) (by decide) (by decide) (by decide)) (up fJ)⟩)
  have LJ : m_L J mk nn K' tl := m_L_fr hL fJ (by simp) (by decide) (by decide) (by decide) (by decide)
  refine r_isPackageSigned (e := l.length) (i := 0) LJ (m_me_gp hMe (m_fr_gp fJ) (fun f k h => by simp at h; omega)) (m_tk_f hx fJ) (Nat.le_refl _) hv.2 hq (fun z X hz LX rX fX _ => ⟨fun c => ?_, fun c => ?_⟩)
  · refine q 4 X (Or.inr ⟨v, hv, Or.inr ⟨fun h => ?_, rfl⟩⟩) LX (m_gp_trans (up fJ) (up2 fX))
    rcases hz with ⟨ez, _⟩ | ⟨_, hn⟩
    · omega
    · exact hn h.1
  · have hok : w_pks v := by
      rcases hz with ⟨_, h⟩ | ⟨ez, _⟩
      · exact h
      · exact absurd ez c
    have hqX := m_pq_fr hq fX (by simp)
    obtain ⟨ik, ⟨m, k, p, so, ph, g0⟩, g⟩ := v
    obtain ⟨⟨o68, _⟩, ⟨_, o62, _⟩, _⟩ := hqX
    intro v15 e15 _ v18 e18 _
    refine ⟨fun c2 => q 4 X (Or.inr ⟨_, hv, Or.inr ⟨fun h => h.2 ?_, rfl⟩⟩) LX (m_gp_trans (up fJ) (up2 fX)), fun c2 => q 0 X (Or.inr ⟨_, hv, Or.inl ⟨⟨hok, fun h => c2 ?_⟩, rfl⟩⟩) LX (m_gp_trans (up fJ) (up2 fX))⟩
    · rw [e15, e18] at c2
      rw [c2] at o62
      have u1 := w_at_d o62
      rw [w_at_d o68] at u1
      exact u1
    · have h : ik = k := h
      rw [h] at o68
      rw [e15, e18]
      exact w_at_inj nd o62 o68
end
section
variable {I J : sr_V} {nn fr us mi m : Nat} {K K' : Wt → Prop} {tl tl' mk mm l : List Wt} {ms : List (List Wt)} {x y ep lf : Int} {Q : Int → sr_V → Prop} {R : sr_V → Prop} {G : w_G} {P : Nat → Nat → Prop} {L : List (Wt × Nat)} {v : p_C} {sg tg : Wt}
theorem r_deliverProposal2 (hm : m < 24) (hw : m_wr I mk nn K tl ms us) (bdm : m_bd mk) (hmi : ms[mi]? = some l) (hx : m_tk I mk K (I 24 mi).toNat l) (h01 : I 27 m = 0 ∨ I 27 m = 1) (hst : I 27 m = 1 → m_st I mk m G ∧ gg_lv G) (hP : m_pp I mk ms m L) (hL3 : L.length < 340) (bd : I 27 m = 1 → m_bd (w_tl (w_tl mk (w_mem G)) (w_hs l))) (q : ∀ z mm J, w_dpR K (I 27 m = 1) G l z → (mm = mk ∨ mm = w_tl mk (w_mem G) ∨ (z = 0 ∧ mm = w_tl (w_tl mk (w_mem G)) (w_hs l))) → m_L J mm nn K tl → m_pp J mm ms m (if z = 0 then w_kp L (w_hs l) mi else L) → m_gp (m_pdp m us) I J → Q z J) : rm_109 mi m I Q := by
  obtain ⟨m1, m2, m3, m4, m5⟩ := hw.2.2.1
  obtain ⟨a1, a2, a3, a4, a5⟩ := m5 mi l hmi
  have mlt : mi < ms.length := (List.getElem?_eq_some_iff.mp hmi).1
  have hu := hw.2.2.2
  have us3 := m_wr_us hw
  obtain ⟨fr, efr⟩ : ∃ fr : Nat, I 24 mi = fr := ⟨(I 24 mi).toNat, by omega⟩
  rw [efr, Int.toNat_natCast] at hx
  have hb := hx.2.1
  have hfr : fr + l.length ≤ us := by omega
  unfold rm_109
  refine ⟨by omega, by omega, ?_⟩
  intro v42 e42 _
  refine ⟨by omega, by omega, ?_⟩
  intro v48 e48 _
  rw [Int.toNat_natCast, efr] at e42
  rw [Int.toNat_natCast, a2] at e48
  rw [e42, e48, sw_w_s (by omega) (by omega)]
  refine r_beginAt (i := 0) (e := l.length) (l := l) (fr := fr) (by omega) (by omega) (by omega) (Nat.le_refl _) (fun J1 r1 f1 => ?_)
  have F1 := m_F1_3 f1
  refine r_u8 (m_tk_f hx F1) r1 (fun z2 J2 r2 v2 _ _ f2 _ => ?_)
  have F2 := m_fr_trans F1 (m_F1_3 f2)
  refine r_u32 (m_tk_f hx F2) r2 (fun z3 J3 r3 v3 _ f3 _ => ?_)
  have F3 := m_fr_trans F2 (m_F1_3 f3)
  refine r_u16 (m_tk_f hx F3) r3 (fun z4 J4 r4 v4 p4 q4 f4 _ => ?_)
  have F4 := m_fr_trans F3 (m_F1_3 f4)
  intro v85 e85 _
  refine r_readContent (m_tk_f hx F4) r4 (fun J5 r5 h74 v5 f5 => ?_)
  have F5 := m_fr_trans F4 f5
  intro v98 e98 _
  refine r_readTerm (so := 7) (by decide) (m_tk_f hx F5) r5 (fun z6 J6 r6 v6 _ f6 _ => ?_)
  have F6 := m_fr_trans F5 (m_F1_3 f6)
  intro v114 e114 _
  refine r_readTerm (so := 2) (by decide) (m_tk_f hx F6) r6 (fun z7 J7 r7 v7 _ f7 _ => ?_)
  have F7 := m_fr_trans F6 (m_F1_3 f7)
  have gp7 := m_F1_pj F7
  have L7 := m_F1_L hw.1 F7
  have w7 := m_wr_pj hw L7 gp7
  have gq7 : ∀ f k, (17 ≤ f ∧ f ≤ 54) → J7 f k = I f k := fun f k h => gp7 f k (by unfold m_pj; omega)
  have piq : ∀ {A B : sr_V}, m_gp m_pj A B → m_gp (fun f k => ¬ (30 ≤ f ∧ f ≤ 54)) A B := fun {A B} g f k h => g f k (by have := Decidable.byContradiction h; unfold m_pj; omega)
  -- a refusal without new terms
  have no : ∀ {X : sr_V} (z : Int), z ≠ 0 → w_dpR K (I 27 m = 1) G l z → m_L X mk nn K tl → m_gp (m_pdp m us) I X → m_gp (fun f k => ¬ (30 ≤ f ∧ f ≤ 54)) I X → Q z X := by
    intro X z hz hR LX gX gX2
    refine q z mk X hR (Or.inl rfl) LX ?_ gX
    rw [if_neg hz]
    exact m_pp_gp (m := m) hP gX2 (fun f k h c => h (by unfold m_kq at c; omega)) (w_le_refl _) (fun _ _ h => h)
  have gv7 : m_gp (m_pdp m us) I J7 := m_gp_sub gp7 (fun f k p => m_pj_dp p)
  obtain ⟨S, eS⟩ : ∃ S, p_to (p_t K 2 l (p_to (p_t K 7 l (p_to (p_ct K l (p_to (p_16 l (p_to (p_32 l (p_to (p_8 l (some (0, l.length))))))))))))) = S := ⟨_, rfl⟩
  rw [eS] at r7
  intro v130 e130 _
  cases S with
  | none =>
    have : J7 1000 59 = 1 := r7.2.2.2.2
    refine ⟨fun _ => no 1 (by decide) (Or.inl ⟨fun ep lf v sg tg h => ?_, rfl⟩) L7 gv7 (piq gp7), fun c => by omega⟩
    rw [p_pr_S h] at eS
    exact absurd eS (by simp)
  | some s7 =>
  obtain ⟨i7, e7⟩ := s7
  obtain ⟨b1, b2, b3, b4, b5⟩ := r7
  have b1 : J7 1000 57 = ((fr + i7 : Nat) : Int) := b1
  have b2 : J7 1000 58 = ((fr + e7 : Nat) : Int) := b2
  have b3 : J7 1000 59 = 0 := b3
  obtain ⟨ee, hpr⟩ := p_pr_st eS
  refine ⟨fun c => by omega, fun _ => ?_⟩
  intro v133 e133 _ v136 e136 _
  refine ⟨fun c => ?_, fun c => no 1 (by decide) (Or.inl ⟨fun ep lf v sg tg h => ?_, rfl⟩) L7 gv7 (piq gp7)⟩
  rotate_left
  · rw [p_pr_S h] at eS
    have eS := Prod.mk.inj (Option.some.inj eS)
    exact c (by rw [e133, e136, b1, b2, ← eS.1, ← eS.2])
  obtain ⟨ep, lf, v, sg, tg, hp⟩ := hpr (by omega)
  have hp' := hp
  obtain ⟨n2, ⟨b0, c0⟩, c1, c2, c3, c4, c5⟩ := hp'
  -- the steps
  have S1 : p_to (p_8 l (some (0, l.length))) = some (1, l.length) := by rw [c0, p_to_s]
  rw [S1] at v3 v4 v5 v6 v7 r2 r3 r4 r5 r6
  have S2 : p_to (p_32 l (some (1, l.length))) = some (5, l.length) := by rw [c1, p_to_s]
  rw [S2] at v4 v5 v6 v7 r3 r4 r5 r6
  have S3 : p_to (p_16 l (some (5, l.length))) = some (7, l.length) := by rw [c2, p_to_s]
  rw [S3] at v5 v6 v7 r4 r5 r6
  have S4 : p_to (p_ct K l (some (7, l.length))) = some (l.length - 2, l.length) := by rw [c3, p_to_s]
  rw [S4] at v6 v7 r5 r6
  have S5 : p_to (p_t K 7 l (some (l.length - 2, l.length))) = some (l.length - 1, l.length) := by rw [c4, p_to_s]
  rw [S5] at v7 r6
  have ez3 : z3 = ep := v3 ep _ c1
  have ez4 : z4 = lf := v4 lf _ c2
  have ez6 : w_at mk z6 sg := v6 sg _ c4
  have ez7 : w_at mk z7 tg := v7 tg _ c5
  have r85 : v85 = ((fr + 7 : Nat) : Int) := by rw [e85]; exact r4.1
  have r98 : v98 = ((fr + (l.length - 2) : Nat) : Int) := by rw [e98]; exact r5.1
  have r114 : v114 = ((fr + (l.length - 1) : Nat) : Int) := by rw [e114]; exact r6.1
  clear v3 v4 v6 v7 r2 r3 r4 r5 r6 eS
  subst ez3; subst ez4
  obtain ⟨lf, elf⟩ : ∃ lf : Nat, z4 = lf := ⟨z4.toNat, by omega⟩
  subst elf
  refine ⟨by omega, by omega, ?_⟩
  intro v142 e142 _
  rw [Int.toNat_natCast, gq7 27 m (by omega)] at e142
  refine ⟨fun c6 => no 2 (by decide) (Or.inr ⟨z3, lf, v, sg, tg, hp, Or.inl ⟨Or.inl (by omega), rfl⟩⟩) L7 gv7 (piq gp7), fun c6 => ⟨by omega, by omega, ?_⟩⟩
  have in1 : I 27 m = 1 := by omega
  obtain ⟨st, lv⟩ := hst in1
  have st7 := m_st_pj st gp7
  have bd := bd in1
  obtain ⟨g1, g2, g3, g4, g5, g6, _⟩ := id st7
  intro v145 e145 _
  rw [Int.toNat_natCast, g2] at e145
  refine ⟨fun c7 => ?_, fun c7 => no 2 (by decide) (Or.inr ⟨z3, lf, v, sg, tg, hp, Or.inl ⟨Or.inr (by omega), rfl⟩⟩) L7 gv7 (piq gp7)⟩
  have eep : z3 = gg_ep G := by omega
  have tok := g4.1
  have no3 : ¬ w_sd G lf → Q 3 J7 := fun h => no 3 (by decide) (Or.inr ⟨z3, lf, v, sg, tg, hp, Or.inr ⟨in1, eep, Or.inl ⟨h, rfl⟩⟩⟩) L7 gv7 (piq gp7)
  refine r_leafCount (s := m) (by omega) g4.2.1 tok.1 ?_
  intro _
  refine ⟨fun c8 => no3 (fun h => by have := h.1; omega), fun c8 => ?_⟩
  have lfw : 2 * lf < t_w (gg_T G) := by
    unfold t_w
    have : (2 : Nat) ^ (t_dp (gg_T G) + 1) = 2 * 2 ^ t_dp (gg_T G) := by rw [Nat.pow_succ]; omega
    omega
  have w31 := t_w31 tok.1
  rw [sw_w_s (by omega) (by omega), show 2 * (lf : Int) = ((2 * lf : Nat) : Int) by omega]
  have kd := (g4.2.2.1 (2 * lf) lfw).1
  refine r_isBlank (s := m) (by omega) (by omega) (fun hbl _ => ⟨fun _ => no3 (fun h => ?_), fun c => absurd c (by decide)⟩) (fun hbl _ => ⟨fun c => absurd rfl c, fun _ => ⟨by omega, by omega, ?_⟩⟩)
  · rw [kd, if_neg (by have := h.2.1; rw [Int.toNat_natCast] at this; exact this), if_pos (by omega)] at hbl
    exact absurd hbl (by decide)
  have hky : t_ky (gg_T G) (2 * lf) ≠ [] := fun h => hbl (by rw [kd, if_pos h])
  intro v162 e162 _
  rw [Int.toNat_natCast, g3] at e162
  refine ⟨fun c9 => ?_, fun c9 => no3 (fun h => h.2.2 (by omega))⟩
  have hsd : w_sd G lf := ⟨by omega, by rw [Int.toNat_natCast]; exact hky, by omega⟩
  obtain ⟨o1, o2, o3, o4⟩ := g4.2.2.2 lf lfw hky
  obtain ⟨l1, l2⟩ := lv lf lfw hky
  have ow0 := (tok.2.2 lf lfw hky).1
  unfold rm_67
  rw [r_sp (by omega) (by omega)]
  intro _
  refine ⟨by omega, by omega, ?_⟩
  intro v172 e172 _
  rw [Int.toNat_natCast, o1] at e172
  refine r_keepContext (s := m) (by omega) w7 st7 bdm (fun J8 w8 cx8 r8 g8 => ?_)
  refine r_bContext r8 cx8 (by rw [w_cx_len]; simp) (fun J9 r9 f9 => ⟨by omega, by omega, ?_⟩)
  rw [List.nil_append] at r9
  have L9 := m_f0_L w8.1 f9
  have w9 := m_wr_pw w8 L9 (w_le_refl _) (m_gp_2w (m_f0_gp f9))
  have g79 : m_gp (m_pw us) J7 J9 := m_gp_trans g8 (m_gp_2w (m_f0_gp f9))
  have hx7 := m_tk_f hx F7
  have hx9 : m_tk J9 mk K fr l := m_tk_gp hx7 L9 g79 (fun f k p => by
    unfold m_pw m_p2 at p
    refine ⟨fun c => ?_, fun c => ?_⟩
    · rcases p with p | p | p | p <;> omega
    · rcases p with p | p | p | p <;> omega)
  have gv9 : m_gp (m_pdp m us) I J9 := m_gp_trans gv7 (m_gp_sub g79 (fun f k p => Or.inl p))
  have gq9 : m_gp (fun f k => ¬ (30 ≤ f ∧ f ≤ 54)) I J9 := m_gp_trans (piq gp7) (fun f k h => g79 f k (m_pw_n (by have := Decidable.byContradiction h; omega)))
  obtain ⟨ow, eow⟩ : ∃ ow : Nat, t_ow (gg_T G) lf = ow := ⟨(t_ow (gg_T G) lf).toNat, by omega⟩
  rw [eow] at e172 l1 l2
  rw [Int.toNat_natCast] at l2
  have ow24 : ow < 24 := by omega
  have me9 := (w9.2.1 ow ow24).2
  intro v192 e192 _
  rw [e172, Int.toNat_natCast] at e192
  rw [e172, e192]
  have ln := w_sli_0 (l := l) (n := l.length - 2) (by omega)
  have at9 : m_at mk.length (w_d mk) (J9 26) fr (w_sli l 0 (l.length - 2)) := by
    have := m_at_sli (i := 0) (j := l.length - 2) hx9.1
    rw [Nat.add_zero] at this
    exact this
  refine r_isSigned (L1 := w_sli l 0 (l.length - 2)) (L2 := w_cx G) (p := w_pub ow) L9 w9.2.1 ez6 me9 at9 (by rw [ln]; omega) r9 (by rw [w_cx_len]; omega) (by rw [ln]; exact r98) (fun z10 J10 hz10 L10 r10 f10 _ => ?_)
  have gp10 := m_pj_0 f10
  have gv10 := m_gp_trans gv9 (m_gp_sub gp10 (fun f k p => m_pj_dp p))
  have gq10 := m_gp_trans gq9 (piq gp10)
  have no4 : ∀ {X : sr_V}, ¬ (w_sok (t_ow (gg_T G) lf) (t_sk (gg_T G) lf) sg (w_sli l 0 (l.length - 2) ++ w_cx G) ∧ w_cts v lf) → m_L X mk nn K tl → m_gp m_pj J10 X → Q 4 X := by
    intro X h LX gX
    refine no 4 (by decide) (Or.inr ⟨z3, lf, v, sg, tg, hp, Or.inr ⟨in1, eep, Or.inr ⟨hsd, Or.inl ⟨?_, rfl⟩⟩⟩⟩) LX (m_gp_trans gv10 (m_gp_sub gX (fun f k p => m_pj_dp p))) (m_gp_trans gq10 (piq gX))
    rw [Int.toNat_natCast]; exact h
  rw [← eow, ← l2] at hz10
  refine ⟨fun c10 => ?_, fun c10 => no4 (fun h => ?_) L10 (m_gp_refl _ _)⟩
  rotate_left
  · rcases hz10 with ⟨ez, _⟩ | ⟨_, hn⟩
    · omega
    · exact hn h.1
  have hsok : w_sok (t_ow (gg_T G) lf) (t_sk (gg_T G) lf) sg (w_sli l 0 (l.length - 2) ++ w_cx G) := by
    rcases hz10 with ⟨_, h⟩ | ⟨ez, _⟩
    · exact h
    · exact absurd ez c10
  have hx10 : m_tk J10 mk K fr l := m_tk_gp hx9 L10 (m_fr_gp f10) (fun f k p => by simp at p; omega)
  obtain ⟨kd0, ⟨ik, lf0, g0⟩, n0⟩ := v
  have c3e := p_ct_end c3 (e2 := l.length - 2) (Nat.le_refl _)
  obtain ⟨d8, dse, dc⟩ := p_ct_ix c3
  have n7 : 7 ≤ l.length - 2 := by
    rcases dc with h | h | h
    · have := (Prod.mk.inj h.2.1).1; omega
    · have := (Prod.mk.inj h.2.1).1; omega
    · have := (Prod.mk.inj h.2.1).1; omega
  refine r_beginAt (i := 7) (e := l.length - 2) (l := l) (fr := fr) r85 r98 n7 (by omega) (fun J11 r11 f11 => ?_)
  have F11 := m_F1_3 f11
  refine r_readContent (m_tk_f hx10 F11) r11 (fun J12 r12 h74' v12 f12 => ?_)
  have F12 := m_fr_trans F11 f12
  have gp12 := m_F1_pj F12
  have L12 := m_F1_L L10 F12
  have hx12 := m_tk_f hx10 F12
  have w12 : m_wr J12 mk nn K tl ms us := m_wr_pj (m_wr_pj w9 L10 gp10) L12 gp12
  have co := v12 _ _ c3e
  -- the rest, once the content is right
  have fin : ∀ {X : sr_V}, w_cts (kd0, (ik, lf0, g0), n0) lf → m_L X mk nn K tl → m_gp m_pj J10 X → m_tk X mk K fr l → rb_109_138 Q mi m fr v114 z7 m X := by
    intro X hcts LX gX hxX
    have gvX := m_gp_trans gv10 (m_gp_sub gX (fun f k p => m_pj_dp p))
    have gqX := m_gp_trans gq10 (piq gX)
    have A : w_sok (t_ow (gg_T G) (lf : Int).toNat) (t_sk (gg_T G) (lf : Int).toNat) sg (w_sli l 0 (l.length - 2) ++ w_cx G) ∧ w_cts (kd0, (ik, lf0, g0), n0) lf := ⟨by rw [Int.toNat_natCast]; exact hsok, hcts⟩
    have stX : m_st X mk m G := m_st_pj (m_st_pj (m_st_pw st7 g79 (w_le_refl _)) gp10) gX
    have PX : m_pp X mk ms m L := m_pp_gp (m := m) hP gqX (fun f k h c => h (by unfold m_kq at c; omega)) (w_le_refl _) (fun _ _ h => h)
    refine r_dp_tag (fr := fr) hm (m_wr_pj (m_wr_pj w9 L10 gp10) LX gX) hmi stX PX hL3 hxX.1 hb (by omega) r114 ez7 bd (fun Y h LY gY => ?_) (fun Y h LY PY gY => ?_)
    · refine q 5 _ Y (Or.inr ⟨z3, lf, _, sg, tg, hp, Or.inr ⟨in1, eep, Or.inr ⟨hsd, Or.inr ⟨A, Or.inl ⟨h, rfl⟩⟩⟩⟩⟩) (Or.inr (Or.inl rfl)) LY ?_ (m_gp_trans gvX (m_gp_sub gY (fun f k p => Or.inl (Or.inl p))))
      rw [if_neg (by decide)]
      exact m_pp_gp (m := m) PX gY (fun f k h c => by unfold m_kq at c; unfold m_p2 at h; omega) (w_le_tl _ _) (fun _ _ h => h)
    · refine q 0 _ Y (Or.inr ⟨z3, lf, _, sg, tg, hp, Or.inr ⟨in1, eep, Or.inr ⟨hsd, Or.inr ⟨A, Or.inr ⟨h, rfl⟩⟩⟩⟩⟩) (Or.inr (Or.inr ⟨rfl, rfl⟩)) LY (by rw [if_pos rfl]; exact PY) (m_gp_trans gvX (m_gp_sub gY (fun f k p => ?_)))
      rcases p with p | p
      · exact Or.inl (Or.inl p)
      · exact Or.inr (Or.inl p)
  obtain ⟨m0, k0, p0, so0, ph0, gg0⟩ := lf0
  obtain ⟨o73, co1, co2, co3⟩ := co
  have n14 : kd0 = 1 → l.length - 2 = 19 := fun h => by
    rcases dc with d | d | d
    · exact (Prod.mk.inj d.2.1).1
    · omega
    · omega
  have n9 : kd0 = 2 → l.length - 2 = 14 := fun h => by
    rcases dc with d | d | d
    · omega
    · exact (Prod.mk.inj d.2.1).1
    · omega
  have go2 : ∀ {X : sr_V}, kd0 ≠ 1 ∨ w_pks (ik, (m0, k0, p0, so0, ph0, gg0), g0) → X 1000 73 = kd0 → (kd0 = 2 → X = J12) → m_L X mk nn K tl → m_gp m_pj J10 X → m_tk X mk K fr l → rb_109_128 Q mi m fr lf v114 z7 m X := by
    intro X h1 h73 hX LX gX hxX
    unfold rb_109_128
    intro v30 e30 _
    rw [h73] at e30
    refine ⟨fun c => fin ⟨fun h => by
      rcases h1 with h1 | h1
      · exact absurd h h1
      · exact h1, fun h => absurd h (by omega)⟩ LX gX hxX, fun c => ?_⟩
    have k2 : kd0 = 2 := by omega
    have eX := hX k2
    subst eX
    obtain ⟨j, j1, j2, j3⟩ := co2 k2
    have j1 : l.length - 2 = j + 6 := j1
    have ej : j = 8 := by have := n9 k2; omega
    subst ej
    have hlf : p_lf K 2 l (some (8, l.length)) = some ((m0, k0, p0, so0, ph0, gg0), 14, l.length) := by
      rcases dc with d | d | d
      · omega
      · exact d.2.2.1
      · omega
    have so2 : so0 = 2 := (p_lf_ix hlf).2.2.2.2.2.1 (by decide)
    subst so2
    refine r_isLeafSigned (j := 8) (e := l.length) (src := 2) LX (m_wr_pj (m_wr_pj w9 L10 gp10) LX gX).2.1 hxX (Nat.le_refl _) hlf (by rw [if_neg (by decide)]; exact j2) j3 (by unfold sw_c; omega) (fun z13 J13 hz13 L13 r13 f13 _ => ⟨fun c13 => ?_, fun c13 => ?_⟩)
    · refine fin ⟨fun h => absurd h (by omega), fun _ => ?_⟩ L13 (m_gp_trans gX (m_pj_0 f13)) (m_tk_gp hxX L13 (m_fr_gp f13) (fun f k p => by simp at p; omega))
      rcases hz13 with ⟨_, h⟩ | ⟨ez, _⟩
      · exact h
      · exact absurd ez c13
    · refine no4 (fun h => ?_) L13 (m_gp_trans gX (m_pj_0 f13))
      rcases hz13 with ⟨ez, _⟩ | ⟨_, hn⟩
      · omega
      · exact hn (h.2.2 k2)
  intro v216 e216 _
  rw [o73] at e216
  refine ⟨fun c11 => go2 (Or.inl (by omega)) o73 (fun _ => rfl) L12 gp12 hx12, fun c11 => ?_⟩
  have k1 : kd0 = 1 := by omega
  obtain ⟨j, j1, j2, j3, j4, j5⟩ := co1 k1
  have j1 : l.length - 2 = j + 9 := j1
  have ej : j = 10 := by have := n14 k1; omega
  subst ej
  have hpk : p_pk K l (some (10, 19)) = some ((ik, (m0, k0, p0, so0, ph0, gg0), g0), 19, 19) := by
    rcases dc with d | d | d
    · exact d.2.2.2.1
    · omega
    · omega
  have n19 := n14 k1
  refine r_isPackageSigned (i := 10) (e := 19) L12 w12.2.1 hx12 (by omega) hpk ⟨j2, j3, j4, j5⟩ (fun z13 J13 hz13 L13 r13 f13 _ => ⟨fun c13 => ?_, fun c13 => ?_⟩)
  · refine no4 (fun h => ?_) L13 (m_gp_trans gp12 (m_pj_0 f13))
    rcases hz13 with ⟨ez, _⟩ | ⟨_, hn⟩
    · omega
    · exact hn (h.2.1 k1)
  · refine go2 (Or.inr ?_) (by rw [f13.2 73 (by decide)]; exact o73) (fun h => by omega) L13 (m_gp_trans gp12 (m_pj_0 f13)) (m_tk_gp hx12 L13 (m_fr_gp f13) (fun f k p => by simp at p; omega))
    rcases hz13 with ⟨_, h⟩ | ⟨ez, _⟩
    · exact h
    · exact absurd ez c13
end
end
