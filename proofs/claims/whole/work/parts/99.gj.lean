/-! ===== the reference: commit ===== -/
noncomputable section
/-- the changes that go -/
def k_L (G : w_G) (C : List w_Ch) : List w_Ch := h_ga (gg_T G) (gg_lf G) [] C
def m_pcz (m us f k : Nat) : Prop := m_pco m us f k ∨ m_pi f k
variable {I I0 J X : sr_V} {nn nm s u k h us : Nat} {K K' K2 Kr : Wt → Prop} {tl tl' mk mm l0 l1 l2 lw lt lp lx : List Wt} {a b c y n msk lf wp x1 x2 : Int} {Q : Int → sr_V → Prop} {R : sr_V → Prop} {x i e l m mi : Nat} {P : Nat → Nat → Prop} {S : Wt → Prop} {w ls n0 cs cm jn : Wt} {G : w_G} {T T1 : w_T} {ms : List (List Wt)} {L C : List w_Ch} {d : w_Ch} {Lk : List (Wt × Nat)}
theorem k_wp_1 (h : x2 ≠ 0 ∨ h_mp L) : k_wp x2 L = 1 := by unfold k_wp; rw [if_pos h]
theorem k_wp_0 (h : ¬ (x2 ≠ 0 ∨ h_mp L)) : k_wp x2 L = 0 := by unfold k_wp; rw [if_neg h]
theorem w_kc_ok (hvl : ∀ p ∈ ms, w_vl p) (h : w_kc K ms Lk C) : ∀ c ∈ C, p_cok c.1 := fun c hc => by
  obtain ⟨i, k, hh, p, ep, sg, tg, _, _, hp, hr, _⟩ := w_kc_get h hc
  exact p_ct_ok (hvl p (List.mem_of_getElem? hp)) (Nat.le_refl _) hr.2.2.2.2.1
/-- behind the gathering -/
theorem r_cm_103 {G : w_G} (hm : m < 24) (hg : m_gc I mk nn K tl ms us m G Lk K) (hli : m_li I mk K L) (hT : m_tr I mk 48 (k_T1 G L)) (hh : ∀ x, x < t_w (k_T1 G L) → w_az mk (I 44 (31 * 48 + x)) (w_hcy G (k_T1 G L) x)) (had : m_ad I (h_0 (gg_T G) L) L L.length) (hd : L = [] ∨ h_done (gg_T G) L (gg_lf G)) (hok : ∀ c ∈ L, p_cok c.1) (hne : ∀ c ∈ L, c.2.2 ≠ []) (hi : g_iv m G) (h5 : h_p5 L) (hz : w_at mk 1 w_z) (hb : m_bS (k_S G m nn (k_wp x2 L) L) mk) (h300 : ms.length < 300) (h299 : k_ad G L ≠ [] → ms.length < 299)
    (q : ∀ J mm, w_mo (k_S G m nn (k_wp x2 L) L) mk mm → m_L J mm (k_nn G nn (k_wp x2 L) L) (k_K K G m nn (k_wp x2 L) L) tl → m_me J mm → m_M J (w_d mm) (ms ++ k_ms2 G m nn (k_wp x2 L) L) → m_st J mm (24 + m) (k_G G m nn (k_wp x2 L) L) → J 28 m = 1 → J 35 m = (ms.length : Nat) → J 1000 0 = 0 → m_gp (m_pcz m us) I J → Q ms.length J) : rb_19_103 Q m x2 m (gg_lf G) 0 I := by
  obtain ⟨hw, hst, hpp, htk⟩ := hg
  unfold rb_19_103
  intro Z eZ
  have gZ : m_gp (fun f k => f = 1000 ∧ k = 0) I Z := by rw [eZ]; exact m_gp_su I 1000 0 0
  have z0 : Z 1000 0 = 0 := by rw [eZ]; exact su_eq _ _ _ _
  have gp : m_gp m_pi I Z := m_gp_sub gZ (fun f k p => by unfold m_pi; omega)
  have LZ : m_L Z mk nn K tl := m_L_gp hw.1 gZ (fun f k p => by omega)
  have wZ := m_wr_pi hw LZ gp
  have noZ : ∀ f k, f ≠ 1000 ∨ k ≠ 0 → Z f k = I f k := fun f k hf => gZ f k (by omega)
  have stZ : m_st Z mk m G := m_st_gp hst gZ (fun f k p c => by unfold m_pl at p; omega)
  have liZ : m_li Z mk K L := m_li_gp hli gZ (fun f k p => by omega)
  have TZ : m_tr Z mk 48 (k_T1 G L) := m_tr_gp hT gZ (fun f k p c => by unfold m_pl at p; omega)
  have hZ : ∀ x, x < t_w (k_T1 G L) → w_az mk (Z 44 (31 * 48 + x)) (w_hcy G (k_T1 G L) x) := fun x hx => by rw [noZ _ _ (by omega)]; exact hh x hx
  have adZ : m_ad Z (h_0 (gg_T G) L) L L.length := ⟨by rw [noZ _ _ (by omega)]; exact had.1, by rw [noZ _ _ (by omega)]; exact had.2.1, fun i p j hp => by rw [noZ _ _ (by omega), noZ _ _ (by omega)]; exact had.2.2 i p j hp⟩
  have go : ∀ wp : Int, wp = k_wp x2 L → rb_19_117 Q m m (gg_lf G) wp Z := fun wp e => by
    subst e
    refine r_cmt_go hm wZ stZ liZ TZ hZ adZ hd hok hne hi h5 hz k_wp_01 hb h300 h299 (fun J mm m1 LJ meJ MJ stJ e28 e35 gJ => q J mm m1 LJ meJ MJ stJ e28 e35 ?_ (m_gp_trans (m_gp_sub gp (fun f k p => Or.inr p)) (m_gp_sub gJ (fun f k p => Or.inl p))))
    rw [gJ 1000 0 ?_]
    · exact z0
    · unfold m_pco m_pcw m_pcm m_pw m_p2 m_pga m_pdn m_pdl m_pd m_pcp m_p2 m_pf m_pl
      omega
  intro v ev _
  rw [z0] at ev
  subst ev
  refine ⟨fun _ => ⟨fun c => go 1 (k_wp_1 (Or.inl c)).symm, fun c => ?_⟩, fun c => absurd c (by decide)⟩
  refine r_mustHavePath liZ (fun hmp _ => ⟨fun cc => absurd cc (by decide), fun _ => go 1 (k_wp_1 (Or.inr hmp)).symm⟩) (fun hmp _ => ⟨fun _ => go 0 (k_wp_0 (fun cc => ?_)).symm, fun cc => absurd rfl cc⟩)
  rcases cc with cc | cc
  · exact cc c
  · exact hmp cc
/-- all texts behind infer -/
theorem m_tk_all (hw : m_wr I mk nn K tl ms us) (hk : ∀ t, m_R I t → (m_k I t ↔ K (w_d mk t))) : ∀ (k : Nat) (p : List Wt), ms[k]? = some p → m_tk I mk K (I 24 k).toNat p := fun k p hp => by
  obtain ⟨hL, _, hM, _⟩ := hw
  obtain ⟨m1, m2, m3, m4, m5⟩ := hM
  obtain ⟨b1, b2, b3, b4, b5⟩ := m5 k p hp
  have e4 : I 1000 4 = mk.length := hL.2.2.2.1
  rw [e4] at b5
  exact m_tk_of hL hk b5 (by omega)
theorem m_vl_all (htk : ∀ (k : Nat) (p : List Wt), ms[k]? = some p → m_tk I mk K (I 24 k).toNat p) : ∀ p ∈ ms, w_vl p := fun p hp => by
  obtain ⟨k, hk⟩ := List.getElem?_of_mem hp
  exact m_tk_vl (htk k p hk)
theorem r_commit {x : Int} {Ga : Nat → w_G} {La : Nat → List (Wt × Nat)} {Ca : Nat → List w_Ch} (hw : m_wr I mk nn K tl ms us) (hx5 : w_x5 ms) (hz : w_at mk 1 w_z) (h01 : ∀ m : Nat, m < 24 → I 27 m = 0 ∨ I 27 m = 1) (hst : ∀ m : Nat, m < 24 → I 27 m = 1 → m_st I mk m (Ga m) ∧ g_iv m (Ga m)) (hP : ∀ m : Nat, m < 24 → m_pp I mk ms m (La m)) (hkc : ∀ m : Nat, m < 24 → I 27 m = 1 → w_kc K ms (La m) (Ca m))
    (hb : ∀ m : Nat, x = m → m < 24 → I 27 m = 1 → ms.length < 300 → m_bS (k_S (Ga m) m nn (k_wp x2 (k_L (Ga m) (Ca m))) (k_L (Ga m) (Ca m))) mk)
    (q1 : ∀ J, (x < 0 ∨ 24 ≤ x) → m_L J mk nn K tl → J 1000 0 = 1 → m_gp m_pi I J → Q 0 J)
    (q2 : ∀ (m : Nat) J, x = m → m < 24 → (ms.length = 300 ∨ I 27 m = 0) → m_L J mk nn K tl → J 1000 0 = 2 → m_gp m_pi I J → Q 0 J)
    (q3 : ∀ (m : Nat) J, x = m → m < 24 → I 27 m = 1 → ms.length = 299 → k_ad (Ga m) (k_L (Ga m) (Ca m)) ≠ [] → m_L J mk nn K tl → J 1000 0 = 2 → m_gp (m_pcz m us) I J → Q 0 J)
    (q : ∀ (m : Nat) J mm, x = m → m < 24 → I 27 m = 1 → ms.length < 300 → (k_ad (Ga m) (k_L (Ga m) (Ca m)) ≠ [] → ms.length < 299) → w_mo (k_S (Ga m) m nn (k_wp x2 (k_L (Ga m) (Ca m))) (k_L (Ga m) (Ca m))) mk mm → m_L J mm (k_nn (Ga m) nn (k_wp x2 (k_L (Ga m) (Ca m))) (k_L (Ga m) (Ca m))) (k_K K (Ga m) m nn (k_wp x2 (k_L (Ga m) (Ca m))) (k_L (Ga m) (Ca m))) tl → m_me J mm → m_M J (w_d mm) (ms ++ k_ms2 (Ga m) m nn (k_wp x2 (k_L (Ga m) (Ca m))) (k_L (Ga m) (Ca m))) → m_st J mm (24 + m) (k_G (Ga m) m nn (k_wp x2 (k_L (Ga m) (Ca m))) (k_L (Ga m) (Ca m))) → J 28 m = 1 → J 35 m = (ms.length : Nat) → J 1000 0 = 0 → m_gp (m_pcz m us) I J → Q ms.length J) : rm_19 x x2 I Q := by
  unfold rm_19
  refine r_infer hw.1 (fun J L0 hk f0 => ?_)
  have p0 : m_gp m_pi I J := m_gp_sub (m_fr_gp f0) (fun f k p => by
    simp only [List.mem_cons, List.not_mem_nil, or_false] at p
    unfold m_pi; omega)
  have w0 := m_wr_pi hw L0 p0
  have tkJ := m_tk_all w0 hk
  have noJ : ∀ f k, (18 ≤ f ∧ f ≤ 54) ∨ (f = 1000 ∧ (k = 22 ∨ k = 23)) → J f k = I f k := fun f k hf => p0 f k (by unfold m_pi; omega)
  have thr : ∀ {j : Int}, 0 < j → (∀ Y, m_L Y mk nn K tl → Y 1000 0 = j → m_gp m_pi I Y → Q 0 Y) → rb_19_22 Q x x2 j J := by
    intro j hj hq
    unfold rb_19_22
    intro Z eZ v ev _
    have gZ : m_gp (fun f k => f = 1000 ∧ k = 0) J Z := by rw [eZ]; exact m_gp_su J 1000 0 j
    have z0 : Z 1000 0 = j := by rw [eZ]; exact su_eq _ _ _ _
    rw [z0] at ev
    exact ⟨fun c => absurd c (by omega), fun _ => hq Z (m_L_gp L0 gZ (fun f k p => by omega)) z0 (m_gp_trans p0 (m_gp_sub gZ (fun f k p => by unfold m_pi; omega)))⟩
  refine ⟨fun c => thr (by decide) (fun Y LY zY gY => q1 Y (Or.inl c) LY zY gY), fun c => ⟨fun c2 => ?_, fun c2 => thr (by decide) (fun Y LY zY gY => q1 Y (Or.inr c2) LY zY gY)⟩⟩
  obtain ⟨m, em⟩ : ∃ m : Nat, x = m := ⟨x.toNat, by omega⟩
  have hm : m < 24 := by omega
  have m22 : J 1000 22 = ms.length := w0.2.2.1.1
  have m300 := w0.2.2.1.2.1
  subst em
  intro v1 e1 _
  rw [m22] at e1
  refine ⟨fun c3 => thr (by decide) (fun Y LY zY gY => q2 m Y rfl hm (Or.inl (by omega)) LY zY gY), fun c3 => ⟨by omega, by omega, ?_⟩⟩
  intro v2 e2 _
  rw [Int.toNat_natCast, noJ 27 m (by omega)] at e2
  refine ⟨fun c4 => ?_, fun c4 => thr (by decide) (fun Y LY zY gY => q2 m Y rfl hm (Or.inr (by omega)) LY zY gY)⟩
  have in1 : I 27 m = 1 := by have := h01 m hm; omega
  obtain ⟨stI, ivG⟩ := hst m hm in1
  have kcI := hkc m hm in1
  clear hst hkc
  have hbm := hb m rfl hm in1 (by omega)
  clear hb q1 q2 thr
  unfold rb_19_22
  intro Z eZ v ev _
  have gZ : m_gp (fun f k => f = 1000 ∧ k = 0) J Z := by rw [eZ]; exact m_gp_su J 1000 0 0
  have z0 : Z 1000 0 = 0 := by rw [eZ]; exact su_eq _ _ _ _
  rw [z0] at ev
  subst ev
  refine ⟨fun _ => ⟨by omega, by omega, ?_⟩, fun c5 => absurd c5 (by decide)⟩
  intro v3 e3 _
  have e3' : v3 = gg_lf (Ga m) := by
    rw [e3, Int.toNat_natCast, gZ 30 m (by omega), noJ 30 m (by omega)]
    exact stI.2.2.1
  clear e3
  subst e3'
  intro Y eY
  have gY : m_gp (fun f k => f = 1000 ∧ (k = 0 ∨ k = 76)) J Y := by
    rw [eY]
    exact m_gp_trans (m_gp_sub gZ (fun f k p => ⟨p.1, Or.inl p.2⟩)) (m_gp_sub (m_gp_su Z 1000 76 0) (fun f k p => ⟨p.1, Or.inr p.2⟩))
  have y0 : Y 1000 76 = 0 := by rw [eY]; exact su_eq _ _ _ _
  clear eY eZ gZ z0
  have LY : m_L Y mk nn K tl := m_L_gp L0 gY (fun f k p => by omega)
  have noY : ∀ f k, f ≠ 1000 ∨ (k ≠ 0 ∧ k ≠ 76) → Y f k = J f k := fun f k hf => gY f k (by omega)
  have wY : m_wr Y mk nn K tl ms us := ⟨LY, m_me_gp w0.2.1 gY (fun f k p => by omega), m_M_up L0 LY (w_le_refl _) w0.2.2.1 w0.2.2.2 gY (fun f k p => by omega), by rw [noY _ _ (by omega)]; exact w0.2.2.2⟩
  have gIY : m_gp (fun f k => m_pi f k ∨ (f = 1000 ∧ k = 76)) I Y := m_gp_trans (m_gp_sub p0 (fun f k p => Or.inl p)) (m_gp_sub gY (fun f k p => by unfold m_pi; omega))
  have stY : m_st Y mk m (Ga m) := m_st_gp stI gIY (fun f k p c => by unfold m_pl at p; unfold m_pi at c; omega)
  have ppY : m_pp Y mk ms m (La m) := m_pp_gp (hP m hm) gIY (fun f k p c => by unfold m_pi at p; unfold m_kq at c; omega) (w_le_refl _) (fun _ _ hh => hh)
  have tkY : ∀ (k : Nat) (p : List Wt), ms[k]? = some p → m_tk Y mk K (Y 24 k).toNat p := fun k p hp => by
    rw [noY 24 k (by omega)]
    exact m_tk_gp (tkJ k p hp) LY gY (fun f k p => by omega)
  have vl := m_vl_all tkY
  have okC := w_kc_ok vl kcI
  have u23 : 0 ≤ Y 1000 23 ∧ Y 1000 23 ≤ 400000 := by
    have := wY.2.2.1
    have a := this.2.2.1
    have b := this.2.2.2.1
    omega
  have subL : ∀ c ∈ k_L (Ga m) (Ca m), c ∈ Ca m := fun c hc => by
    rcases h_ga_sub (Ca m) [] c hc with h | h
    · cases h
    · exact h
  refine ⟨(La m).length + 1, r_ga_40 (I0 := Y) (L := []) (C := Ca m) (Lk := La m) (G := Ga m) hm kcI (fun A gcA liA TA hrA adA gA v4 e4 _ => ?_) _ 0 ⟨wY, stY, ppY, tkY⟩ (show m_li Y mk K [] from ⟨y0, by decide, u23, fun k c hc => by cases hc⟩) (Or.inl rfl) rfl (m_gp_refl _ _) (by omega) (by omega)⟩
  have hdn : k_L (Ga m) (Ca m) = [] ∨ h_done (gg_T (Ga m)) (k_L (Ga m) (Ca m)) (gg_lf (Ga m)) := h_ga_ok (Ca m) [] (Or.inl rfl)
  have hok : ∀ c ∈ k_L (Ga m) (Ca m), p_cok c.1 := fun c hc => okC c (subL c hc)
  have h5 : h_p5 (k_L (Ga m) (Ca m)) := fun c hc => w_kc_5 hx5 kcI c (subL c hc)
  have hne : ∀ c ∈ k_L (Ga m) (Ca m), c.2.2 ≠ [] := fun c hc => by
    obtain ⟨i, k, hh, p, ep, sg, tg, hl, _, hp, _, e⟩ := w_kc_get kcI (subL c hc)
    obtain ⟨_, _, pm, _, e2⟩ := (ppY.2.2 i k hh hl)
    rw [e, e2]
    exact List.cons_ne_nil _ _
  have hA := m_hc stY ivG.2.2.2.1 hrA
  have gIA : m_gp (m_pcz m us) I A := m_gp_trans (m_gp_sub gIY (fun f k p => by
    rcases p with p | p
    · exact Or.inr p
    · exact Or.inl (Or.inr (Or.inl (Or.inr (Or.inr p)))))) (m_gp_sub gA (fun f k p => Or.inl (Or.inr (Or.inl p))))
  have a84 : A 1000 84 = ((k_ad (Ga m) (k_L (Ga m) (Ca m))).length : Nat) := adA.2.1
  have a22 : A 1000 22 = ms.length := gcA.1.2.2.1.1
  have go : (k_ad (Ga m) (k_L (Ga m) (Ca m)) ≠ [] → ms.length < 299) → rb_19_103 Q m x2 m (gg_lf (Ga m)) 0 A := fun h9 =>
    r_cm_103 hm gcA liA TA hA adA hdn hok hne ivG h5 hz hbm (by omega) h9 (fun J2 mm m1 L2 me2 M2 st2 e28 e35 e0 g2 => q m J2 mm rfl hm in1 (by omega) h9 m1 L2 me2 M2 st2 e28 e35 e0 (m_gp_trans gIA g2))
  rw [a84] at e4
  refine ⟨fun c6 => go (fun cc => absurd (List.length_eq_zero_iff.mp (by omega)) cc), fun c6 v5 e5 _ => ?_⟩
  rw [a22] at e5
  refine ⟨fun c7 => go (fun _ => by omega), fun c7 => ?_⟩
  unfold rb_19_103
  intro W eW v6 e6 _
  have gW : m_gp (fun f k => f = 1000 ∧ k = 0) A W := by rw [eW]; exact m_gp_su A 1000 0 2
  have w02 : W 1000 0 = 2 := by rw [eW]; exact su_eq _ _ _ _
  rw [w02] at e6
  refine ⟨fun c8 => absurd c8 (by omega), fun _ => q3 m W rfl hm in1 (by omega) (fun cc => ?_) (m_L_gp gcA.1.1 gW (fun f k p => by omega)) w02 (m_gp_trans gIA (m_gp_sub gW (fun f k p => Or.inr (by unfold m_pi; omega))))⟩
  rw [cc] at e4
  exact absurd c6 (by rw [e4]; decide)
end
