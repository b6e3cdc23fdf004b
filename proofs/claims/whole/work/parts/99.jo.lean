/-! ===== the reference: commit, by the whole state ===== -/
noncomputable section
section
variable {I I0 J X : sr_V} {nn nm s u k h us : Nat} {K K' K2 Kr : Wt → Prop} {tl tl' mk mm l0 l1 l2 lw lt lp lx : List Wt} {a b c y n msk lf wp x1 x2 : Int} {Q : Int → sr_V → Prop} {R : sr_V → Prop} {x i e l m mi : Nat} {P : Nat → Nat → Prop} {S : Wt → Prop} {w ls n0 cs cm jn : Wt} {G : w_G} {T T1 : w_T} {ms : List (List Wt)} {L C : List w_Ch} {d : w_Ch} {Lk : List (Wt × Nat)}
theorem r_commit2 {x : Int} {Ga : Nat → w_G} {La : Nat → List (Wt × Nat)} {Ca : Nat → List w_Ch} (hw : m_wr I mk nn K tl ms us) (hx5 : w_x5 ms) (hz : w_at mk 1 w_z) (h01 : ∀ m : Nat, m < 24 → I 27 m = 0 ∨ I 27 m = 1) (hst : ∀ m : Nat, m < 24 → I 27 m = 1 → m_st I mk m (Ga m) ∧ g_iv m (Ga m)) (hP : ∀ m : Nat, m < 24 → m_pp I mk ms m (La m)) (hkc : ∀ m : Nat, m < 24 → I 27 m = 1 → w_kc K ms (La m) (Ca m))
    (hb : ∀ m : Nat, x = m → m < 24 → I 27 m = 1 → ms.length < 300 → m_bS (k_S (Ga m) m nn (k_wp x2 (k_L (Ga m) (Ca m))) (k_L (Ga m) (Ca m))) mk)
    (q1 : ∀ J, (x < 0 ∨ 24 ≤ x) → m_L J mk nn K tl → J 1000 0 = 1 → m_gp m_pi I J → Q 0 J)
    (q2 : ∀ (m : Nat) J, x = m → m < 24 → (ms.length = 300 ∨ I 27 m = 0) → m_L J mk nn K tl → J 1000 0 = 2 → m_gp m_pi I J → Q 0 J)
    (q3 : ∀ (m : Nat) J, x = m → m < 24 → I 27 m = 1 → ms.length = 299 → k_ad (Ga m) (k_L (Ga m) (Ca m)) ≠ [] → m_L J mk nn K tl → J 1000 0 = 2 → m_gp (fun f k => m_pi f k ∨ m_pga f k) I J → Q 0 J)
    (q : ∀ (m : Nat) J mm, x = m → m < 24 → I 27 m = 1 → ms.length < 300 → (k_ad (Ga m) (k_L (Ga m) (Ca m)) ≠ [] → ms.length < 299) → w_mo (k_S (Ga m) m nn (k_wp x2 (k_L (Ga m) (Ca m))) (k_L (Ga m) (Ca m))) mk mm → m_L J mm (k_nn (Ga m) nn (k_wp x2 (k_L (Ga m) (Ca m))) (k_L (Ga m) (Ca m))) (k_K K (Ga m) m nn (k_wp x2 (k_L (Ga m) (Ca m))) (k_L (Ga m) (Ca m))) tl → m_me J mm → m_M J (w_d mm) (ms ++ k_ms2 (Ga m) m nn (k_wp x2 (k_L (Ga m) (Ca m))) (k_L (Ga m) (Ca m))) → m_st J mm (24 + m) (k_G (Ga m) m nn (k_wp x2 (k_L (Ga m) (Ca m))) (k_L (Ga m) (Ca m))) → J 28 m = 1 → J 35 m = (ms.length : Nat) → J 1000 0 = 0 → m_gp (m_pcz m us) I J → Q ms.length J) : rm_19 x x2 I Q := by
  unfold rm_19
  refine r_infer hw.1 (fun J L0 hk f0 => ?_)
  have p0 : m_gp m_pi I J := m_gp_sub (m_fr_gp f0) (fun f k p => by
    simp only [List.mem_cons, List.not_mem_nil, or_false] at p
    unfold m_pi; omega)
  have w0 := m_wr_pi hw L0 p0
  have tkJ := m_tk_all w0 hk
  have noJ : ∀ f k, (18 ≤ f ∧ f ≤ 54) ∨ (f = 1000 ∧ (k = 22 ∨ k = 23)) → J f k = I f k := fun f k hf => p0 f k (by unfold m_pi; omega)
  have thr : ∀ {j : Int}, 0 < j → (∀ Y, m_L Y mk nn K tl → Y 1000 0 = j → m_gp m_pi I Y → Q 0 Y) → rb_19_22 Q x x2 j J := by
    intro j hj hq
    unfold rb_19_22
    intro Z eZ v ev _
    have gZ : m_gp (fun f k => f = 1000 ∧ k = 0) J Z := by rw [eZ]; exact m_gp_su J 1000 0 j
    have z0 : Z 1000 0 = j := by rw [eZ]; exact su_eq _ _ _ _
    rw [z0] at ev
    exact ⟨fun c => absurd c (by omega), fun _ => hq Z (m_L_gp L0 gZ (fun f k p => by omega)) z0 (m_gp_trans p0 (m_gp_sub gZ (fun f k p => by unfold m_pi; omega)))⟩
  refine ⟨fun c => thr (by decide) (fun Y LY zY gY => q1 Y (Or.inl c) LY zY gY), fun c => ⟨fun c2 => ?_, fun c2 => thr (by decide) (fun Y LY zY gY => q1 Y (Or.inr c2) LY zY gY)⟩⟩
  obtain ⟨m, em⟩ : ∃ m : Nat, x = m := ⟨x.toNat, by omega⟩
  have hm : m < 24 := by omega
  have m22 : J 1000 22 = ms.length := w0.2.2.1.1
  have m300 := w0.2.2.1.2.1
  subst em
  intro v1 e1 _
  rw [m22] at e1
  refine ⟨fun c3 => thr (by decide) (fun Y LY zY gY => q2 m Y rfl hm (Or.inl (by omega)) LY zY gY), fun c3 => ⟨by omega, by omega, ?_⟩⟩
  intro v2 e2 _
  rw [Int.toNat_natCast, noJ 27 m (by omega)] at e2
  refine ⟨fun c4 => ?_, fun c4 => thr (by decide) (fun Y LY zY gY => q2 m Y rfl hm (Or.inr (by omega)) LY zY gY)⟩
  have in1 : I 27 m = 1 := by have := h01 m hm; omega
  obtain ⟨stI, ivG⟩ := hst m hm in1
  have kcI := hkc m hm in1
  clear hst hkc
  have hbm := hb m rfl hm in1 (by omega)
  clear hb q1 q2 thr
  unfold rb_19_22
  intro Z eZ v ev _
  have gZ : m_gp (fun f k => f = 1000 ∧ k = 0) J Z := by rw [eZ]; exact m_gp_su J 1000 0 0
  have z0 : Z 1000 0 = 0 := by rw [eZ]; exact su_eq _ _ _ _
  rw [z0] at ev
  subst ev
  refine ⟨fun _ => ⟨by omega, by omega, ?_⟩, fun c5 => absurd c5 (by decide)⟩
  intro v3 e3 _
  have e3' : v3 = gg_lf (Ga m) := by
    rw [e3, Int.toNat_natCast, gZ 30 m (by omega), noJ 30 m (by omega)]
    exact stI.2.2.1
  clear e3
  subst e3'
  intro Y eY
  have gY : m_gp (fun f k => f = 1000 ∧ (k = 0 ∨ k = 76)) J Y := by
    rw [eY]
    exact m_gp_trans (m_gp_sub gZ (fun f k p => ⟨p.1, Or.inl p.2⟩)) (m_gp_sub (m_gp_su Z 1000 76 0) (fun f k p => ⟨p.1, Or.inr p.2⟩))
  have y0 : Y 1000 76 = 0 := by rw [eY]; exact su_eq _ _ _ _
  clear eY eZ gZ z0
  have LY : m_L Y mk nn K tl := m_L_gp L0 gY (fun f k p => by omega)
  have noY : ∀ f k, f ≠ 1000 ∨ (k ≠ 0 ∧ k ≠ 76) → Y f k = J f k := fun f k hf => gY f k (by omega)
  have wY : m_wr Y mk nn K tl ms us := ⟨LY, m_me_gp w0.2.1 gY (fun f k p => by omega), m_M_up L0 LY (w_le_refl _) w0.2.2.1 w0.2.2.2 gY (fun f k p => by omega), by rw [noY _ _ (by omega)]; exact w0.2.2.2⟩
  have gIY : m_gp (fun f k => m_pi f k ∨ (f = 1000 ∧ k = 76)) I Y := m_gp_trans (m_gp_sub p0 (fun f k p => Or.inl p)) (m_gp_sub gY (fun f k p => by unfold m_pi; omega))
  have stY : m_st Y mk m (Ga m) := m_st_gp stI gIY (fun f k p c => by unfold m_pl at p; unfold m_pi at c; omega)
  have ppY : m_pp Y mk ms m (La m) := m_pp_gp (hP m hm) gIY (fun f k p c => by unfold m_pi at p; unfold m_kq at c; omega) (w_le_refl _) (fun _ _ hh => hh)
  have tkY : ∀ (k : Nat) (p : List Wt), ms[k]? = some p → m_tk Y mk K (Y 24 k).toNat p := fun k p hp => by
    rw [noY 24 k (by omega)]
    exact m_tk_gp (tkJ k p hp) LY gY (fun f k p => by omega)
  have vl := m_vl_all tkY
  have okC := w_kc_ok vl kcI
  have u23 : 0 ≤ Y 1000 23 ∧ Y 1000 23 ≤ 400000 := by
    have := wY.2.2.1
    have a := this.2.2.1
    have b := this.2.2.2.1
    omega
  have subL : ∀ c ∈ k_L (Ga m) (Ca m), c ∈ Ca m := fun c hc => by
    rcases h_ga_sub (Ca m) [] c hc with h | h
    · cases h
    · exact h
  refine ⟨(La m).length + 1, r_ga_40 (I0 := Y) (L := []) (C := Ca m) (Lk := La m) (G := Ga m) hm kcI (fun A gcA liA TA hrA adA gA v4 e4 _ => ?_) _ 0 ⟨wY, stY, ppY, tkY⟩ (show m_li Y mk K [] from ⟨y0, by decide, u23, fun k c hc => by cases hc⟩) (Or.inl rfl) rfl (m_gp_refl _ _) (by omega) (by omega)⟩
  have hdn : k_L (Ga m) (Ca m) = [] ∨ h_done (gg_T (Ga m)) (k_L (Ga m) (Ca m)) (gg_lf (Ga m)) := h_ga_ok (Ca m) [] (Or.inl rfl)
  have hok : ∀ c ∈ k_L (Ga m) (Ca m), p_cok c.1 := fun c hc => okC c (subL c hc)
  have h5 : h_p5 (k_L (Ga m) (Ca m)) := fun c hc => w_kc_5 hx5 kcI c (subL c hc)
  have hne : ∀ c ∈ k_L (Ga m) (Ca m), c.2.2 ≠ [] := fun c hc => by
    obtain ⟨i, k, hh, p, ep, sg, tg, hl, _, hp, _, e⟩ := w_kc_get kcI (subL c hc)
    obtain ⟨_, _, pm, _, e2⟩ := (ppY.2.2 i k hh hl)
    rw [e, e2]
    exact List.cons_ne_nil _ _
  have hA := m_hc stY ivG.2.2.2.1 hrA
  have gIA : m_gp (m_pcz m us) I A := m_gp_trans (m_gp_sub gIY (fun f k p => by
    rcases p with p | p
    · exact Or.inr p
    · exact Or.inl (Or.inr (Or.inl (Or.inr (Or.inr p)))))) (m_gp_sub gA (fun f k p => Or.inl (Or.inr (Or.inl p))))
  have gIB : m_gp (fun f k => m_pi f k ∨ m_pga f k) I A := m_gp_trans (m_gp_sub gIY (fun f k p => by
    rcases p with p | p
    · exact Or.inl p
    · exact Or.inr (Or.inr (Or.inr p)))) (m_gp_sub gA (fun f k p => Or.inr p))
  have a84 : A 1000 84 = ((k_ad (Ga m) (k_L (Ga m) (Ca m))).length : Nat) := adA.2.1
  have a22 : A 1000 22 = ms.length := gcA.1.2.2.1.1
  have go : (k_ad (Ga m) (k_L (Ga m) (Ca m)) ≠ [] → ms.length < 299) → rb_19_103 Q m x2 m (gg_lf (Ga m)) 0 A := fun h9 =>
    r_cm_103 hm gcA liA TA hA adA hdn hok hne ivG h5 hz hbm (by omega) h9 (fun J2 mm m1 L2 me2 M2 st2 e28 e35 e0 g2 => q m J2 mm rfl hm in1 (by omega) h9 m1 L2 me2 M2 st2 e28 e35 e0 (m_gp_trans gIA g2))
  rw [a84] at e4
  refine ⟨fun c6 => go (fun cc => absurd (List.length_eq_zero_iff.mp (by omega)) cc), fun c6 v5 e5 _ => ?_⟩
  rw [a22] at e5
  refine ⟨fun c7 => go (fun _ => by omega), fun c7 => ?_⟩
  unfold rb_19_103
  intro W eW v6 e6 _
  have gW : m_gp (fun f k => f = 1000 ∧ k = 0) A W := by rw [eW]; exact m_gp_su A 1000 0 2
  have w02 : W 1000 0 = 2 := by rw [eW]; exact su_eq _ _ _ _
  rw [w02] at e6
  refine ⟨fun c8 => absurd c8 (by omega), fun _ => q3 m W rfl hm in1 (by omega) (fun cc => ?_) (m_L_gp gcA.1.1 gW (fun f k p => by omega)) w02 (m_gp_trans gIB (m_gp_sub gW (fun f k p => Or.inl (by unfold m_pi; omega))))⟩
  rw [cc] at e4
  exact absurd c6 (by rw [e4]; decide)
end
section
variable {I J : sr_V} {nn nm us us' m : Nat} {K K' : Wt → Prop} {tl tp mk mm : List Wt} {rd : Nat → Int} {ms ms' : List (List Wt)} {x x2 : Int} {B : Nat → v_M} {v : v_M} {P : Nat → Nat → Prop} {Q : Int → sr_V → Prop} {La : List (Wt × Nat)} {Ul : List (Wt × Wt)}
/-- what a call about member m may change -/
def m_zq (m f k : Nat) : Prop := ¬ (f = 1 ∨ f = 2 ∨ f = 20 ∨ f = 21) ∧ ¬ (f = 1000 ∧ k = 3) ∧ (m_zp m f k ∨ m_pl 48 f k ∨ (f < 27 ∨ 54 < f))
theorem m_zp_48 {j f k : Nat} (hj : j < 24) (h : m_pl 48 f k) : ¬ m_zp j f k := by
  intro c
  unfold m_zp m_pl m_kq at c
  unfold m_pl at h
  rcases h with h | h <;> rcases c with c | (c | c) | (c | c) | (c | c) | c | c <;> omega
theorem m_zq_ne {j f k : Nat} (hm : m < 24) (hj : j < 24) (hn : j ≠ m) (h : m_zq m f k) : ¬ m_zp j f k := by
  rcases h.2.2 with h | h | h
  · exact m_zp_ne hm hj hn h
  · exact m_zp_48 hj h
  · exact m_zp_hi h
/-- one member's state changes -/
theorem m_ZZ_uq (hm : m < 24) (h : m_ZZ I mk us nn K tl tp rd ms B) (hL : m_L J mm nm K' tl) (hM : m_M J (w_d mm) ms') (e23 : J 1000 23 = us') (hle : w_le mk mm) (hs : w_msl ms ms') (g : m_gp P I J) (p : ∀ f k, P f k → m_zq m f k) (hz : m_zm J mm ms' m v) : m_ZZ J mm us' nm K' tl tp rd ms' (v_up B m v) := by
  have ll := w_le_len hle
  have i4 := h.1.1.2.2.2.1
  have j4 := hL.2.2.2.1
  have le4 : I 1000 4 ≤ J 1000 4 := by omega
  have he : ∀ u : Nat, (u : Int) ≤ I 1000 4 → w_d mm u = w_d mk u := fun u hu => w_le_d hle (by omega)
  have hme : m_me J mm := m_me_le (m_me_gp h.1.2.1 g (fun f k c => by have := (p f k c).1; omega)) hle
  have hP : m_P J (w_d mm) tp := m_P_e (funext (fun k => g 2 k (fun q => by have := (p _ _ q).1; omega))) (g 1000 3 (fun q => by have := (p _ _ q).2.1; omega)) le4 he h.2.1
  have hY : m_Y J rd := fun k hk => by
    rw [g 1 k (fun q => by have := (p _ _ q).1; omega)]
    exact h.2.2.1 k hk
  exact m_ZZ_up h ⟨hL, hme, hM, e23⟩ hP hY hle hs g (fun f k c j hj cj => m_zq_ne hm hj cj (p f k c)) hz
theorem m_pcz_no {f k : Nat} (h : m_pcz m us f k) : m_zq m f k ∧ (m_pl (24 + m) f k ∨ ((f = 28 ∨ f = 35) ∧ k = m) ∨ m_pl 48 f k ∨ (f < 27 ∨ 54 < f)) := by
  have mk1 : m_pl (24 + m) f k → m_zq m f k ∧ (m_pl (24 + m) f k ∨ ((f = 28 ∨ f = 35) ∧ k = m) ∨ m_pl 48 f k ∨ (f < 27 ∨ 54 < f)) := fun c => by
    have c' := c
    unfold m_pl at c'
    exact ⟨⟨by omega, by omega, Or.inl (Or.inr (Or.inr (Or.inl c)))⟩, Or.inl c⟩
  have mk2 : (f = 28 ∨ f = 35) ∧ k = m → m_zq m f k ∧ (m_pl (24 + m) f k ∨ ((f = 28 ∨ f = 35) ∧ k = m) ∨ m_pl 48 f k ∨ (f < 27 ∨ 54 < f)) := fun c => ⟨⟨by omega, by omega, Or.inl (Or.inl ⟨by omega, c.2⟩)⟩, Or.inr (Or.inl c)⟩
  have mk3 : m_pl 48 f k → m_zq m f k ∧ (m_pl (24 + m) f k ∨ ((f = 28 ∨ f = 35) ∧ k = m) ∨ m_pl 48 f k ∨ (f < 27 ∨ 54 < f)) := fun c => by
    have c' := c
    unfold m_pl at c'
    exact ⟨⟨by omega, by omega, Or.inr (Or.inl c)⟩, Or.inr (Or.inr (Or.inl c))⟩
  have mk4 : ¬ (f = 1 ∨ f = 2 ∨ f = 20 ∨ f = 21) → ¬ (f = 1000 ∧ k = 3) → (f < 27 ∨ 54 < f) → m_zq m f k ∧ (m_pl (24 + m) f k ∨ ((f = 28 ∨ f = 35) ∧ k = m) ∨ m_pl 48 f k ∨ (f < 27 ∨ 54 < f)) := fun a b c => ⟨⟨a, b, Or.inr (Or.inr c)⟩, Or.inr (Or.inr (Or.inr c))⟩
  have p2 : m_p2 f k → m_zq m f k ∧ (m_pl (24 + m) f k ∨ ((f = 28 ∨ f = 35) ∧ k = m) ∨ m_pl 48 f k ∨ (f < 27 ∨ 54 < f)) := fun c => by
    unfold m_p2 at c
    exact mk4 (by omega) (by omega) (by omega)
  have pf : m_pf us f k → m_zq m f k ∧ (m_pl (24 + m) f k ∨ ((f = 28 ∨ f = 35) ∧ k = m) ∨ m_pl 48 f k ∨ (f < 27 ∨ 54 < f)) := fun c => by
    unfold m_pf at c
    exact mk4 (by omega) (by omega) (by omega)
  have pw : m_pw us f k → m_zq m f k ∧ (m_pl (24 + m) f k ∨ ((f = 28 ∨ f = 35) ∧ k = m) ∨ m_pl 48 f k ∨ (f < 27 ∨ 54 < f)) := fun c => by
    unfold m_pw at c
    rcases c with c | c
    · exact p2 c
    · exact mk4 (by omega) (by omega) (by omega)
  unfold m_pcz at h
  rcases h with h | h
  · unfold m_pco at h
    rcases h with h | h | h
    · unfold m_pcw m_pcm at h
      rcases h with (h | h | h | h | h | h | h | h) | h
      · exact pw h
      · exact mk4 (by omega) (by omega) (by omega)
      · exact mk4 (by omega) (by omega) (by omega)
      · exact mk4 (by omega) (by omega) (by omega)
      · exact mk4 (by omega) (by omega) (by omega)
      · exact mk3 h
      · exact mk1 h
      · exact mk2 h
      · exact mk4 (by omega) (by omega) (by omega)
    · unfold m_pga m_pdn m_pdl m_pd at h
      rcases h with ((h | h) | h | h | h) | h | h
      · exact mk4 (by omega) (by omega) (by omega)
      · exact mk3 h
      · exact mk4 (by omega) (by omega) (by omega)
      · exact mk4 (by omega) (by omega) (by omega)
      · exact mk4 (by omega) (by omega) (by omega)
      · exact mk4 (by omega) (by omega) (by omega)
      · exact mk4 (by omega) (by omega) (by omega)
    · unfold m_pcp at h
      rcases h with (h | h) | h | h | h
      · exact p2 h
      · exact pf h
      · exact mk3 (Or.inr h)
      · exact mk4 (by omega) (by omega) (by omega)
      · exact mk4 (by omega) (by omega) (by omega)
  · unfold m_pi at h
    exact mk4 (by omega) (by omega) (by omega)
/-- a member that committed -/
def v_cm (m nn : Nat) (wp : Int) (L : List w_Ch) (v : v_M) : v_M := (v_in v, v_G v, some (k_M (v_G v) m nn wp L, k_G (v_G v) m nn wp L), v_La v, v_U v, v_Lk v)
theorem k_ms2_0 (G : w_G) (m nn : Nat) (wp : Int) (L : List w_Ch) : (ms ++ k_ms2 G m nn wp L)[ms.length]? = some (k_M G m nn wp L) := by
  unfold k_ms2
  split <;> simp
theorem z_cm_go {wp : Int} {L : List w_Ch} (hm : m < 24) (h : m_ZZ I mk us nn K tl tp rd ms B) (hle : w_le mk mm) (hL : m_L J mm nm K' tl) (hM : m_M J (w_d mm) (ms ++ k_ms2 (v_G (B m)) m nn wp L)) (hst : m_st J mm (24 + m) (k_G (v_G (B m)) m nn wp L)) (j28 : J 28 m = 1) (j35 : J 35 m = (ms.length : Nat)) (g : m_gp (m_pcz m us) I J) : m_ZZ J mm (J 1000 23).toNat nm K' tl tp rd (ms ++ k_ms2 (v_G (B m)) m nn wp L) (v_up B m (v_cm m nn wp L (B m))) := by
  have g0 := hM.2.2.1
  have hs := w_msl_app ms (k_ms2 (v_G (B m)) m nn wp L)
  refine m_ZZ_uq hm h hL hM (by omega) hle hs g (fun f k c => (m_pcz_no c).1) ?_
  obtain ⟨h1, h2, h3, h4, h5, h6⟩ := h.2.2.2.2 m hm
  have no : ∀ f k, m_pcz m us f k → ¬ ((f = 27 ∨ f = 45 ∨ f = 46 ∨ f = 47) ∧ k = m) ∧ ¬ m_pl m f k ∧ ¬ m_kq m f k ∧ ¬ ((f = 53 ∨ f = 54) ∧ 40 * m ≤ k ∧ k < 40 * m + 40) ∧ ¬ ((f = 48 ∨ f = 49 ∨ f = 50) ∧ 8 * m ≤ k ∧ k < 8 * m + 8) := fun f k c => by
    have q := (m_pcz_no c).2
    unfold m_pl at q
    unfold m_pl m_kq
    rcases q with (q | q) | ⟨q, q2⟩ | (q | q) | q
    · refine ⟨by omega, by omega, by omega, by omega, by omega⟩
    · refine ⟨by omega, by omega, by omega, by omega, by omega⟩
    · refine ⟨by omega, by omega, by omega, by omega, by omega⟩
    · refine ⟨by omega, by omega, by omega, by omega, by omega⟩
    · refine ⟨by omega, by omega, by omega, by omega, by omega⟩
    · refine ⟨by omega, by omega, by omega, by omega, by omega⟩
  have e27 : J 27 m = I 27 m := g 27 m (fun q => by have := (no _ _ q).1; omega)
  refine ⟨by rw [e27]; exact h1, fun hin => m_st_le (m_st_gp (h2 hin) g (fun f k a b => (no f k b).2.1 a)) hle, ?_, m_pp_gp h4 g (fun f k q => (no f k q).2.2.1) hle hs, m_up_gp h5 g (fun f k q => ⟨fun a => (no f k q).1 (by omega), (no f k q).2.2.2.1⟩) hle, m_pk_gp h6 g (fun f k q => ⟨fun a => (no f k q).1 (by omega), (no f k q).2.2.2.2⟩) hle⟩
  exact ⟨j28, ⟨ms.length, j35, k_ms2_0 _ _ _ _ _⟩, hst⟩
/-- what a call may change beside the state, with the tree that is worked on -/
def m_s8 (us f k : Nat) : Prop := m_sf us f k ∨ m_pl 48 f k
theorem m_ZZ_g8 (h : m_ZZ I mk us nn K tl tp rd ms B) (hL : m_L J mm nm K' tl) (hl : w_le mk mm) (g : m_gp P I J) (p : ∀ f k, P f k → m_s8 us f k) : m_ZZ J mm us nm K' tl tp rd ms B := by
  obtain ⟨⟨k1, k2, k3, k4⟩, h2, h3, h4, h5⟩ := h
  have no : ∀ f k, ¬ m_sf us f k → (f < 29 ∨ 44 < f) → J f k = I f k := fun f k hn hf => g f k (fun q => by
    rcases p f k q with c | c
    · exact hn c
    · unfold m_pl at c; omega)
  have i4 := k1.2.2.2.1
  have j4 := hL.2.2.2.1
  have ll := w_le_len hl
  have he : ∀ u : Nat, (u : Int) ≤ I 1000 4 → w_d mm u = w_d mk u := fun u hu => w_le_d hl (by omega)
  have e22 := no 1000 22 (by unfold m_sf; omega) (by omega)
  have e23 := no 1000 23 (by unfold m_sf; omega) (by omega)
  have e2 : J 2 = I 2 := funext (fun k => no 2 k (by unfold m_sf; omega) (by omega))
  refine ⟨⟨hL, m_me_le (m_me_gp k2 g (fun f k q => by
    rcases p f k q with c | c
    · unfold m_sf at c; omega
    · unfold m_pl at c; omega)) hl, ?_, e23.trans k4⟩, m_P_e e2 (no 1000 3 (by unfold m_sf; omega) (by omega)) (by omega) he h2, fun k hk => by rw [no 1 k (by unfold m_sf; omega) (by omega)]; exact h3 k hk, w_le_at hl h4, fun m hm => m_zm_gp hm (h5 m hm) g hl (w_msl_refl _) (fun f k q => ?_)⟩
  · obtain ⟨a1, a2, a3, a4, a5⟩ := k3
    refine ⟨e22.trans a1, a2, by rw [e23]; exact a3, by rw [e23]; exact a4, fun i l hi => ?_⟩
    obtain ⟨b1, b2, b3, b4, b5⟩ := a5 i l hi
    rw [no 24 i (by unfold m_sf; omega) (by omega), no 25 i (by unfold m_sf; omega) (by omega), e23]
    refine ⟨b1, b2, b3, b4, m_at_e (by omega) he (fun k w hk => ?_)⟩
    have hlt := (List.getElem?_eq_some_iff.mp hk).1
    rw [no 26 _ (by unfold m_sf; omega) (by omega)]
    exact b5 k w hk
  · rcases p f k q with c | c
    · unfold m_sf at c
      unfold m_pl m_kq
      exact ⟨by omega, by omega, by omega, by omega, by omega, by omega⟩
    · have c8 := m_zp_48 hm c
      unfold m_zp at c8
      exact ⟨fun c => c8 (Or.inl c), fun c => c8 (Or.inr (Or.inl c)), fun c => c8 (Or.inr (Or.inr (Or.inl c))), fun c => c8 (Or.inr (Or.inr (Or.inr (Or.inl c)))), fun c => c8 (Or.inr (Or.inr (Or.inr (Or.inr (Or.inl c))))), fun c => c8 (Or.inr (Or.inr (Or.inr (Or.inr (Or.inr c)))))⟩
theorem m_pga_s8 {f k : Nat} (h : m_pi f k ∨ m_pga f k) : m_s8 us f k := by
  rcases h with h | h
  · exact Or.inl (m_pi_sf h)
  · unfold m_pga m_pdn m_pdl m_pd at h
    rcases h with ((h | h) | h | h | h) | h | h
    · exact Or.inl (by unfold m_sf; omega)
    · exact Or.inr h
    · exact Or.inl (by unfold m_sf; omega)
    · exact Or.inl (by unfold m_sf; omega)
    · exact Or.inl (by unfold m_sf; omega)
    · exact Or.inl (by unfold m_sf; omega)
    · exact Or.inl (by unfold m_sf; omega)
/-- the changes of a commit -/
def v_L (C : List w_Ch) (v : v_M) : List w_Ch := k_L (v_G v) C
def v_wp (x2 : Int) (C : List w_Ch) (v : v_M) : Int := k_wp x2 (v_L C v)
theorem z_commit {Ca : Nat → List w_Ch} (h : m_ZZ I mk us nn K tl tp rd ms B) (hx5 : w_x5 ms) (hiv : ∀ m, m < 24 → v_in (B m) → g_iv m (v_G (B m)) ∧ w_kc K ms (v_La (B m)) (Ca m))
    (hb : ∀ m : Nat, x = m → m < 24 → v_in (B m) → ms.length < 300 → m_bS (k_S (v_G (B m)) m nn (v_wp x2 (Ca m) (B m)) (v_L (Ca m) (B m))) mk)
    (q1 : ∀ J us', (x < 0 ∨ 24 ≤ x) → m_ZZ J mk us' nn K tl tp rd ms B → J 1000 0 = 1 → Q 0 J)
    (q2 : ∀ (m : Nat) J us', x = m → m < 24 → (ms.length = 300 ∨ ¬ v_in (B m) ∨ (ms.length = 299 ∧ k_ad (v_G (B m)) (v_L (Ca m) (B m)) ≠ [])) → m_ZZ J mk us' nn K tl tp rd ms B → J 1000 0 = 2 → Q 0 J)
    (q : ∀ (m : Nat) J mm us', x = m → m < 24 → v_in (B m) → ms.length < 300 → (k_ad (v_G (B m)) (v_L (Ca m) (B m)) ≠ [] → ms.length < 299) → w_mo (k_S (v_G (B m)) m nn (v_wp x2 (Ca m) (B m)) (v_L (Ca m) (B m))) mk mm → m_ZZ J mm us' (k_nn (v_G (B m)) nn (v_wp x2 (Ca m) (B m)) (v_L (Ca m) (B m))) (k_K K (v_G (B m)) m nn (v_wp x2 (Ca m) (B m)) (v_L (Ca m) (B m))) tl tp rd (ms ++ k_ms2 (v_G (B m)) m nn (v_wp x2 (Ca m) (B m)) (v_L (Ca m) (B m))) (v_up B m (v_cm m nn (v_wp x2 (Ca m) (B m)) (v_L (Ca m) (B m)) (B m))) → J 1000 0 = 0 → Q ms.length J) : rm_19 x x2 I Q := by
  have zm := h.2.2.2.2
  have a1 : ∀ J, (x < 0 ∨ 24 ≤ x) → m_L J mk nn K tl → J 1000 0 = 1 → m_gp m_pi I J → Q 0 J := fun J c hL j0 g => q1 J us c (m_ZZ_gp h hL (w_le_refl _) g (fun f k p => m_pi_sf p)) j0
  have a2 : ∀ (m : Nat) J, x = m → m < 24 → (ms.length = 300 ∨ I 27 m = 0) → m_L J mk nn K tl → J 1000 0 = 2 → m_gp m_pi I J → Q 0 J := fun m J hx hm c hL j0 g => q2 m J us hx hm (by
    rcases c with c | c
    · exact Or.inl c
    · exact Or.inr (Or.inl (m_zm_no (zm m hm) c))) (m_ZZ_gp h hL (w_le_refl _) g (fun f k p => m_pi_sf p)) j0
  refine r_commit2 (Ga := fun m => v_G (B m)) (La := fun m => v_La (B m)) (Ca := Ca) h.1 hx5 h.2.2.2.1 (fun m hm => (m_zm_01 (zm m hm)).1) (fun m hm h1 => ⟨(zm m hm).2.1 (m_zm_yes (zm m hm) h1), (hiv m hm (m_zm_yes (zm m hm) h1)).1⟩) (fun m hm => (zm m hm).2.2.2.1) (fun m hm h1 => (hiv m hm (m_zm_yes (zm m hm) h1)).2) (fun m hx hm h1 => hb m hx hm (m_zm_yes (zm m hm) h1)) a1 a2 (fun m J hx hm h1 h9 hne hL j0 g => ?_) (fun m J mm hx hm h1 h3 h9 hmo hL hme hM hst j28 j35 j0 g => ?_)
  · exact q2 m J us hx hm (Or.inr (Or.inr ⟨h9, hne⟩)) (m_ZZ_g8 h hL (w_le_refl _) g (fun f k p => m_pga_s8 p)) j0
  · exact q m J mm _ hx hm (m_zm_yes (zm m hm) h1) h3 h9 hmo (z_cm_go hm h hmo.1 hL hM hst j28 j35 g) j0
end
end
