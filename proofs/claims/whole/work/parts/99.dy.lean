/-! ===== the reference: readWelcome, whole ===== -/
noncomputable section
variable {I J : sr_V} {nn fr mi : Nat} {K : Wt → Prop} {tl mk mm l : List Wt} {ms : List (List Wt)} {a b c y n : Int} {Q : Int → sr_V → Prop} {R : sr_V → Prop} {st : p_S} {w : Wt} {x i e p : Nat} {v : p_V}
/-- what a WELCOME is behind its rows -/
def p_w1 (l : List Wt) (st : p_S) : p_S := p_to (p_32 l st)
def p_w2 (K : Wt → Prop) (l : List Wt) (st : p_S) : p_S := p_to (p_t K 1 l (p_w1 l st))
def p_w3 (K : Wt → Prop) (l : List Wt) (st : p_S) : p_S := p_to (p_h K l (p_w2 K l st))
def p_w4 (K : Wt → Prop) (l : List Wt) (st : p_S) : p_S := p_to (p_16 l (p_w3 K l st))
def p_w5 (K : Wt → Prop) (l : List Wt) (st : p_S) : p_S := p_to (p_tr K l (p_w4 K l st))
def p_w6 (K : Wt → Prop) (l : List Wt) (st : p_S) : p_S := p_to (p_t K 2 l (p_w5 K l st))
def p_w7 (K : Wt → Prop) (l : List Wt) (st : p_S) : p_S := p_to (p_t K 7 l (p_w6 K l st))
/-- what was read of it, in the reference's numbers -/
def m_w8 (J : sr_V) (mk : List Wt) (K : Wt → Prop) (fr : Nat) (l : List Wt) (st : p_S) : Prop := (∀ i e, st = some (i, e) → J 1000 114 = ((fr + i : Nat) : Int)) ∧ (∀ z s, p_32 l st = some (z, s) → J 1000 115 = z) ∧ (∀ w s, p_t K 1 l (p_w1 l st) = some (w, s) → w_at mk (J 1000 116) w) ∧ (∀ w s, p_h K l (p_w2 K l st) = some (w, s) → w_az mk (J 1000 117) w) ∧ (∀ z s, p_16 l (p_w3 K l st) = some (z, s) → J 1000 118 = z)
theorem r_we_50 {x2 : Int} (hvl : w_vl l) (hx : m_tk I mk K fr l) (h : m_rd (su I 1000 58 x2) fr l st) (q : ∀ z J, ((z = 1 ∧ ∃ e, p_w7 K l st = some (e, e)) ∨ (z = 0 ∧ ∀ e, p_w7 K l st ≠ some (e, e))) → m_w8 J mk K fr l st → (∀ ns s, p_tr K l (p_w4 K l st) = some (ns, s) → m_tr J mk 48 (t_of ns) ∧ ∀ x, x < ns.length → J 44 (1488 + x) = 0) → (∀ w s, p_t K 2 l (p_w5 K l st) = some (w, s) → w_at mk (J 1000 104) w) → (∀ i e, p_w6 K l st = some (i, e) → J 1000 119 = ((fr + i : Nat) : Int)) → (∀ w s, p_t K 7 l (p_w6 K l st) = some (w, s) → w_at mk (J 1000 120) w) → J 1000 112 = I 1000 112 → J 1000 113 = I 1000 113 → m_gp m_pwl I J → Q z J) : rb_234_50 Q x2 I := by
  unfold rb_234_50
  intro I1 e1
  rw [← e1] at h
  have g1 : m_gp m_pwl I I1 := m_pwl_s e1 (by omega)
  have s1 : ∀ k, 76 ≤ k → I1 1000 k = I 1000 k := fun k hk => by rw [e1, su_k (by omega)]
  clear e1
  intro v49 e49 _ I2 e2
  have g2 : m_gp m_pwl I I2 := m_gp_trans g1 (m_pwl_s e2 (by omega))
  have r2 : m_rd I2 fr l st := by rw [e2]; exact m_rd_su h (by omega)
  have y112 : I2 1000 112 = I 1000 112 := by rw [e2, su_k (by decide)]; exact s1 112 (by omega)
  have y113 : I2 1000 113 = I 1000 113 := by rw [e2, su_k (by decide)]; exact s1 113 (by omega)
  have y114 : ∀ i e, st = some (i, e) → I2 1000 114 = ((fr + i : Nat) : Int) := fun i e hs => by
    rw [e2, su_eq, e49]
    rw [hs] at h
    exact h.1
  clear e2 s1
  refine r_u32 (m_tk_pwl hx g2) r2 (fun z3 J3 r3 v3 _ f3 _ => ?_)
  intro I4 e4
  have g4 : m_gp m_pwl I I4 := m_gp_trans g2 (m_gp_trans (m_pwl_F f3) (m_pwl_s e4 (by omega)))
  have r4 : m_rd I4 fr l (p_w1 l st) := by rw [e4]; exact m_rd_su r3 (by omega)
  have b4 : ∀ k, 76 ≤ k → k ≠ 115 → I4 1000 k = I2 1000 k := fun k hk hk2 => by rw [e4, su_k hk2, f3.2 k (by simp; omega)]
  have y115 : I4 1000 115 = z3 := by rw [e4, su_eq]
  clear e4 f3
  refine r_readTerm (so := 1) (by decide) (m_tk_pwl hx g4) r4 (fun z5 J5 r5 v5 _ f5 _ => ?_)
  intro I6 e6
  have g6 : m_gp m_pwl I I6 := m_gp_trans g4 (m_gp_trans (m_pwl_F f5) (m_pwl_s e6 (by omega)))
  have r6 : m_rd I6 fr l (p_w2 K l st) := by rw [e6]; exact m_rd_su r5 (by omega)
  have b6 : ∀ k, 76 ≤ k → k ≠ 116 → I6 1000 k = I4 1000 k := fun k hk hk2 => by rw [e6, su_k hk2, f5.2 k (by simp; omega)]
  have y116 : I6 1000 116 = z5 := by rw [e6, su_eq]
  clear e6 f5
  refine r_readPerhaps (m_tk_pwl hx g6) r6 (fun z7 J7 r7 v7 _ f7 _ => ?_)
  intro I8 e8
  have g8 : m_gp m_pwl I I8 := m_gp_trans g6 (m_gp_trans (m_pwl_F f7) (m_pwl_s e8 (by omega)))
  have r8 : m_rd I8 fr l (p_w3 K l st) := by rw [e8]; exact m_rd_su r7 (by omega)
  have b8 : ∀ k, 76 ≤ k → k ≠ 117 → I8 1000 k = I6 1000 k := fun k hk hk2 => by rw [e8, su_k hk2, f7.2 k (by simp; omega)]
  have y117 : I8 1000 117 = z7 := by rw [e8, su_eq]
  clear e8 f7
  refine r_u16 (m_tk_pwl hx g8) r8 (fun z9 J9 r9 v9 _ _ f9 _ => ?_)
  intro I10 e10
  have g10 : m_gp m_pwl I I10 := m_gp_trans g8 (m_gp_trans (m_pwl_F f9) (m_pwl_s e10 (by omega)))
  have r10 : m_rd I10 fr l (p_w4 K l st) := by rw [e10]; exact m_rd_su r9 (by omega)
  have b10 : ∀ k, 76 ≤ k → k ≠ 118 → I10 1000 k = I8 1000 k := fun k hk hk2 => by rw [e10, su_k hk2, f9.2 k (by simp; omega)]
  have y118 : I10 1000 118 = z9 := by rw [e10, su_eq]
  clear e10 f9
  have w8 : ∀ {X : sr_V}, (∀ k, 112 ≤ k → k ≤ 118 → X 1000 k = I10 1000 k) → m_w8 X mk K fr l st := fun {X} hX => by
    refine ⟨fun i e hs => ?_, fun z s hs => ?_, fun w s hs => ?_, fun w s hs => ?_, fun z s hs => ?_⟩
    · rw [hX 114 (by omega) (by omega), b10 114 (by omega) (by omega), b8 114 (by omega) (by omega), b6 114 (by omega) (by omega), b4 114 (by omega) (by omega)]
      exact y114 i e hs
    · rw [hX 115 (by omega) (by omega), b10 115 (by omega) (by omega), b8 115 (by omega) (by omega), b6 115 (by omega) (by omega), y115]
      exact v3 z s hs
    · rw [hX 116 (by omega) (by omega), b10 116 (by omega) (by omega), b8 116 (by omega) (by omega), y116]
      exact v5 w s hs
    · rw [hX 117 (by omega) (by omega), b10 117 (by omega) (by omega), y117]
      exact v7 w s hs
    · rw [hX 118 (by omega) (by omega), y118]
      exact v9 z s hs
  have y112 : I10 1000 112 = I 1000 112 := by rw [b10 112 (by omega) (by omega), b8 112 (by omega) (by omega), b6 112 (by omega) (by omega), b4 112 (by omega) (by omega)]; exact y112
  have y113 : I10 1000 113 = I 1000 113 := by rw [b10 113 (by omega) (by omega), b8 113 (by omega) (by omega), b6 113 (by omega) (by omega), b4 113 (by omega) (by omega)]; exact y113
  clear b4 b6 b8 b10 y114 y115 y116 y117 y118 v3 v5 v7 v9 r9 r7 r5 r3 r2 r4 r6 r8
  -- the end
  have fin : ∀ {X : sr_V}, m_rd X fr l (p_w5 K l st) → (∀ ns s, p_tr K l (p_w4 K l st) = some (ns, s) → m_tr X mk 48 (t_of ns) ∧ ∀ x, x < ns.length → X 44 (1488 + x) = 0) → m_gp m_pNs I10 X → rb_234_79 Q X := by
    intro X rX tX gX
    have pX := m_gp_trans g10 (m_pwl_N gX)
    refine r_we_79 (m_tk_pwl hx pX) rX (fun z J rJ hz x104 x119 x120 fJ => ?_)
    have bk : ∀ k, 112 ≤ k → k ≤ 118 → J 1000 k = I10 1000 k := fun k h1 h2 => by rw [fJ.2 k (by simp; omega), gX 1000 k (by unfold m_pNs; omega)]
    refine q z J hz (w8 bk) (fun ns s hs => ?_) x104 x119 x120 (by rw [bk 112 (by omega) (by omega)]; exact y112) (by rw [bk 113 (by omega) (by omega)]; exact y113) (m_gp_trans pX (m_gp_sub (m_fr_gp fJ) (fun f k q => ?_)))
    · obtain ⟨t1, t2⟩ := tX ns s hs
      have ea : ∀ g, g ≠ 1000 → J g = X g := fun g hg => fJ.1 g (by simp) hg
      refine ⟨?_, fun x hx => by rw [ea 44 (by decide)]; exact t2 x hx⟩
      unfold m_tr at t1 ⊢
      rw [ea 31 (by decide), ea 36 (by decide), ea 37 (by decide), ea 38 (by decide), ea 39 (by decide), ea 40 (by decide), ea 43 (by decide), ea 41 (by decide), ea 42 (by decide)]
      exact t1
    · simp only [List.mem_cons, List.not_mem_nil, or_false, and_false, false_or] at q
      by_cases c : k = 57 ∨ k = 58 ∨ k = 59
      · exact Or.inl (Or.inr (Or.inl ⟨q.1, by omega, by omega⟩))
      · exact Or.inr ⟨q.1, by omega⟩
  intro v105 e105 _
  obtain ⟨S, eS⟩ : ∃ S, p_w4 K l st = S := ⟨_, rfl⟩
  rw [eS] at r10
  cases S with
  | none =>
    have b59 := r10.2.2.2.2
    refine ⟨fun _ => fin ?_ (fun ns s hs => by rw [eS] at hs; exact absurd hs (by simp [p_tr, p_row, p_r, p_16, p_8])) (m_gp_refl _ _), fun c => by omega⟩
    unfold p_w5
    rw [eS]
    exact r10
  | some s =>
    obtain ⟨i0, e0⟩ := s
    have b59 := r10.2.2.1
    refine ⟨fun c => by omega, fun _ => ?_⟩
    refine r_readNodes hvl (m_tk_pwl hx g10) r10 (fun J rJ tJ gJ => fin ?_ ?_ gJ)
    · unfold p_w5; rw [eS]; exact rJ
    · rw [eS]; exact tJ
/-- a WELCOME as the reference has read it -/
def m_wev (J : sr_V) (mk : List Wt) (fr : Nat) (l : List Wt) (ep : Int) (b e1 : Nat) (th cf : Wt) (sd : Int) (ns : List p_V) (cm sg : Wt) : Prop := J 1000 112 = ((fr + b : Nat) : Int) ∧ J 1000 113 = ((fr + e1 : Nat) : Int) ∧ J 1000 114 = ((fr + e1 : Nat) : Int) ∧ J 1000 115 = ep ∧ w_at mk (J 1000 116) th ∧ w_az mk (J 1000 117) cf ∧ J 1000 118 = sd ∧ m_tr J mk 48 (t_of ns) ∧ (∀ x, x < ns.length → J 44 (1488 + x) = 0) ∧ w_at mk (J 1000 104) cm ∧ J 1000 119 = ((fr + (l.length - 1) : Nat) : Int) ∧ w_at mk (J 1000 120) sg
theorem r_readWelcome (hvl : w_vl l) (hM : m_M I (w_d mk) ms) (hmi : ms[mi]? = some l) (hx : m_tk I mk K (I 24 mi).toNat l) (q1 : ∀ ep b e1 prs th cf sd ns cm sg J, p_we K l ep b e1 prs th cf sd ns cm sg → m_wev J mk (I 24 mi).toNat l ep b e1 th cf sd ns cm sg → m_gp m_pwl I J → Q 1 J) (q0 : ∀ J, (∀ ep b e1 prs th cf sd ns cm sg, ¬ p_we K l ep b e1 prs th cf sd ns cm sg) → m_gp m_pwl I J → Q 0 J) : rm_234 mi I Q := by
  obtain ⟨m1, m2, m3, m4, m5⟩ := hM
  obtain ⟨a1, a2, a3, a4, a5⟩ := m5 mi l hmi
  have mlt : mi < ms.length := (List.getElem?_eq_some_iff.mp hmi).1
  have hb := hx.2.1
  obtain ⟨fr, efr⟩ : ∃ fr : Nat, I 24 mi = fr := ⟨(I 24 mi).toNat, by omega⟩
  rw [efr, Int.toNat_natCast] at hx hb q1
  unfold rm_234
  refine ⟨by omega, by omega, ?_⟩
  intro v204 e204 _
  refine ⟨by omega, by omega, ?_⟩
  intro v207 e207 _
  refine ⟨by omega, by omega, ?_⟩
  intro v210 e210 _
  rw [Int.toNat_natCast, efr] at e204 e207
  rw [Int.toNat_natCast, a2] at e210
  rw [e204, e207, e210, sw_w_s (by omega) (by omega)]
  refine r_beginAt (i := 0) (e := l.length) (l := l) (fr := fr) (by omega) (by omega) (by omega) (Nat.le_refl _) (fun J1 r1 f1 => ?_)
  have p1 := m_pwl_F f1
  refine r_u8 (m_tk_pwl hx p1) r1 (fun z2 J2 r2 v2 _ _ f2 _ => ?_)
  have p2 := m_gp_trans p1 (m_pwl_F f2)
  refine r_readRow (m_tk_pwl hx p2) r2 (fun z3 J3 r3 v3 l3 u3 f3 _ => ?_)
  have p3 := m_gp_trans p2 (m_pwl_F f3)
  intro I4 e4 v5 e5 _ I6 e6 v7 e7 _ v8 e8 _ I9 e9
  have x113 : I9 1000 113 = z3 := by rw [e9, su_k (by decide), e6, su_k (by decide), e4, su_eq]
  have x112 : I9 1000 112 = J3 1000 57 := by rw [e9, su_k (by decide), e6, su_eq, e5, e4, su_k (by decide)]
  have y7 : v7 = J3 1000 58 := by rw [e7, e6, su_k (by decide), e4, su_k (by decide)]
  have y8 : v8 = z3 := by rw [e8, e6, su_k (by decide), e4, su_eq]
  have x57 : I9 1000 57 = J3 1000 57 := by rw [e9, su_k (by decide), e6, su_k (by decide), e4, su_k (by decide)]
  have x58 : I9 1000 58 = z3 := by rw [e9, su_eq, y8]
  have x59 : I9 1000 59 = J3 1000 59 := by rw [e9, su_k (by decide), e6, su_k (by decide), e4, su_k (by decide)]
  have p9 : m_gp m_pwl I I9 := m_gp_trans p3 (m_gp_trans (m_pwl_s e4 (by omega)) (m_gp_trans (m_pwl_s e6 (by omega)) (m_pwl_s e9 (by omega))))
  clear e4 e5 e6 e7 e8 e9
  have hx9 := m_tk_pwl hx p9
  obtain ⟨S1, eS1⟩ : ∃ S, p_to (p_8 l (some (0, l.length))) = S := ⟨_, rfl⟩
  rw [eS1] at r3 v3
  have w7 : p_weS K l = p_w7 K l (p_to (p_row (p_all (p_hs K l)) l S1)) := by rw [← eS1]; rfl
  -- behind the rows
  have last : ∀ {X : sr_V} {x2 : Int}, m_rd (su X 1000 58 x2) fr l (p_to (p_row (p_all (p_hs K l)) l S1)) → X 1000 113 = I9 1000 113 → X 1000 112 = I9 1000 112 → m_gp m_pwl I X → (∀ b prs s, p_row (p_all (p_hs K l)) l S1 = some ((b, prs), s) → I9 1000 112 = ((fr + b : Nat) : Int) ∧ I9 1000 113 = ((fr + s.1 : Nat) : Int)) → rb_234_50 Q x2 X := by
    intro X x2 rX h113 h112 gX hrow
    refine r_we_50 hvl (m_tk_pwl hx gX) rX (fun z J hz w8 tr c104 c119 c120 y112 y113 gJ => ?_)
    rw [← w7] at hz
    rcases hz with ⟨hz, e, he⟩ | ⟨hz, he⟩
    · rw [hz]
      obtain ⟨ee, hp⟩ := p_we_st he
      obtain ⟨ep, b, e1, prs, th, cf, sd, ns, cm, sg, hp⟩ := hp rfl
      obtain ⟨u0, ⟨b0, u1⟩, u2, u3, u4, u5, u6, u7, u8, u9⟩ := id hp
      have hS1 : S1 = some (1, l.length) := by rw [← eS1, u1, p_to_s]
      rw [hS1] at hrow w8 tr c104 c119 c120
      obtain ⟨o1, o2⟩ := hrow b prs _ u2
      have o2 : I9 1000 113 = ((fr + e1 : Nat) : Int) := o2
      rw [u2, p_to_s] at w8 tr c104 c119 c120
      have k1 : p_w1 l (some (e1, l.length)) = some (e1 + 4, l.length) := by unfold p_w1; rw [u3, p_to_s]
      have k2 : p_w2 K l (some (e1, l.length)) = some (e1 + 5, l.length) := by unfold p_w2; rw [k1, u4, p_to_s]
      have k3 : p_w3 K l (some (e1, l.length)) = some (e1 + 6, l.length) := by unfold p_w3; rw [k2, u5, p_to_s]
      have k4 : p_w4 K l (some (e1, l.length)) = some (e1 + 8, l.length) := by unfold p_w4; rw [k3, u6, p_to_s]
      have k5 : p_w5 K l (some (e1, l.length)) = some (l.length - 2, l.length) := by unfold p_w5; rw [k4, u7, p_to_s]
      have k6 : p_w6 K l (some (e1, l.length)) = some (l.length - 1, l.length) := by unfold p_w6; rw [k5, u8, p_to_s]
      obtain ⟨d1, d2, d3, d4, d5⟩ := w8
      rw [k1] at d3
      rw [k2] at d4
      rw [k3] at d5
      rw [k4] at tr
      rw [k5] at c104
      rw [k6] at c119 c120
      obtain ⟨t1, t2⟩ := tr ns _ u7
      exact q1 ep b e1 prs th cf sd ns cm sg J hp ⟨by rw [y112, h112]; exact o1, by rw [y113, h113]; exact o2, d1 _ _ rfl, d2 _ _ u3, d3 _ _ u4, d4 _ _ u5, d5 _ _ u6, t1, t2, c104 _ _ u8, c119 _ _ rfl, c120 _ _ u9⟩ (m_gp_trans gX gJ)
    · rw [hz]
      refine q0 J (fun ep b e1 prs th cf sd ns cm sg hp => ?_) (m_gp_trans gX gJ)
      exact he _ (p_we_S hp)
  obtain ⟨o, eo⟩ : ∃ o, p_r l S1 = o := ⟨_, rfl⟩
  rw [eo] at r3 v3
  cases o with
  | none =>
    have r3 : m_rd J3 fr l none := r3
    obtain ⟨n1, n2, n3, n4, n5⟩ := r3
    have rn : p_row (p_all (p_hs K l)) l S1 = none := by unfold p_row; rw [eo]; rfl
    refine ⟨1, ?_⟩
    unfold rl_234_33
    intro w1 ew1 _
    refine ⟨fun _ => last ?_ rfl rfl p9 (fun b prs s hs => by rw [rn] at hs; exact absurd hs (by simp)), fun c => by omega⟩
    rw [rn]
    refine ⟨by rw [su_k (by decide), x57]; exact n1, by rw [su_k (by decide), x57]; exact n2, by rw [su_eq, y7]; exact n3, by rw [su_eq, y7]; exact n4, by rw [su_k (by decide), x59]; exact n5⟩
  | some ro =>
    obtain ⟨en, i1, e1⟩ := ro
    cases S1 with
    | none => exact absurd eo (by simp [p_r, p_16, p_8])
    | some s0 =>
    obtain ⟨i0, e0⟩ := s0
    obtain ⟨t1, t2, t3, t4, t5⟩ := p_r_ix eo
    subst t2
    have r3 : m_rd J3 fr l (some (i1, e1)) := r3
    obtain ⟨b1, b2, b3, b4, b5⟩ := r3
    have ez : z3 = ((fr + en : Nat) : Int) := v3 en _ rfl
    have rowd : p_row (p_all (p_hs K l)) l (some (i0, e1)) = (p_many (p_hs K l) (en - i1) (some (i1, en))).bind (fun a => if a.2.1 = en then some ((i1, a.1), a.2.1, e1) else none) := by
      unfold p_row
      rw [eo]
      rfl
    refine ⟨en - i1 + 1, ?_⟩
    refine r_prs (en := en) (by omega) (en - i1 + 1) i1 hx9 ⟨by rw [x57]; exact b1, by rw [x58]; exact ez, by rw [x59]; exact b3, t4, by omega⟩ (by rw [x113]; exact ez) (by omega) (fun prs s X hm X57 X59 fX => ?_) (fun X hm rX fX => ?_)
    · have hs := p_many_end p_hs_fw t4 hm
      subst hs
      have rv : p_row (p_all (p_hs K l)) l (some (i0, e1)) = some ((i1, prs), en, e1) := by
        rw [rowd, hm]
        exact if_pos rfl
      refine last ?_ (fX.2 113 (by decide)) (fX.2 112 (by decide)) (m_gp_trans p9 (m_pwl_F fX)) (fun b prs' s hs => ?_)
      · rw [rv, p_to_s]
        exact ⟨by rw [su_k (by decide)]; exact X57, by rw [su_eq, y7]; exact b2, by rw [su_k (by decide)]; exact X59, t3, b5⟩
      · rw [rv] at hs
        have hs := Option.some.inj hs
        simp only [Prod.mk.injEq] at hs
        rw [x112, x113, ez, b1, ← hs.1.1, ← hs.2]
        exact ⟨rfl, rfl⟩
    · have rv : p_row (p_all (p_hs K l)) l (some (i0, e1)) = none := by rw [rowd, hm]; rfl
      obtain ⟨n1, n2, n3, n4, n5⟩ := rX
      refine last ?_ (fX.2 113 (by decide)) (fX.2 112 (by decide)) (m_gp_trans p9 (m_pwl_F fX)) (fun b prs' s hs => by rw [rv] at hs; exact absurd hs (by simp))
      rw [rv]
      exact ⟨by rw [su_k (by decide)]; exact n1, by rw [su_k (by decide)]; exact n2, by rw [su_eq, y7, b2]; omega, by rw [su_eq, y7, b2]; omega, by rw [su_k (by decide)]; exact n5⟩
end
