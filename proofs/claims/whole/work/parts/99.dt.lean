/-! ===== the reference: readCommit, all of it ===== -/
noncomputable section
variable {I J : sr_V} {nn fr mi : Nat} {K : Wt → Prop} {tl mk mm l : List Wt} {ms : List (List Wt)} {a b c x y n : Int} {Q : Int → sr_V → Prop} {R : sr_V → Prop} {st : p_S} {w : Wt}
/-- what the reference has of a COMMIT -/
def m_cmv (I : sr_V) (mk : List Wt) (fr : Nat) (l : List Wt) (sd : Int) (e1 : Nat) (es : List p_E) (pt : Option p_P) (sg cf tg : Wt) : Prop := I 1000 101 = sd ∧ m_es I mk fr es ∧ I 1000 102 = ((fr + (l.length - 3) : Nat) : Int) ∧ w_at mk (I 1000 103) sg ∧ w_at mk (I 1000 104) cf ∧ I 1000 106 = ((fr + (l.length - 1) : Nat) : Int) ∧ w_at mk (I 1000 107) tg ∧ match pt with
  | none => I 1000 100 = 0
  | some (_, ns) => I 1000 100 = 1 ∧ I 1000 111 = ((fr + (e1 + 1) : Nat) : Int) ∧ m_pns I mk fr ns
/-- the end of a COMMIT -/
theorem r_cm_end (hx : m_tk I mk K fr l) (h : m_rd I fr l st) (q : ∀ z J, m_rd J fr l (p_to (p_t K 2 l (p_to (p_t K 2 l (p_to (p_t K 7 l st)))))) → ((z = 1 ∧ p_to (p_t K 2 l (p_to (p_t K 2 l (p_to (p_t K 7 l st))))) = some (l.length, l.length)) ∨ (z = 0 ∧ ∀ e, p_to (p_t K 2 l (p_to (p_t K 2 l (p_to (p_t K 7 l st))))) ≠ some (e, e))) → (∀ i e, st = some (i, e) → J 1000 102 = ((fr + i : Nat) : Int)) → (∀ w s, p_t K 7 l st = some (w, s) → w_at mk (J 1000 103) w) → (∀ w s, p_t K 2 l (p_to (p_t K 7 l st)) = some (w, s) → w_at mk (J 1000 104) w) → (∀ i e, p_to (p_t K 2 l (p_to (p_t K 7 l st))) = some (i, e) → J 1000 106 = ((fr + i : Nat) : Int)) → (∀ w s, p_t K 2 l (p_to (p_t K 2 l (p_to (p_t K 7 l st)))) = some (w, s) → w_at mk (J 1000 107) w) → m_fr [] [57, 58, 59, 102, 103, 104, 106, 107] I J → Q z J) (hend : ∀ i e, p_to (p_t K 2 l (p_to (p_t K 2 l (p_to (p_t K 7 l st))))) = some (i, e) → e = l.length) : rb_221_137 Q I := by
  have up : ∀ {A B : sr_V}, m_fr [] [57, 58, 59] A B → m_fr [] [57, 58, 59, 102, 103, 104, 106, 107] A B := fun {A B} f => m_fr_sub f (by simp) (by simp)
  unfold rb_221_137
  intro v1 e1 _ I5 e5
  have f5 : m_fr [] [57, 58, 59, 102, 103, 104, 106, 107] I I5 := by rw [e5]; exact m_su_fr (by simp)
  refine r_readTerm (so := 7) (by decide) (m_tk_f hx f5) (by rw [e5]; exact m_rd_su h (by omega)) (fun z2 J2 r2 v2 _ f2 _ => ?_)
  intro I17 e17
  have f17 : m_fr [] [57, 58, 59, 102, 103, 104, 106, 107] J2 I17 := by rw [e17]; exact m_su_fr (by simp)
  have F17 := m_fr_trans f5 (m_fr_trans (up f2) f17)
  refine r_readTerm (so := 2) (by decide) (m_tk_f hx F17) (by rw [e17]; exact m_rd_su r2 (by omega)) (fun z3 J3 r3 v3 _ f3 _ => ?_)
  intro I29 e29 v33 e33 _ I37 e37
  have f29 : m_fr [] [57, 58, 59, 102, 103, 104, 106, 107] J3 I29 := by rw [e29]; exact m_su_fr (by simp)
  have f37 : m_fr [] [57, 58, 59, 102, 103, 104, 106, 107] I29 I37 := by rw [e37]; exact m_su_fr (by simp)
  have F37 := m_fr_trans F17 (m_fr_trans (up f3) (m_fr_trans f29 f37))
  refine r_readTerm (so := 2) (by decide) (m_tk_f hx F37) (by rw [e37, e29]; exact m_rd_su (m_rd_su r3 (by omega)) (by omega)) (fun z4 J4 r4 v4 _ f4 _ => ?_)
  intro I49 e49
  have f49 : m_fr [] [57, 58, 59, 102, 103, 104, 106, 107] J4 I49 := by rw [e49]; exact m_su_fr (by simp)
  have F49 := m_fr_trans F37 (m_fr_trans (up f4) f49)
  have r49 : m_rd I49 fr l (p_to (p_t K 2 l (p_to (p_t K 2 l (p_to (p_t K 7 l st)))))) := by rw [e49]; exact m_rd_su r4 (by omega)
  have y102 : I49 1000 102 = I 1000 57 := by rw [e49, su_k (by decide), f4.2 102 (by decide), e37, su_k (by decide), e29, su_k (by decide), f3.2 102 (by decide), e17, su_k (by decide), f2.2 102 (by decide), e5, su_eq, e1]
  have y103 : I49 1000 103 = z2 := by rw [e49, su_k (by decide), f4.2 103 (by decide), e37, su_k (by decide), e29, su_k (by decide), f3.2 103 (by decide), e17, su_eq]
  have y104 : I49 1000 104 = z3 := by rw [e49, su_k (by decide), f4.2 104 (by decide), e37, su_k (by decide), e29, su_eq]
  have y106 : I49 1000 106 = J3 1000 57 := by rw [e49, su_k (by decide), f4.2 106 (by decide), e37, su_eq, e33, e29, su_k (by decide)]
  have y107 : I49 1000 107 = z4 := by rw [e49, su_eq]
  have go : ∀ z : Int, ((z = 1 ∧ p_to (p_t K 2 l (p_to (p_t K 2 l (p_to (p_t K 7 l st))))) = some (l.length, l.length)) ∨ (z = 0 ∧ ∀ e, p_to (p_t K 2 l (p_to (p_t K 2 l (p_to (p_t K 7 l st))))) ≠ some (e, e))) → Q z I49 := by
    intro z hz
    refine q z I49 r49 hz (fun i e hst => ?_) (fun w s hw => by rw [y103]; exact v2 w s hw) (fun w s hw => by rw [y104]; exact v3 w s hw) (fun i e hst => ?_) (fun w s hw => by rw [y107]; exact v4 w s hw) F49
    · subst hst; rw [y102]; exact h.1
    · rw [hst] at r3; rw [y106]; exact r3.1
  clear e49 e37 e29 e17 e5
  obtain ⟨S, eS⟩ : ∃ S, p_to (p_t K 2 l (p_to (p_t K 2 l (p_to (p_t K 7 l st))))) = S := ⟨_, rfl⟩
  rw [eS] at r49 go hend
  intro v53 e53 _
  cases S with
  | none =>
    have := r49.2.2.2.2
    exact ⟨fun _ => go 0 (Or.inr ⟨rfl, fun e => by simp⟩), fun c => by omega⟩
  | some s =>
    obtain ⟨i, e⟩ := s
    obtain ⟨m1, m2, m3, _⟩ := r49
    have m1 : I49 1000 57 = ((fr + i : Nat) : Int) := m1
    have m2 : I49 1000 58 = ((fr + e : Nat) : Int) := m2
    have m3 : I49 1000 59 = 0 := m3
    have he := hend i e rfl
    refine ⟨fun c => by omega, fun _ => ?_⟩
    intro v56 e56 _ v59 e59 _
    refine ⟨fun c => go 0 (Or.inr ⟨rfl, fun e' h => ?_⟩), fun c => go 1 (Or.inl ⟨rfl, ?_⟩)⟩
    · have := Prod.mk.inj (Option.some.inj h)
      omega
    · have : i = e := by omega
      rw [this, he]
theorem r_readCommit (hl : l.length ≤ 1200) (hM : m_M I (w_d mk) ms) (hmi : ms[mi]? = some l) (hx : m_tk I mk K (I 24 mi).toNat l) (q1 : ∀ ep sd b e1 es pt sg cf tg J, p_cm K l ep sd b e1 es pt sg cf tg → m_cmv J mk (I 24 mi).toNat l sd e1 es pt sg cf tg → m_gp m_pcr I J → Q 1 J) (q0 : ∀ J, (∀ ep sd b e1 es pt sg cf tg, ¬ p_cm K l ep sd b e1 es pt sg cf tg) → m_gp m_pcr I J → Q 0 J) : rm_221 mi I Q := by
  obtain ⟨m1, m2, m3, m4, m5⟩ := hM
  obtain ⟨a1, a2, a3, a4, a5⟩ := m5 mi l hmi
  have mlt : mi < ms.length := (List.getElem?_eq_some_iff.mp hmi).1
  have hb := hx.2.1
  obtain ⟨fr, efr⟩ : ∃ fr : Nat, I 24 mi = fr := ⟨(I 24 mi).toNat, by omega⟩
  rw [efr, Int.toNat_natCast] at hx hb q1
  -- nothing was read
  have no : ∀ {J : sr_V}, p_cmS K l = none → m_gp m_pcr I J → Q 0 J := fun {J} h p => q0 J (fun ep sd b e1 es pt sg cf tg hp => by
    rw [p_cm_S hp] at h
    exact absurd h (by simp)) p
  unfold rm_221
  refine ⟨by omega, by omega, ?_⟩
  intro v204 e204 _
  refine ⟨by omega, by omega, ?_⟩
  intro v207 e207 _
  refine ⟨by omega, by omega, ?_⟩
  intro v210 e210 _
  rw [Int.toNat_natCast, efr] at e204 e207
  rw [Int.toNat_natCast, a2] at e210
  rw [e204, e207, e210, sw_w_s (by omega) (by omega)]
  refine r_beginAt (i := 0) (e := l.length) (l := l) (fr := fr) (by omega) (by omega) (by omega) (Nat.le_refl _) (fun J1 r1 f1 => ?_)
  have p1 := m_pcr_F f1
  refine r_u8 (m_tk_pcr hx p1) r1 (fun z2 J2 r2 v2 _ _ f2 _ => ?_)
  have p2 := m_gp_trans p1 (m_pcr_F f2)
  refine r_u32 (m_tk_pcr hx p2) r2 (fun z3 J3 r3 v3 _ f3 _ => ?_)
  have p3 := m_gp_trans p2 (m_pcr_F f3)
  refine r_u16 (m_tk_pcr hx p3) r3 (fun z4 J4 r4 v4 _ _ f4 _ => ?_)
  have p4 := m_gp_trans p3 (m_pcr_F f4)
  intro I5 e5 I6 e6
  have p6 : m_gp m_pcr I I6 := m_gp_trans p4 (m_gp_trans (m_pcr_s e5 (by omega)) (m_pcr_s e6 (by omega)))
  have r6 : m_rd I6 fr l (p_to (p_16 l (p_to (p_32 l (p_to (p_8 l (some (0, l.length)))))))) := by rw [e6, e5]; exact m_rd_su (m_rd_su r4 (by omega)) (by omega)
  have x76 : I6 1000 76 = 0 := by rw [e6, su_eq]
  have x101 : I6 1000 101 = z4 := by rw [e6, su_k (by decide), e5, su_eq]
  clear e5 e6
  refine r_readRow (m_tk_pcr hx p6) r6 (fun z7 J7 r7 v7 l7 u7 f7 _ => ?_)
  have p7 := m_gp_trans p6 (m_pcr_F f7)
  intro v8 e8 _
  obtain ⟨S3, eS3⟩ : ∃ S, p_to (p_16 l (p_to (p_32 l (p_to (p_8 l (some (0, l.length))))))) = S := ⟨_, rfl⟩
  rw [eS3] at r7 v7 r6
  obtain ⟨o, eo⟩ : ∃ o, p_r l S3 = o := ⟨_, rfl⟩
  rw [eo] at r7 v7
  have cmS : p_cmS K l = p_to (p_t K 2 l (p_to (p_t K 2 l (p_to (p_t K 7 l (p_to (p_wp K l (p_to (p_row (p_all (p_en K l)) l S3))))))))) := by
    unfold p_cmS
    rw [eS3]
  cases o with
  | none =>
    have b59 : J7 1000 59 = 1 := r7.2.2.2.2
    refine ⟨1, ?_⟩
    unfold rl_221_34
    intro w1 ew1 _
    refine ⟨fun _ => ?_, fun c => by omega⟩
    unfold rb_221_104
    intro w2 ew2 _
    refine ⟨fun c => by omega, fun _ => no ?_ p7⟩
    rw [cmS]
    have : p_row (p_all (p_en K l)) l S3 = none := by unfold p_row; rw [eo]; rfl
    rw [this]
    rfl
  | some ro =>
  obtain ⟨en, i1, e1⟩ := ro
  cases S3 with
  | none => exact absurd eo (by simp [p_r, p_16, p_8])
  | some s3 =>
  obtain ⟨i0, e0⟩ := s3
  obtain ⟨t1, t2, t3, t4, t5⟩ := p_r_ix eo
  subst t2
  -- the end is the end of all
  have ee1 : e1 = l.length := by
    obtain ⟨x3, h3⟩ := p_to_some eS3
    obtain ⟨S2, e2⟩ : ∃ S, p_to (p_32 l (p_to (p_8 l (some (0, l.length))))) = S := ⟨_, rfl⟩
    rw [e2] at h3
    cases S2 with
    | none => exact absurd h3 (by simp [p_16, p_8])
    | some s2 =>
    obtain ⟨i2, e2'⟩ := s2
    obtain ⟨x2, h2⟩ := p_to_some e2
    obtain ⟨S1, e1'⟩ : ∃ S, p_to (p_8 l (some (0, l.length))) = S := ⟨_, rfl⟩
    rw [e1'] at h2
    cases S1 with
    | none => exact absurd h2 (by simp [p_32, p_16, p_8])
    | some s1 =>
    obtain ⟨i1', e1''⟩ := s1
    obtain ⟨x1, h1⟩ := p_to_some e1'
    have q1 := p_8_le h1
    have q2 := (Prod.mk.inj (p_32_ix h2).1).2
    have q3 := p_16_le h3
    omega
  obtain ⟨b1, b2, b3, b4, b5⟩ := r7
  have b1 : J7 1000 57 = ((fr + i1 : Nat) : Int) := b1
  have b2 : J7 1000 58 = ((fr + e1 : Nat) : Int) := b2
  have b3 : J7 1000 59 = 0 := b3
  have ez7 : z7 = ((fr + en : Nat) : Int) := v7 en _ rfl
  have y76 : J7 1000 76 = 0 := by rw [f7.2 76 (by decide)]; exact x76
  have y101 : J7 1000 101 = z4 := by rw [f7.2 101 (by decide)]; exact x101
  refine ⟨en - i1 + 1, ?_⟩
  refine r_ents (en := en) (e1 := e1) ez7 (by rw [e8, b2]) t3 b5 hl (en - i1 + 1) i1 (done := []) (m_tk_pcr hx p7) b1 b3 t4 (by simp) ⟨by rw [y76]; rfl, fun j pl h c hj => by simp at hj⟩ (by omega) (fun es s J hm j57 j59 hes gJ => ?_) (fun J hm gJ => no ?_ (m_gp_trans p7 (m_pe_cr gJ)))
  rotate_left
  · rw [cmS]
    have : p_row (p_all (p_en K l)) l (some (i0, e1)) = none := by
      unfold p_row
      rw [eo]
      show (p_many (p_en K l) (en - i1) (some (i1, en))).bind _ = none
      rw [hm]; rfl
    rw [this]
    rfl
  rw [List.nil_append] at hes
  have pJ := m_gp_trans p7 (m_pe_cr gJ)
  have rowv : p_row (p_all (p_en K l)) l (some (i0, e1)) = some ((i1, es), en, e1) := by
    have hs := p_many_end p_en_fw t4 hm
    subst hs
    unfold p_row
    rw [eo]
    show (p_many (p_en K l) (en - i1) (some (i1, en))).bind (fun a => if a.2.1 = en then some ((i1, a.1), a.2.1, e1) else none) = _
    rw [hm]
    exact if_pos rfl
  rw [rowv, p_to_s] at cmS
  unfold rb_221_104
  intro v91 e91 _
  refine ⟨fun _ => ?_, fun c => by omega⟩
  intro I9 e9
  have p9 : m_gp m_pcr I I9 := m_gp_trans pJ (m_pcr_s e9 (by omega))
  have r9 : m_rd I9 fr l (some (en, e1)) := ⟨by rw [e9, su_k (by decide)]; exact j57, by rw [e9, su_eq, e8, b2], by rw [e9, su_k (by decide)]; exact j59, t3, b5⟩
  refine r_u8 (m_tk_pcr hx p9) r9 (fun z10 J10 r10 v10 z100 _ f10 _ => ?_)
  have p10 := m_gp_trans p9 (m_pcr_F f10)
  obtain ⟨w1, w0, w2⟩ := p_wp_st (K := K) v10
  have k76 : ∀ f k, f = 77 ∨ f = 81 ∨ f = 82 ∨ (f = 1000 ∧ k = 76) → J10 f k = J f k := fun f k h => by
    rcases h with h | h | h | ⟨h, h'⟩
    · rw [h, f10.1 77 (by simp) (by simp), e9, su_f (by decide)]
    · rw [h, f10.1 81 (by simp) (by simp), e9, su_f (by decide)]
    · rw [h, f10.1 82 (by simp) (by simp), e9, su_f (by decide)]
    · rw [h, h', f10.2 76 (by decide), e9, su_k (by decide)]
  have k101 : J10 1000 101 = J 1000 101 := by rw [f10.2 101 (by decide), e9, su_k (by decide)]
  -- behind the PATH, or where it would be
  have fin : ∀ {X : sr_V}, m_rd X fr l (p_to (p_wp K l (some (en, e1)))) → (∀ pt s, p_wp K l (some (en, e1)) = some (pt, s) → match pt with | none => X 1000 100 = 0 | some (_, ns) => X 1000 100 = 1 ∧ X 1000 111 = ((fr + (en + 1) : Nat) : Int) ∧ m_pns X mk fr ns) → m_gp m_pcr I X → (∀ f k, f = 77 ∨ f = 81 ∨ f = 82 ∨ (f = 1000 ∧ (k = 76 ∨ k = 101)) → X f k = J10 f k) → rb_221_137 Q X := by
    intro X rX hX pX kX
    refine r_cm_end (m_tk_pcr hx pX) rX (fun z Y rY hz y102 y103 y104 y106 y107 fY => ?_) (fun i e hh => ?_)
    rotate_left
    · rw [← cmS] at hh
      exact (p_cm_st hh).1
    have pY : m_gp m_pcr I Y := m_gp_trans pX (m_gp_sub (m_fr_gp fY) (fun f k p => by
      simp only [List.mem_cons, List.not_mem_nil, or_false, and_false, false_or] at p
      obtain ⟨q1, q2⟩ := p
      by_cases c : k ≤ 75
      · exact Or.inl (Or.inl (Or.inr (Or.inr (Or.inr ⟨q1, Or.inl (by omega)⟩))))
      · exact Or.inr (Or.inr (Or.inr (Or.inr ⟨q1, by omega⟩)))))
    rw [← cmS] at hz
    rcases hz with ⟨ez, hz⟩ | ⟨ez, hz⟩
    · subst ez
      obtain ⟨ep, sd, b, e1', es', pt, sg, cf, tg, hp⟩ := (p_cm_st hz).2 rfl
      have hp0 := hp
      obtain ⟨c3l, ⟨b0, c0⟩, c1, c2, c3, c4, c5, c6, c7⟩ := hp
      have S1 : p_to (p_8 l (some (0, l.length))) = some (1, l.length) := by rw [c0, p_to_s]
      rw [S1] at v4 eS3
      have S2 : p_to (p_32 l (some (1, l.length))) = some (5, l.length) := by rw [c1, p_to_s]
      rw [S2] at v4 eS3
      have S3' : p_to (p_16 l (some (5, l.length))) = some (7, l.length) := by rw [c2, p_to_s]
      rw [S3'] at eS3
      have ei0 := Prod.mk.inj (Option.some.inj eS3)
      rw [ei0.1, ei0.2] at c3
      rw [rowv] at c3
      have c3 := Option.some.inj c3
      simp only [Prod.mk.injEq] at c3
      obtain ⟨⟨g1, g2⟩, g3, g4⟩ := c3
      have g3 := g3.symm
      subst g1; subst g2; subst g3
      rw [← ee1] at c4 c5 c6 c7
      have S5 : p_to (p_wp K l (some (e1', e1))) = some (e1 - 3, e1) := by rw [c4, p_to_s]
      rw [S5] at y102 y103 y104 y106 y107
      have S6 : p_to (p_t K 7 l (some (e1 - 3, e1))) = some (e1 - 2, e1) := by rw [c5, p_to_s]
      rw [S6] at y104 y106 y107
      have S7 : p_to (p_t K 2 l (some (e1 - 2, e1))) = some (e1 - 1, e1) := by rw [c6, p_to_s]
      rw [S7] at y106 y107
      have kY : ∀ f k, f ≠ 1000 ∨ k = 76 ∨ k = 101 ∨ k = 100 ∨ k = 111 ∨ k = 95 → Y f k = X f k := fun f k h => m_fr_gp fY f k (by simp; omega)
      refine q1 ep sd i1 e1' es pt sg cf tg Y hp0 ⟨?_, ?_, ?_, y103 sg _ c5, y104 cf _ c6, ?_, y107 tg _ c7, ?_⟩ pY
      · rw [kY 1000 101 (by omega), kX 1000 101 (by omega), k101]
        have : J 1000 101 = J7 1000 101 := gJ 1000 101 (by unfold m_pe; omega)
        rw [this, y101]
        exact v4 sd _ c2
      · unfold m_es at hes ⊢
        refine ⟨by rw [kY 1000 76 (by omega), kX 1000 76 (by omega), k76 1000 76 (by omega)]; exact hes.1, fun j pl h c hj => ?_⟩
        rw [kY 77 j (by omega), kX 77 j (by omega), k76 77 j (by omega), kY 81 j (by omega), kX 81 j (by omega), k76 81 j (by omega), kY 82 j (by omega), kX 82 j (by omega), k76 82 j (by omega)]
        exact hes.2 j pl h c hj
      · rw [y102 _ _ rfl, ← ee1]
      · rw [y106 _ _ rfl, ← ee1]
      · have hh := hX pt _ c4
        cases pt with
        | none =>
          show Y 1000 100 = 0
          rw [kY 1000 100 (by omega)]; exact hh
        | some v =>
          obtain ⟨lf, ns⟩ := v
          obtain ⟨h1, h2, h3⟩ := hh
          show Y 1000 100 = 1 ∧ Y 1000 111 = _ ∧ m_pns Y mk fr ns
          refine ⟨by rw [kY 1000 100 (by omega)]; exact h1, by rw [kY 1000 111 (by omega)]; exact h2, ?_⟩
          unfold m_pns at h3 ⊢
          refine ⟨by rw [kY 1000 95 (by omega)]; exact h3.1, fun j k s t hj => ?_⟩
          rw [kY 96 j (by omega), kY 97 j (by omega), kY 98 j (by omega)]
          exact h3.2 j k s t hj
    · subst ez
      refine q0 Y (fun ep sd b e1' es' pt sg cf tg hp => hz l.length (p_cm_S hp)) pY
  -- the byte that says whether there is a PATH
  have c129 : ∀ {X : sr_V}, (z10 ≤ 1 ∧ m_rd X fr l (p_to (p_8 l (some (en, e1))))) ∨ (z10 ≠ 1 ∧ z10 ≠ 0 ∧ m_rd X fr l none) → X 1000 100 = (if z10 = 1 then 1 else 0) → m_gp m_pcr I X → (∀ f k, f = 77 ∨ f = 81 ∨ f = 82 ∨ (f = 1000 ∧ (k = 76 ∨ k = 101)) → X f k = J10 f k) → rb_221_129 Q X := by
    intro X rX h100 pX kX
    unfold rb_221_129
    intro I1 e1' v2 e2 _
    have pI1 : m_gp m_pcr I I1 := m_gp_trans pX (m_pcr_s e1' (by omega))
    have kI1 : ∀ f k, f = 77 ∨ f = 81 ∨ f = 82 ∨ (f = 1000 ∧ (k = 76 ∨ k = 101)) → I1 f k = J10 f k := fun f k h => by
      rw [← kX f k h, e1', su_at, if_neg (by omega)]
    have i100 : I1 1000 100 = (if z10 = 1 then 1 else 0) := by rw [e1', su_k (by decide)]; exact h100
    rw [i100] at e2
    refine ⟨fun c => ?_, fun c => ?_⟩
    · have n1 : z10 ≠ 1 := fun h => by rw [if_pos h] at e2; omega
      rw [if_neg n1] at i100
      by_cases c0 : z10 = 0
      · have ew := w0 c0
        rcases rX with ⟨_, rX⟩ | ⟨_, h, _⟩
        · refine fin ?_ (fun pt s hpt => ?_) pI1 kI1
          · rw [ew]
            have r1' : m_rd I1 fr l (p_to (p_8 l (some (en, e1)))) := by rw [e1']; exact m_rd_su rX (by omega)
            cases ho : p_8 l (some (en, e1)) with
            | none => rw [ho] at r1'; exact r1'
            | some a => rw [ho] at r1'; exact r1'
          · rw [ew, Option.map_eq_some_iff] at hpt
            obtain ⟨a, _, hpt⟩ := hpt
            have hpt := (Prod.mk.inj hpt).1
            subst hpt
            exact i100
        · exact absurd c0 h
      · have ew := w2 n1 c0
        refine fin ?_ (fun pt s hpt => by rw [ew] at hpt; exact absurd hpt (by simp)) pI1 kI1
        rw [ew]
        rcases rX with ⟨h1, rX⟩ | ⟨_, _, rX⟩
        · omega
        · show m_rd I1 fr l none
          rw [e1']; exact m_rd_su rX (by omega)
    · have n1 : z10 = 1 := by
        by_cases h : z10 = 1
        · exact h
        · rw [if_neg h] at e2; exact absurd e2 c
      rw [if_pos n1] at i100
      have ew := w1 n1
      rcases rX with ⟨_, rX⟩ | ⟨h, _⟩
      · have r1' : m_rd I1 fr l (p_to (p_8 l (some (en, e1)))) := by rw [e1']; exact m_rd_su rX (by omega)
        refine r_readPath (m_tk_pcr hx pI1) hl r1' (by rw [e1', su_eq]) (fun X2 r2' v2' g2' => fin ?_ (fun pt s hpt => ?_) (m_gp_trans pI1 (m_pcr_P g2')) (fun f k h => ?_))
        · rw [ew]
          cases ho : p_pa K l (p_to (p_8 l (some (en, e1)))) with
          | none => rw [ho] at r2'; exact r2'
          | some a => rw [ho] at r2'; exact r2'
        · rw [ew, Option.map_eq_some_iff] at hpt
          obtain ⟨⟨⟨lf, ns⟩, s'⟩, hv, hpt⟩ := hpt
          have hpt := (Prod.mk.inj hpt).1
          subst hpt
          obtain ⟨S8, eS8⟩ : ∃ S, p_to (p_8 l (some (en, e1))) = S := ⟨_, rfl⟩
          cases S8 with
          | none => rw [eS8] at hv; exact absurd hv (by simp [p_pa, p_lf, p_16, p_8])
          | some s8 =>
            obtain ⟨i8, e8'⟩ := s8
            obtain ⟨b8, h8⟩ := p_to_some eS8
            have q8 := p_8_le h8
            obtain ⟨y1, y2⟩ := v2' lf ns s' i8 e8' eS8 hv
            refine ⟨by rw [g2' 1000 100 (by unfold m_prP m_pr; omega)]; exact i100, ?_, y2⟩
            rw [y1, q8.1]
        · rw [← kI1 f k h]
          exact g2' f k (by unfold m_prP m_pr; omega)
      · exact absurd n1 h
  have c122 : ∀ s0 : Int, s0 = (if z10 = 1 then 1 else 0) → rb_221_122 Q z10 s0 J10 := by
    intro s0 hs0
    unfold rb_221_122
    refine ⟨by split at hs0 <;> omega, ?_⟩
    intro I1 e1'
    have pI1 : m_gp m_pcr I I1 := m_gp_trans p10 (m_pcr_s e1' (by omega))
    have kI1 : ∀ f k, f = 77 ∨ f = 81 ∨ f = 82 ∨ (f = 1000 ∧ (k = 76 ∨ k = 101)) → I1 f k = J10 f k := fun f k h => by rw [e1', su_at, if_neg (by omega)]
    have rI1 : m_rd I1 fr l (p_to (p_8 l (some (en, e1)))) := by rw [e1']; exact m_rd_su r10 (by omega)
    refine ⟨fun c => c129 (Or.inl ⟨c, rI1⟩) (by rw [e1', su_eq, hs0]) pI1 kI1, fun c => ?_⟩
    intro I2 e2'
    refine c129 (Or.inr ⟨by omega, by omega, by rw [e2']; exact m_rd_1 rI1⟩) (by rw [e2', su_k (by decide), e1', su_eq, hs0]) (m_gp_trans pI1 (m_pcr_s e2' (by omega))) (fun f k h => by rw [← kI1 f k h, e2', su_at, if_neg (by omega)])
  exact ⟨fun c => c122 0 (by rw [if_neg c]), fun c => c122 1 (by rw [if_pos c])⟩
end
