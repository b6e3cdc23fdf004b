/-! ===== the reference: readCommit ===== -/
noncomputable section
variable {I J : sr_V} {nn fr : Nat} {K : Wt → Prop} {tl mk mm l : List Wt} {ms : List (List Wt)} {a b c x y n : Int} {Q : Int → sr_V → Prop} {R : sr_V → Prop} {st : p_S} {w : Wt}
theorem m_rd_eq (h : m_rd I fr l st) (e57 : J 1000 57 = I 1000 57) (e58 : J 1000 58 = I 1000 58) (e59 : J 1000 59 = I 1000 59) : m_rd J fr l st := by
  cases st with
  | none => unfold m_rd at h ⊢; rw [e57, e58, e59]; exact h
  | some s => obtain ⟨i', e'⟩ := s; unfold m_rd at h ⊢; rw [e57, e58, e59]; exact h
def m_prP (f k : Nat) : Prop := m_pr f k ∨ (f = 1000 ∧ k = 111)
theorem m_tk_prP (h : m_tk I mk K fr l) (f : m_gp m_prP I J) : m_tk J mk K fr l := by
  have e26 : J 26 = I 26 := by funext i; exact f 26 i (by unfold m_prP m_pr; omega)
  have e16 : J 16 = I 16 := by funext i; exact f 16 i (by unfold m_prP m_pr; omega)
  have e6 : J 6 = I 6 := by funext i; exact f 6 i (by unfold m_prP m_pr; omega)
  unfold m_tk at h ⊢
  rw [e26, e16, e6]
  exact h
theorem m_prP_1 (f : m_gp m_pr I J) : m_gp m_prP I J := m_gp_sub f (fun _ _ p => Or.inl p)
theorem r_readPath (hx : m_tk I mk K fr l) (hl : l.length ≤ 1200) (h : m_rd I fr l st) (h95 : I 1000 95 = 0) (q : ∀ J, m_rd J fr l (p_to (p_pa K l st)) → (∀ lf ns s i e, st = some (i, e) → p_pa K l st = some ((lf, ns), s) → J 1000 111 = ((fr + i : Nat) : Int) ∧ m_pns J mk fr ns) → m_gp m_prP I J → R J) : rm_321 I R := by
  have hb := hx.2.1
  unfold rm_321
  intro v101 e101 _ I105 e105
  have g105 := m_gp_su I 1000 111 v101
  rw [← e105] at g105
  have p105 : m_gp m_prP I I105 := m_gp_sub g105 (fun f k p => Or.inr p)
  have r105 : m_rd I105 fr l st := m_rd_eq h (g105 1000 57 (by omega)) (g105 1000 58 (by omega)) (g105 1000 59 (by omega))
  refine r_readLeaf (src := 3) (m_tk_prP hx p105) r105 (fun J1 r1 _ _ f1 => ?_)
  have p1 : m_gp m_prP I J1 := m_gp_trans p105 (m_gp_sub (m_fr_gp f1) (fun f k p => by
    simp only [List.mem_cons, List.not_mem_nil, or_false, and_false, false_or] at p
    exact Or.inl (Or.inr (Or.inr (Or.inr ⟨p.1, Or.inl (by omega)⟩)))))
  refine r_readRow (m_tk_prP hx p1) r1 (fun z2 J2 r2 v2 l2 u2 f2 _ => ?_)
  have p2 := m_gp_trans p1 (m_prP_1 (m_pr_F f2))
  have x95 : J2 1000 95 = 0 := by rw [f2.2 95 (by decide), f1.2 95 (by decide), g105 1000 95 (by omega), h95]
  have x111 : J2 1000 111 = I 1000 57 := by rw [f2.2 111 (by decide), f1.2 111 (by decide), e105, su_eq, e101]
  intro v126 e126 _
  have pato := p_pa_to (K := K) (l := l) (st := st)
  obtain ⟨S1, eS1⟩ : ∃ S, p_to (p_lf K 3 l st) = S := ⟨_, rfl⟩
  rw [eS1] at r2 v2 pato r1
  obtain ⟨o, eo⟩ : ∃ o, p_r l S1 = o := ⟨_, rfl⟩
  rw [eo] at r2 v2
  cases o with
  | none =>
    obtain ⟨m1, m2, m3, m4, m5⟩ := id r2
    have en : p_to (p_pa K l st) = none := by
      rw [pato]
      unfold p_row
      rw [eo]
      rfl
    have en' : p_pa K l st = none := by
      cases ho : p_pa K l st with
      | none => rfl
      | some a => rw [ho] at en; exact absurd en (by simp [p_to])
    refine ⟨1, ?_⟩
    unfold rl_321_13
    intro w1 ew1 _
    refine ⟨fun _ => ?_, fun c => by omega⟩
    unfold rb_321_79
    intro I2 e2
    have g2 := m_gp_su J2 1000 58 v126
    rw [← e2] at g2
    refine q I2 ?_ (fun lf ns s i e _ hh => by rw [en'] at hh; exact absurd hh (by simp)) (m_gp_trans p2 (m_gp_sub g2 (fun f k p => Or.inl (Or.inr (Or.inr (Or.inr ⟨p.1, Or.inl (by omega)⟩))))))
    rw [en]
    refine ⟨by rw [g2 1000 57 (by omega)]; exact m1, by rw [g2 1000 57 (by omega)]; exact m2, by rw [e2, su_eq, e126]; exact m3, by rw [e2, su_eq, e126]; exact m4, by rw [g2 1000 59 (by omega)]; exact m5⟩
  | some ro =>
    obtain ⟨en, i1, e1⟩ := ro
    cases S1 with
    | none => exact absurd eo (by simp [p_r, p_16, p_8])
    | some s1 =>
    obtain ⟨i0, e0⟩ := s1
    obtain ⟨t1, t2, t3, t4, t5⟩ := p_r_ix eo
    subst t2
    obtain ⟨a1, a2, a3, a4, a5⟩ := r2
    have a1 : J2 1000 57 = ((fr + i1 : Nat) : Int) := a1
    have a2 : J2 1000 58 = ((fr + e1 : Nat) : Int) := a2
    have a3 : J2 1000 59 = 0 := a3
    have ez2 : z2 = ((fr + en : Nat) : Int) := v2 en _ rfl
    have rowv : ∀ ns s, p_many (p_nd K l) (en - i1) (some (i1, en)) = some (ns, s) → p_row (p_all (p_nd K l)) l (some (i0, e1)) = some ((i1, ns), en, e1) := fun ns s hm => by
      have hs := p_many_end p_nd_fw t4 hm
      subst hs
      unfold p_row
      rw [eo]
      show (p_many (p_nd K l) (en - i1) (some (i1, en))).bind (fun a => if a.2.1 = en then some ((i1, a.1), a.2.1, e1) else none) = _
      rw [hm]
      exact if_pos rfl
    refine ⟨en - i1 + 1, ?_⟩
    refine r_path_l (en := en) (e1 := e1) ez2 (by rw [e126, a2]) t3 a5 hl (en - i1 + 1) i1 (done := []) (m_tk_prP hx p2) a1 a3 t4 (by simp) ⟨by rw [x95]; rfl, fun j k s t hj => by simp at hj⟩ (by omega) (fun ns s J hm rJ pJ gJ => ?_) (fun J hm rJ gJ => ?_)
    · rw [List.nil_append] at pJ
      have hr := rowv ns s hm
      have hto : p_to (p_pa K l st) = some (en, e1) := by rw [pato, hr, p_to_s]
      refine q J (by rw [hto]; exact rJ) (fun lf ns' s' i e hst hpa => ?_) (m_gp_trans p2 (m_prP_1 gJ))
      subst hst
      have x57 : I 1000 57 = ((fr + i : Nat) : Int) := h.1
      unfold p_pa at hpa
      rw [Option.bind_eq_some_iff] at hpa
      obtain ⟨⟨lf', s2⟩, h1, hpa⟩ := hpa
      rw [Option.map_eq_some_iff] at hpa
      obtain ⟨⟨⟨b, ns2⟩, s3⟩, h2, hpa⟩ := hpa
      have h2 : p_row (p_all (p_nd K l)) l (some s2) = some ((b, ns2), s3) := h2
      have es2 : s2 = (i0, e1) := by
        rw [h1, p_to_s] at eS1
        exact Option.some.inj eS1
      rw [es2, hr] at h2
      have h2 := Option.some.inj h2
      simp only [Prod.mk.injEq] at h2 hpa
      have en2 : ns = ns' := by rw [h2.1.2]; exact hpa.1.2
      rw [← en2]
      refine ⟨?_, pJ⟩
      rw [gJ 1000 111 (by unfold m_pr; omega), x111]
      exact x57
    · have hto : p_to (p_pa K l st) = none := by
        rw [pato]
        unfold p_row
        rw [eo]
        show p_to ((p_many (p_nd K l) (en - i1) (some (i1, en))).bind _) = none
        rw [hm]
        rfl
      have en' : p_pa K l st = none := by
        cases ho : p_pa K l st with
        | none => rfl
        | some a => rw [ho] at hto; exact absurd hto (by simp [p_to])
      exact q J (by rw [hto]; exact rJ) (fun lf ns s i e _ hh => by rw [en'] at hh; exact absurd hh (by simp)) (m_gp_trans p2 (m_prP_1 gJ))
end
