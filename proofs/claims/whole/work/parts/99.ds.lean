/-! ===== the reference: readCommit ===== -/
noncomputable section
variable {I J : sr_V} {nn fr mi : Nat} {K : Wt → Prop} {tl mk mm l : List Wt} {ms : List (List Wt)} {a b c x y n : Int} {Q : Int → sr_V → Prop} {R : sr_V → Prop} {st : p_S} {w : Wt}
/-- what reading a COMMIT touches -/
def m_pcr (f k : Nat) : Prop := m_prP f k ∨ f = 77 ∨ f = 81 ∨ f = 82 ∨ (f = 1000 ∧ (k = 76 ∨ (100 ≤ k ∧ k ≤ 107)))
theorem m_pcr_P (h : m_gp m_prP I J) : m_gp m_pcr I J := m_gp_sub h (fun _ _ p => Or.inl p)
theorem m_pcr_F (f : m_fr [] [57, 58, 59] I J) : m_gp m_pcr I J := m_pcr_P (m_prP_1 (m_pr_F f))
theorem m_pcr_F1 (f : m_fr [] m_F1 I J) : m_gp m_pcr I J := m_gp_sub (m_fr_gp f) (fun f k p => by
  simp only [m_F1, List.mem_cons, List.not_mem_nil, or_false, and_false, false_or] at p
  exact Or.inl (Or.inl (Or.inr (Or.inr (Or.inr ⟨p.1, Or.inl (by omega)⟩)))))
theorem m_pcr_s {f : Nat} {z : Int} (e : J = su I 1000 f z) (hf : (57 ≤ f ∧ f ≤ 75) ∨ f = 95 ∨ f = 76 ∨ (100 ≤ f ∧ f ≤ 107)) : m_gp m_pcr I J := by
  rw [e]
  refine m_gp_sub (m_gp_su I 1000 f z) (fun f' k p => ?_)
  rcases hf with h | h | h
  · exact Or.inl (Or.inl (Or.inr (Or.inr (Or.inr ⟨p.1, Or.inl (by omega)⟩))))
  · exact Or.inl (Or.inl (Or.inr (Or.inr (Or.inr ⟨p.1, Or.inr (by omega)⟩))))
  · exact Or.inr (Or.inr (Or.inr (Or.inr ⟨p.1, by omega⟩)))
theorem m_tk_pcr (h : m_tk I mk K fr l) (f : m_gp m_pcr I J) : m_tk J mk K fr l := by
  have e26 : J 26 = I 26 := by funext i; exact f 26 i (by unfold m_pcr m_prP m_pr; omega)
  have e16 : J 16 = I 16 := by funext i; exact f 16 i (by unfold m_pcr m_prP m_pr; omega)
  have e6 : J 6 = I 6 := by funext i; exact f 6 i (by unfold m_pcr m_prP m_pr; omega)
  unfold m_tk at h ⊢
  rw [e26, e16, e6]
  exact h
/-- the entries, as the reference keeps them -/
def m_es (I : sr_V) (mk : List Wt) (fr : Nat) (es : List p_E) : Prop := I 1000 76 = es.length ∧ ∀ (j pl : Nat) (h : Wt) (c : p_C), es[j]? = some (pl, h, c) → I 77 j = ((fr + pl : Nat) : Int) ∧ w_az mk (I 81 j) h ∧ (h = [] → I 82 j = 0) ∧ (h ≠ [] → I 82 j = 1)
theorem m_es_snoc {done : List p_E} {pl : Nat} {h : Wt} {c : p_C} (hd : m_es I mk fr done) (e76 : J 1000 76 = (done.length : Int) + 1) (back : ∀ f j, f = 77 ∨ f = 81 ∨ f = 82 → j ≠ done.length → J f j = I f j) (z77 : J 77 done.length = ((fr + pl : Nat) : Int)) (z81 : w_az mk (J 81 done.length) h) (z82 : (h = [] → J 82 done.length = 0) ∧ (h ≠ [] → J 82 done.length = 1)) : m_es J mk fr (done ++ [(pl, h, c)]) := by
  refine ⟨by rw [e76, List.length_append]; simp, fun j pl' h' c' hj => ?_⟩
  by_cases cj : j < done.length
  · rw [List.getElem?_append_left cj] at hj
    rw [back 77 j (by omega) (by omega), back 81 j (by omega) (by omega), back 82 j (by omega) (by omega)]
    exact hd.2 j pl' h' c' hj
  · have ej : j = done.length := by
      have := (List.getElem?_eq_some_iff.mp hj).1
      rw [List.length_append] at this
      simp at this
      omega
    subst ej
    rw [List.getElem?_append_right (by omega), Nat.sub_self] at hj
    have hj := Option.some.inj hj
    simp only [Prod.mk.injEq] at hj
    rw [z77, ← hj.1, ← hj.2.1]
    exact ⟨rfl, z81, z82.1, z82.2⟩
/-- one entry is kept -/
theorem r_ent_69 {k34 : Int → Int → sr_V → Prop} {x2 x3 x4 x5 x6 : Int} {n0 : Nat} (h59 : I 1000 59 = 0) (h76 : I 1000 76 = n0) (hn : n0 < 1100) (k : ∀ J, J 77 n0 = x5 → J 81 n0 = x6 → (x4 = 1 → J 82 n0 = 1) → (x4 ≠ 1 → J 82 n0 = 0) → J 1000 76 = (n0 : Int) + 1 → m_gp (fun f k => ((f = 77 ∨ f = 81 ∨ f = 82) ∧ k = n0) ∨ (f = 1000 ∧ k = 76)) I J → k34 x2 x3 J) : rb_221_69 Q k34 x2 x3 x4 x5 x6 I := by
  unfold rb_221_69
  intro v1 e1 _
  refine ⟨fun _ => ?_, fun c => by omega⟩
  intro v2 e2 _
  rw [h76] at e2
  rw [e2]
  refine ⟨by omega, by omega, ?_⟩
  intro I1 ei1 v3 e3 _
  rw [Int.toNat_natCast] at ei1
  rw [ei1, su_f (by decide), h76] at e3
  rw [e3]
  refine ⟨by omega, by omega, ?_⟩
  intro I2 ei2 v4 e4 _
  rw [Int.toNat_natCast] at ei2
  rw [ei2, su_f (by decide), ei1, su_f (by decide), h76] at e4
  rw [e4]
  have fin : ∀ s0 : Int, (s0 = 0 ∨ s0 = 1) → (x4 = 1 → s0 = 1) → (x4 ≠ 1 → s0 = 0) → rb_221_96 Q k34 x2 x3 s0 n0 I2 := by
    intro s0 hs h1 h0
    unfold rb_221_96
    refine ⟨by omega, by omega, hs, ?_⟩
    intro I3 ei3 v5 e5 _ I4 ei4
    rw [Int.toNat_natCast] at ei3
    rw [ei3, su_f (by decide), ei2, su_f (by decide), ei1, su_f (by decide), h76] at e5
    rw [e5, sw_w_s (by omega) (by omega)] at ei4
    refine k I4 ?_ ?_ (fun h => ?_) (fun h => ?_) (by rw [ei4, su_eq]) (fun f kk hp => ?_)
    · rw [ei4, su_f (by decide), ei3, su_f (by decide), ei2, su_f (by decide), ei1, su_eq]
    · rw [ei4, su_f (by decide), ei3, su_f (by decide), ei2, su_eq]
    · rw [ei4, su_f (by decide), ei3, su_eq]; exact h1 h
    · rw [ei4, su_f (by decide), ei3, su_eq]; exact h0 h
    · rw [ei4, ei3, ei2, ei1]
      simp only [su_at]
      rw [if_neg (by omega), if_neg (by omega), if_neg (by omega), if_neg (by omega)]
  exact ⟨fun c => fin 0 (Or.inl rfl) (fun h => absurd h c) (fun _ => rfl), fun c => fin 1 (Or.inr rfl) (fun _ => rfl) (fun h => absurd c h)⟩
/-- what reading the entries touches -/
def m_pe (f k : Nat) : Prop := f = 77 ∨ f = 81 ∨ f = 82 ∨ (f = 1000 ∧ ((57 ≤ k ∧ k ≤ 75) ∨ k = 76))
theorem m_pe_cr (h : m_gp m_pe I J) : m_gp m_pcr I J := m_gp_sub h (fun f k p => by
  rcases p with p | p | p | ⟨p, q | q⟩
  · exact Or.inr (Or.inl p)
  · exact Or.inr (Or.inr (Or.inl p))
  · exact Or.inr (Or.inr (Or.inr (Or.inl p)))
  · exact Or.inl (Or.inl (Or.inr (Or.inr (Or.inr ⟨p, Or.inl q⟩))))
  · exact Or.inr (Or.inr (Or.inr (Or.inr ⟨p, Or.inl q⟩))))
theorem m_pe_F (f : m_fr [] [57, 58, 59] I J) : m_gp m_pe I J := m_gp_sub (m_fr_gp f) (fun f k p => by
  simp only [List.mem_cons, List.not_mem_nil, or_false, and_false, false_or] at p
  exact Or.inr (Or.inr (Or.inr ⟨p.1, Or.inl (by omega)⟩)))
theorem m_pe_F1 (f : m_fr [] m_F1 I J) : m_gp m_pe I J := m_gp_sub (m_fr_gp f) (fun f k p => by
  simp only [m_F1, List.mem_cons, List.not_mem_nil, or_false, and_false, false_or] at p
  exact Or.inr (Or.inr (Or.inr ⟨p.1, Or.inl (by omega)⟩)))
theorem m_pe_s {f : Nat} {z : Int} (e : J = su I 1000 f z) (hf : (57 ≤ f ∧ f ≤ 75) ∨ f = 76) : m_gp m_pe I J := by
  rw [e]
  exact m_gp_sub (m_gp_su I 1000 f z) (fun f' k p => Or.inr (Or.inr (Or.inr ⟨p.1, by omega⟩)))
theorem m_tk_pe (h : m_tk I mk K fr l) (f : m_gp m_pe I J) : m_tk J mk K fr l := m_tk_pcr h (m_pe_cr f)
theorem r_ents {en e1 : Nat} {x2 x3 : Int} (hx2 : x2 = ((fr + en : Nat) : Int)) (hx3 : x3 = ((fr + e1 : Nat) : Int)) (hen : en ≤ e1) (he1 : e1 ≤ l.length) (hl : l.length ≤ 1200) : ∀ (n i : Nat) {I : sr_V} {done : List p_E}, m_tk I mk K fr l → I 1000 57 = ((fr + i : Nat) : Int) → I 1000 59 = 0 → i ≤ en → 2 * done.length ≤ i → m_es I mk fr done → en - i < n → (∀ es s J, p_many (p_en K l) (en - i) (some (i, en)) = some (es, s) → J 1000 57 = ((fr + en : Nat) : Int) → J 1000 59 = 0 → m_es J mk fr (done ++ es) → m_gp m_pe I J → rb_221_104 Q x3 J) → (∀ J, p_many (p_en K l) (en - i) (some (i, en)) = none → m_gp m_pe I J → Q 0 J) → rl_221_34 Q n x2 x3 I
  | 0, _, _, _, _, _, _, _, _, _, h, _, _ => by omega
  | n + 1, i, I, done, hx, h57, h59, hi, h2, hes, hn, k, k0 => by
    have hb := hx.2.1
    unfold rl_221_34
    intro v1 ev1 _
    refine ⟨fun c => by omega, fun _ => ?_⟩
    intro v2 ev2 _
    refine ⟨fun c => ?_, fun c => ?_⟩
    · have ie : i = en := by omega
      refine k [] (i, en) I (p_many_e (by omega)) (by rw [h57, ie]) h59 ?_ (m_gp_refl _ _)
      rw [List.append_nil]; exact hes
    · have hie : i < en := by omega
      intro I5 e5
      have p5 : m_gp m_pe I I5 := m_pe_s e5 (by omega)
      have r5 : m_rd I5 fr l (some (i, en)) := ⟨by rw [e5, su_k (by decide)]; exact h57, by rw [e5, su_eq, hx2], by rw [e5, su_k (by decide)]; exact h59, by omega, by omega⟩
      have s5 : ∀ f k, ¬ (f = 1000 ∧ k = 58) → I5 f k = I f k := fun f k h => by rw [e5, su_at, if_neg h]
      refine r_u8 (m_tk_pe hx p5) r5 (fun z1 J1 r1 v1' z0 z255 f1 _ => ?_)
      have p1 := m_gp_trans p5 (m_pe_F f1)
      have hx1 := m_tk_pe hx p1
      intro v169 e169 _
      obtain ⟨en1, en2, en3⟩ := p_en_st (K := K) v1'
      have enn : en - i = (en - i - 1) + 1 := by omega
      have x76 : J1 1000 76 = done.length := by rw [f1.2 76 (by decide), s5 1000 76 (by omega), hes.1]
      -- something is wrong
      have bad : ∀ {J : sr_V} {x4 x5 x6 : Int}, p_en K l (some (i, en)) = none → J 1000 59 = 1 → m_gp m_pe I J → rb_221_69 Q (rl_221_34 Q n) x2 x3 x4 x5 x6 J := by
        intro J x4 x5 x6 hnd h1 pJ
        unfold rb_221_69
        intro w1 ew1 _
        refine ⟨fun c => by omega, fun _ => k0 J ?_ pJ⟩
        rw [enn, p_many_s hie, hnd]
        rfl
      have nd0 : p_to (p_en K l (some (i, en))) = none → p_en K l (some (i, en)) = none := fun h => by
        cases ho : p_en K l (some (i, en)) with
        | none => rfl
        | some a => rw [ho] at h; exact absurd h (by simp [p_to])
      -- an entry was read
      have good : ∀ {J : sr_V} {x4 x6 : Int} {h : Wt} {cc : p_C} {i' : Nat}, p_en K l (some (i, en)) = some ((i + 1, h, cc), i', en) → J 1000 57 = ((fr + i' : Nat) : Int) → J 1000 59 = 0 → J 1000 76 = done.length → (∀ f j, f = 77 ∨ f = 81 ∨ f = 82 → J f j = I f j) → v169 = ((fr + (i + 1) : Nat) : Int) → w_az mk x6 h → (h = [] ↔ x4 ≠ 1) → m_gp m_pe I J → rb_221_69 Q (rl_221_34 Q n) x2 x3 x4 v169 x6 J := by
        intro J x4 x6 h cc i' hnd j57 j59 j76 jb hv169 hz6 h4 pJ
        obtain ⟨b0, b1, b2, b3, _⟩ := p_en_ix hnd
        have b1 : i + 2 ≤ i' := b1
        have b2 : i' ≤ en := b2
        refine r_ent_69 (n0 := done.length) j59 j76 (by omega) (fun X y77 y81 y82 y82' y76 gX => ?_)
        have pX : m_gp m_pe I X := m_gp_trans pJ (m_gp_sub gX (fun f k p => by
          rcases p with ⟨p | p | p, _⟩ | p
          · exact Or.inl p
          · exact Or.inr (Or.inl p)
          · exact Or.inr (Or.inr (Or.inl p))
          · exact Or.inr (Or.inr (Or.inr ⟨p.1, Or.inr p.2⟩))))
        have es' : m_es X mk fr (done ++ [(i + 1, h, cc)]) := by
          refine m_es_snoc hes y76 (fun f j hf hj => ?_) (by rw [y77]; exact hv169) (by rw [y81]; exact hz6) ⟨fun e => y82' (h4.mp e), fun e => y82 (Decidable.byContradiction (fun g => e (h4.mpr g)))⟩
          rw [gX f j (by omega)]
          exact jb f j hf
        refine r_ents hx2 hx3 hen he1 hl n i' (done := done ++ [(i + 1, h, cc)]) (m_tk_pe hx pX) (by rw [gX 1000 57 (by omega)]; exact j57) (by rw [gX 1000 59 (by omega)]; exact j59) b2 (by rw [List.length_append]; simp; omega) es' (by omega) (fun es s Y hm y57 y59 hY gY => k (((i + 1, h, cc) : p_E) :: es) s Y ?_ y57 y59 ?_ (m_gp_trans pX gY)) (fun Y hm gY => k0 Y ?_ (m_gp_trans pX gY))
        · rw [enn, p_many_s hie, hnd]
          show (p_many (p_en K l) (en - i - 1) (some (i', en))).map (fun r => (((i + 1, h, cc) : p_E) :: r.1, r.2)) = _
          rw [p_many_f p_en_fw (en - i - 1) (en - i') i' en (by omega) (by omega), hm]
          rfl
        · have e3 : (done ++ [(i + 1, h, cc)]) ++ es = done ++ (((i + 1, h, cc) : p_E) :: es) := by simp
          rw [← e3]; exact hY
        · rw [enn, p_many_s hie, hnd]
          show (p_many (p_en K l) (en - i - 1) (some (i', en))).map (fun r => (((i + 1, h, cc) : p_E) :: r.1, r.2)) = _
          rw [p_many_f p_en_fw (en - i - 1) (en - i') i' en (by omega) (by omega), hm]
          rfl
      have v169v : ∀ h cc s, p_en K l (some (i, en)) = some ((i + 1, h, cc), s) → v169 = ((fr + (i + 1) : Nat) : Int) := fun h cc s hnd => by
        obtain ⟨_, _, _, _, hh⟩ := p_en_ix hnd
        have e8 : p_to (p_8 l (some (i, en))) = some (i + 1, en) := by
          rcases hh with hh | hh
          · rw [hh.1, p_to_s]
          · rw [hh.1, p_to_s]
        rw [e8] at r1
        rw [e169]
        exact r1.1
      refine ⟨fun c1 => ⟨fun c2 => ?_, fun c2 => ?_⟩, fun c1 => ?_⟩
      · intro I9 e9
        exact bad (en3 c1 c2) (by rw [e9, su_eq]) (m_gp_trans p1 (m_pe_s e9 (by omega)))
      · refine r_readContent hx1 r1 (fun J2 r2 _ _ f2 => ?_)
        have f2' : m_fr [] m_F1 J1 J2 := f2
        have p2 := m_gp_trans p1 (m_pe_F1 f2')
        obtain ⟨o, eo⟩ : ∃ o, p_en K l (some (i, en)) = o := ⟨_, rfl⟩
        cases o with
        | none =>
          have := en2 c2
          rw [eo] at this
          have h0 : p_to (p_ct K l (p_to (p_8 l (some (i, en))))) = none := this.symm
          rw [h0] at r2
          exact bad eo r2.2.2.2.2 p2
        | some a =>
          obtain ⟨⟨pl, h, cc⟩, i', e'⟩ := a
          obtain ⟨b0, b1, b2, b3, hh⟩ := p_en_ix eo
          have b3 : e' = en := b3
          subst b0; subst b3
          have := en2 c2
          rw [eo, p_to_s] at this
          rw [← this] at r2
          obtain ⟨m1, m2, m3, _⟩ := r2
          have h0 : h = [] := by
            rcases hh with hh | hh
            · have := v1' 1 _ hh.1; omega
            · exact hh.2.1
          refine good eo m1 m3 (by rw [f2'.2 76 (by decide)]; exact x76) (fun f j hf => by rw [f2'.1 f (by simp) (by omega), f1.1 f (by simp) (by omega), s5 f j (by omega)]) (v169v h cc _ eo) (by rw [h0]; exact Or.inl ⟨rfl, rfl⟩) ⟨fun _ => by omega, fun _ => h0⟩ p2
      · refine r_readTerm (so := 1) (by decide) hx1 r1 (fun z2 J2 r2 v2' _ f2 _ => ?_)
        have p2 := m_gp_trans p1 (m_pe_F f2)
        obtain ⟨o, eo⟩ : ∃ o, p_en K l (some (i, en)) = o := ⟨_, rfl⟩
        cases o with
        | none =>
          have := en1 c1
          rw [eo] at this
          have h0 : p_to (p_t K 1 l (p_to (p_8 l (some (i, en))))) = none := this.symm
          rw [h0] at r2
          exact bad eo r2.2.2.2.2 p2
        | some a =>
          obtain ⟨⟨pl, h, cc⟩, i', e'⟩ := a
          obtain ⟨b0, b1, b2, b3, hh⟩ := p_en_ix eo
          have b3 : e' = en := b3
          subst b0; subst b3
          have := en1 c1
          rw [eo, p_to_s] at this
          rw [← this] at r2
          obtain ⟨m1, m2, m3, _⟩ := r2
          have hh1 : p_8 l (some (i, e')) = some (1, i + 1, e') ∧ p_t K 1 l (some (i + 1, e')) = some (h, i', e') := by
            rcases hh with hh | hh
            · exact ⟨hh.1, hh.2.1⟩
            · have := v1' 2 _ hh.1; omega
          have e8 : p_to (p_8 l (some (i, e'))) = some (i + 1, e') := by rw [hh1.1, p_to_s]
          rw [e8] at v2'
          have hz2 := v2' h _ hh1.2
          obtain ⟨_, _, _, hd, _⟩ := p_t_in hh1.2
          have hne : h ≠ [] := fun e => by rw [e] at hd; exact absurd hd (by simp)
          refine good eo m1 m3 (by rw [f2.2 76 (by decide)]; exact x76) (fun f j hf => by rw [f2.1 f (by simp) (by omega), f1.1 f (by simp) (by omega), s5 f j (by omega)]) (v169v h cc _ eo) (Or.inr hz2) ⟨fun e => absurd e hne, fun e => absurd c1 e⟩ p2
end
