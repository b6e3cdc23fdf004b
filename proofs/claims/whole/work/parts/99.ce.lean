/-! ===== the reference: readLeaf ===== -/
noncomputable section
section
variable {I J : sr_V} {nn fr : Nat} {K : Wt → Prop} {tl mk mm l : List Wt} {a b c x y n : Int} {Q : Int → sr_V → Prop} {R : sr_V → Prop} {st : p_S} {w : Wt}
theorem m_tk_f {F : List Nat} (h : m_tk I mk K fr l) (f : m_fr [] F I J) : m_tk J mk K fr l := by
  have e : ∀ g, g ≠ 1000 → J g = I g := fun g hg => f.1 g (by simp) hg
  unfold m_tk at h ⊢
  rw [e 26 (by decide), e 6 (by decide), e 16 (by decide)]
  exact h
theorem m_rd_su {f : Nat} {z : Int} (h : m_rd I fr l st) (hf : 60 ≤ f) : m_rd (su I 1000 f z) fr l st := by
  have e : ∀ k, k < 60 → su I 1000 f z 1000 k = I 1000 k := fun k hk => su_k (by omega)
  cases st with
  | none =>
    obtain ⟨h1, h2, h3, h4, h5⟩ := h
    exact ⟨by rw [e 57 (by omega)]; exact h1, by rw [e 57 (by omega)]; exact h2, by rw [e 58 (by omega)]; exact h3, by rw [e 58 (by omega)]; exact h4, by rw [e 59 (by omega)]; exact h5⟩
  | some s =>
    obtain ⟨i, e'⟩ := s
    obtain ⟨h1, h2, h3, h4, h5⟩ := h
    exact ⟨by rw [e 57 (by omega)]; exact h1, by rw [e 58 (by omega)]; exact h2, by rw [e 59 (by omega)]; exact h3, h4, h5⟩
theorem m_su_fr {f : Nat} {z : Int} {F : List Nat} (hf : f ∈ F) : m_fr [] F I (su I 1000 f z) := ⟨fun g _ h => su_f h, fun k hk => su_k (fun h => hk (by rw [h]; exact hf))⟩
theorem p_t_le {so : Nat} {S : p_S} {w : Wt} {s : Nat × Nat} (h : p_t K so l S = some (w, s)) : ∃ i e, S = some (i, e) ∧ s = (i + 1, e) := by
  cases S with
  | none => exact absurd h (by simp [p_t])
  | some s0 =>
    obtain ⟨i, e⟩ := s0
    refine ⟨i, e, rfl, ?_⟩
    have h : (@ite _ (i < e ∧ ((l[i]?).getD []).head? = some so ∧ K ((l[i]?).getD [])) (Classical.propDecidable _) (some ((l[i]?).getD [], i + 1, e)) none) = some (w, s) := h
    by_cases c : i < e ∧ ((l[i]?).getD []).head? = some so ∧ K ((l[i]?).getD [])
    · rw [if_pos c] at h
      exact (Prod.mk.inj (Option.some.inj h)).2.symm
    · rw [if_neg c] at h
      exact absurd h (by simp)
theorem m_rd_1 (h : m_rd I fr l st) : m_rd (su I 1000 59 1) fr l none := by
  have e7 : su I 1000 59 1 1000 57 = I 1000 57 := su_k (by decide)
  have e8 : su I 1000 59 1 1000 58 = I 1000 58 := su_k (by decide)
  cases st with
  | none =>
    obtain ⟨h1, h2, h3, h4, h5⟩ := h
    exact ⟨by rw [e7]; exact h1, by rw [e7]; exact h2, by rw [e8]; exact h3, by rw [e8]; exact h4, su_eq _ _ _ _⟩
  | some s =>
    obtain ⟨i, e⟩ := s
    obtain ⟨h1, h2, h3, h4, h5⟩ := h
    exact ⟨by rw [e7]; omega, by rw [e7]; omega, by rw [e8]; omega, by rw [e8]; omega, su_eq _ _ _ _⟩
/-- what readLeaf leaves -/
def m_lo (I : sr_V) (mk : List Wt) (fr : Nat) (m : Int) (k p : Wt) (so : Int) (ph g : Wt) (sa : Nat) : Prop := I 1000 61 = m ∧ w_at mk (I 1000 62) k ∧ w_at mk (I 1000 67) p ∧ I 1000 63 = so ∧ w_az mk (I 1000 64) ph ∧ w_at mk (I 1000 66) g ∧ I 1000 65 = ((fr + sa : Nat) : Int)
theorem r_readLeaf {src : Int} (hx : m_tk I mk K fr l) (h : m_rd I fr l st) (q : ∀ J, m_rd J fr l (p_to (p_lf K src l st)) → J 1000 60 = I 1000 57 → (∀ m k p so ph g i e, p_lf K src l st = some ((m, k, p, so, ph, g), i + 1, e) → m_lo J mk fr m k p so ph g i) → m_fr [] [57, 58, 59, 60, 61, 62, 63, 64, 65, 66, 67] I J → R J) : rm_320 src I R := by
  have up : ∀ {A B : sr_V}, m_fr [] [57, 58, 59] A B → m_fr [] [57, 58, 59, 60, 61, 62, 63, 64, 65, 66, 67] A B := fun {A B} f => m_fr_sub f (by simp) (by simp)
  unfold rm_320
  intro v42 e42 _ I46 e46
  have r46 : m_rd I46 fr l st := by rw [e46]; exact m_rd_su h (by omega)
  have f46 : m_fr [] [57, 58, 59, 60, 61, 62, 63, 64, 65, 66, 67] I I46 := by rw [e46]; exact m_su_fr (by simp)
  have x60 : I46 1000 60 = I 1000 57 := by rw [e46, su_eq, e42]
  refine r_u16 (m_tk_f hx f46) r46 (fun z1 J1 r1 v1 _ _ g1 _ => ?_)
  intro I58 e58
  have r58 : m_rd I58 fr l (p_to (p_16 l st)) := by rw [e58]; exact m_rd_su r1 (by omega)
  have f58 := m_fr_trans (m_fr_trans f46 (up g1)) (show m_fr [] [57, 58, 59, 60, 61, 62, 63, 64, 65, 66, 67] J1 I58 by rw [e58]; exact m_su_fr (by simp))
  have k58 : I58 1000 60 = I 1000 57 ∧ I58 1000 61 = z1 := ⟨by rw [e58, su_k (by decide), g1.2 60 (by decide), x60], by rw [e58, su_eq]⟩
  refine r_readTerm (so := 5) (by omega) (m_tk_f hx f58) r58 (fun z2 J2 r2 v2 _ g2 _ => ?_)
  intro I70 e70
  have r70 : m_rd I70 fr l (p_to (p_t K 5 l (p_to (p_16 l st)))) := by rw [e70]; exact m_rd_su r2 (by omega)
  have f70 := m_fr_trans (m_fr_trans f58 (up g2)) (show m_fr [] [57, 58, 59, 60, 61, 62, 63, 64, 65, 66, 67] J2 I70 by rw [e70]; exact m_su_fr (by simp))
  have k70 : I70 1000 60 = I 1000 57 ∧ I70 1000 61 = z1 ∧ I70 1000 62 = z2 := ⟨by rw [e70, su_k (by decide), g2.2 60 (by decide), k58.1], by rw [e70, su_k (by decide), g2.2 61 (by decide), k58.2], by rw [e70, su_eq]⟩
  refine r_readTerm (so := 5) (by omega) (m_tk_f hx f70) r70 (fun z3 J3 r3 v3 _ g3 _ => ?_)
  intro I82 e82
  have r82 : m_rd I82 fr l (p_to (p_t K 5 l (p_to (p_t K 5 l (p_to (p_16 l st)))))) := by rw [e82]; exact m_rd_su r3 (by omega)
  have f82 := m_fr_trans (m_fr_trans f70 (up g3)) (show m_fr [] [57, 58, 59, 60, 61, 62, 63, 64, 65, 66, 67] J3 I82 by rw [e82]; exact m_su_fr (by simp))
  have k82 : I82 1000 60 = I 1000 57 ∧ I82 1000 61 = z1 ∧ I82 1000 62 = z2 ∧ I82 1000 67 = z3 := ⟨by rw [e82, su_k (by decide), g3.2 60 (by decide), k70.1], by rw [e82, su_k (by decide), g3.2 61 (by decide), k70.2.1], by rw [e82, su_k (by decide), g3.2 62 (by decide), k70.2.2], by rw [e82, su_eq]⟩
  refine r_u8 (m_tk_f hx f82) r82 (fun z4 J4 r4 v4 z40 z41 g4 _ => ?_)
  intro I94 e94
  have r94 : m_rd I94 fr l (p_to (p_8 l (p_to (p_t K 5 l (p_to (p_t K 5 l (p_to (p_16 l st)))))))) := by rw [e94]; exact m_rd_su r4 (by omega)
  have f94 := m_fr_trans (m_fr_trans f82 (up g4)) (show m_fr [] [57, 58, 59, 60, 61, 62, 63, 64, 65, 66, 67] J4 I94 by rw [e94]; exact m_su_fr (by simp))
  have k94 : I94 1000 60 = I 1000 57 ∧ I94 1000 61 = z1 ∧ I94 1000 62 = z2 ∧ I94 1000 67 = z3 ∧ I94 1000 63 = z4 := ⟨by rw [e94, su_k (by decide), g4.2 60 (by decide), k82.1], by rw [e94, su_k (by decide), g4.2 61 (by decide), k82.2.1], by rw [e94, su_k (by decide), g4.2 62 (by decide), k82.2.2.1], by rw [e94, su_k (by decide), g4.2 67 (by decide), k82.2.2.2], by rw [e94, su_eq]⟩
  clear e46 e58 e70 e82 e94
  -- the last term
  have last : ∀ (Z : sr_V) (S4 S5 : p_S) (z5 : Int), m_rd Z fr l S5 → S4 = (if z4 < 1 ∨ 3 < z4 ∨ (0 < src ∧ z4 ≠ src) then none else p_to (p_8 l (p_to (p_t K 5 l (p_to (p_t K 5 l (p_to (p_16 l st)))))))) → S5 = (if z4 = 3 then p_to (p_h K l S4) else S4) → (z4 = 3 → ∀ w s, p_h K l S4 = some (w, s) → w_az mk z5 w) → (z4 ≠ 3 → z5 = 0) → m_fr [] [57, 58, 59] I94 Z → rb_320_48 R z5 Z := by
    intro Z S4 S5 z5 rZ e4 e5 h3 h0 fZ
    obtain ⟨pl1, pl2⟩ := p_lf_st (K := K) (src := src) (z := z4) v4 S4 S5 e4 e5
    have kZ : ∀ k, 60 ≤ k → Z 1000 k = I94 1000 k := fun k hk => fZ.2 k (by simp; omega)
    unfold rb_320_48
    intro I2 e2 v6 e6 _ I10 e10
    have r10 : m_rd I10 fr l S5 := by rw [e10, e2]; exact m_rd_su (m_rd_su rZ (by omega)) (by omega)
    have f10 : m_fr [] [57, 58, 59, 60, 61, 62, 63, 64, 65, 66, 67] Z I10 := by
      rw [e10, e2]
      exact m_fr_trans (m_su_fr (by simp)) (m_su_fr (by simp))
    have x65 : I10 1000 65 = Z 1000 57 := by rw [e10, su_eq, e6, e2, su_k (by decide)]
    have x64 : I10 1000 64 = z5 := by rw [e10, su_k (by decide), e2, su_eq]
    have xo : ∀ k, 60 ≤ k → k ≠ 64 → k ≠ 65 → I10 1000 k = I94 1000 k := fun k hk h1 h2 => by rw [e10, su_k h2, e2, su_k h1, kZ k hk]
    have f0 := m_fr_trans (m_fr_trans f94 (up fZ)) f10
    refine r_readTerm (so := 7) (by omega) (m_tk_f hx f0) r10 (fun z7 J7 r7 v7 _ g7 _ => ?_)
    intro I22 e22
    have f22 : m_fr [] [57, 58, 59, 60, 61, 62, 63, 64, 65, 66, 67] J7 I22 := by rw [e22]; exact m_su_fr (by simp)
    have y : ∀ k, 60 ≤ k → k ≠ 66 → I22 1000 k = I10 1000 k := fun k hk h6 => by rw [e22, su_k h6, g7.2 k (by simp; omega)]
    refine q I22 ?_ ?_ (fun m k p so ph g i e hl => ?_) (m_fr_trans (m_fr_trans f0 (up g7)) f22)
    · rw [pl1, e22]
      exact m_rd_su r7 (by omega)
    · rw [y 60 (by omega) (by decide), xo 60 (by omega) (by decide) (by decide), k94.1]
    · obtain ⟨⟨s1, s2, s3, s4, c1, c2, c3, c4⟩, hz, b1, b3, ph3, ph0, c7⟩ := pl2 m k p so ph g (i + 1, e) hl
      refine ⟨?_, ?_, ?_, ?_, ?_, ?_, ?_⟩
      · rw [y 61 (by omega) (by decide), xo 61 (by omega) (by decide) (by decide), k94.2.1]
        exact v1 m s1 c1
      · rw [y 62 (by omega) (by decide), xo 62 (by omega) (by decide) (by decide), k94.2.2.1]
        exact v2 k s2 c2
      · rw [y 67 (by omega) (by decide), xo 67 (by omega) (by decide) (by decide), k94.2.2.2.1]
        exact v3 p s3 c3
      · rw [y 63 (by omega) (by decide), xo 63 (by omega) (by decide) (by decide), k94.2.2.2.2]
        exact hz
      · rw [y 64 (by omega) (by decide), x64]
        by_cases c : so = 3
        · obtain ⟨s5, c5⟩ := ph3 c
          exact h3 (by omega) ph s5 c5
        · exact Or.inl ⟨h0 (by omega), ph0 c⟩
      · rw [e22, su_eq]
        exact v7 g (i + 1, e) c7
      · rw [y 65 (by omega) (by decide), x65]
        obtain ⟨i5, e5', h5, h6⟩ := p_t_le c7
        rw [h5] at rZ
        have hi : i = i5 := by
          have := (Prod.mk.inj h6).1
          omega
        rw [hi]
        exact rZ.1
  -- from the source on
  have src2 : ∀ (Z : sr_V) (S4 : p_S), m_rd Z fr l S4 → S4 = (if z4 < 1 ∨ 3 < z4 ∨ (0 < src ∧ z4 ≠ src) then none else p_to (p_8 l (p_to (p_t K 5 l (p_to (p_t K 5 l (p_to (p_16 l st)))))))) → m_fr [] [57, 58, 59] I94 Z → rb_320_39 R Z := by
    intro Z S4 rZ e4 fZ
    unfold rb_320_39
    intro v26 e26 _
    have e26 : v26 = z4 := by rw [e26, fZ.2 63 (by decide), k94.2.2.2.2]
    refine ⟨fun c => ?_, fun c => ?_⟩
    · exact last Z S4 S4 0 rZ e4 (by rw [if_neg (by omega)]) (fun h => by omega) (fun _ => rfl) fZ
    · refine r_readPerhaps (m_tk_f (m_tk_f hx f94) fZ) rZ (fun z5 J5 r5 v5 _ g5 _ => ?_)
      exact last J5 S4 _ z5 r5 e4 (by rw [if_pos (by omega)]) (fun _ => v5) (fun h => by omega) (m_fr_trans fZ g5)
  have bad : (z4 < 1 ∨ 3 < z4 ∨ (0 < src ∧ z4 ≠ src)) → rb_320_36 R I94 := by
    intro hc
    unfold rb_320_36
    intro I38 e38
    refine src2 I38 none (by rw [e38]; exact m_rd_1 r94) (by rw [if_pos hc]) (by rw [e38]; exact m_su_fr (by simp))
  have good : ¬ (z4 < 1 ∨ 3 < z4 ∨ (0 < src ∧ z4 ≠ src)) → rb_320_39 R I94 := fun hc => src2 I94 _ r94 (by rw [if_neg hc]) (m_fr_refl _ _ _)
  have k63 := k94.2.2.2.2
  intro v98 e98 _
  refine ⟨fun c => bad (by omega), fun c => ?_⟩
  intro v101 e101 _
  refine ⟨fun c1 => bad (by omega), fun c1 => ⟨fun c2 => good (by omega), fun c2 => ?_⟩⟩
  intro v104 e104 _
  exact ⟨fun c3 => good (by omega), fun c3 => bad (by omega)⟩
end
end
