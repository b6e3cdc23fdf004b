/-! ===== the reference: readContent ===== -/
noncomputable section
section
variable {I J : sr_V} {nn fr : Nat} {K : Wt → Prop} {tl mk mm l : List Wt} {Q : Int → sr_V → Prop} {R : sr_V → Prop} {st : p_S} {w : Wt}
/-- what stands behind a CONTENT -/
def m_co (I : sr_V) (mk : List Wt) (fr : Nat) (s : Nat × Nat) : p_C → Prop
  | (kd, (ik, (m, k, p, so, ph, g0), g), n) => I 1000 73 = kd ∧ (kd = 1 → ∃ j, s.1 = j + 9 ∧ m_po2 I mk fr ik g (j + 8) ∧ m_lo I mk fr m k p so ph g0 (j + 7) ∧ I 1000 71 = ((fr + j : Nat) : Int) ∧ I 1000 60 = ((fr + (j + 2) : Nat) : Int)) ∧ (kd = 2 → ∃ j, s.1 = j + 6 ∧ m_lo I mk fr m k p so ph g0 (j + 5) ∧ I 1000 60 = ((fr + j : Nat) : Int)) ∧ (kd = 3 → I 1000 75 = n)
theorem p_r_le {i e en i1 e1 : Nat} (h : p_r l (some (i, e)) = some (en, i1, e1)) : e1 = e ∧ en ≤ e ∧ i1 ≤ en := by
  unfold p_r at h
  rw [Option.bind_eq_some_iff] at h
  obtain ⟨⟨z, i2, e2⟩, h3, h4⟩ := h
  have a := p_16_le h3
  have h4 : (if (i2 : Int) + z ≤ (e2 : Int) then some (i2 + z.toNat, i2, e2) else none) = some (en, i1, e1) := h4
  by_cases c : (i2 : Int) + z ≤ (e2 : Int)
  · rw [if_pos c] at h4
    have h4 := Option.some.inj h4
    rw [Prod.mk.injEq, Prod.mk.injEq] at h4
    omega
  · rw [if_neg c] at h4
    exact absurd h4 (by simp)
theorem m_rd_stop {z : Int} (h : m_rd I fr l none) (h1 : (fr : Int) ≤ z) (h2 : z ≤ ((fr + l.length : Nat) : Int)) : m_rd (su I 1000 58 z) fr l none := by
  obtain ⟨a1, a2, a3, a4, a5⟩ := h
  exact ⟨by rw [su_k (by decide)]; exact a1, by rw [su_k (by decide)]; exact a2, by rw [su_eq]; exact h1, by rw [su_eq]; exact h2, by rw [su_k (by decide)]; exact a5⟩
theorem r_readContent (hx : m_tk I mk K fr l) (h : m_rd I fr l st) (q : ∀ J, m_rd J fr l (p_to (p_ct K l st)) → J 1000 74 = I 1000 57 → (∀ v s, p_ct K l st = some (v, s) → m_co J mk fr s v) → m_fr [] [57, 58, 59, 60, 61, 62, 63, 64, 65, 66, 67, 68, 69, 70, 71, 72, 73, 74, 75] I J → R J) : rm_214 I R := by
  have up : ∀ {A B : sr_V}, m_fr [] [57, 58, 59] A B → m_fr [] [57, 58, 59, 60, 61, 62, 63, 64, 65, 66, 67, 68, 69, 70, 71, 72, 73, 74, 75] A B := fun {A B} f => m_fr_sub f (by simp) (by simp)
  unfold rm_214
  intro v6 e6 _ I10 e10
  have r10 : m_rd I10 fr l st := by rw [e10]; exact m_rd_su h (by omega)
  have f10 : m_fr [] [57, 58, 59, 60, 61, 62, 63, 64, 65, 66, 67, 68, 69, 70, 71, 72, 73, 74, 75] I I10 := by rw [e10]; exact m_su_fr (by simp)
  have x74 : I10 1000 74 = I 1000 57 := by rw [e10, su_eq, e6]
  refine r_u8 (m_tk_f hx f10) r10 (fun z1 J1 r1 v1 _ _ g1 _ => ?_)
  intro I22 e22 I27 e27
  have r27 : m_rd I27 fr l (p_to (p_8 l st)) := by rw [e27, e22]; exact m_rd_su (m_rd_su r1 (by omega)) (by omega)
  have f27 := m_fr_trans (m_fr_trans f10 (up g1)) (show m_fr [] [57, 58, 59, 60, 61, 62, 63, 64, 65, 66, 67, 68, 69, 70, 71, 72, 73, 74, 75] J1 I27 by rw [e27, e22]; exact m_fr_trans (m_su_fr (by simp)) (m_su_fr (by simp)))
  have k73 : I27 1000 73 = z1 := by rw [e27, su_k (by decide), e22, su_eq]
  have k74 : I27 1000 74 = I 1000 57 := by rw [e27, su_k (by decide), e22, su_k (by decide), g1.2 74 (by decide), x74]
  clear e27 e22 e10
  obtain ⟨p1, p2, p3, p4⟩ := p_ct_st (K := K) v1
  intro v31 e31 _ v37 e37 _
  rw [k73] at e37
  refine ⟨fun c1 => ?_, fun c1 => ?_⟩
  · intro v40 e40 _
    rw [k73] at e40
    refine ⟨fun c2 => ?_, fun c2 => ?_⟩
    · intro v43 e43 _
      rw [k73] at e43
      refine ⟨fun c3 => ?_, fun c3 => ?_⟩
      · intro I47 e47
        have e := p4 (by omega) (by omega) (by omega)
        refine q I47 (by rw [e, e47]; exact m_rd_1 r27) (by rw [e47, su_k (by decide), k74]) (fun v s hv => by rw [e] at hv; exact absurd hv (by simp)) (m_fr_trans f27 (by rw [e47]; exact m_su_fr (by simp)))
      · refine r_u16 (m_tk_f hx f27) r27 (fun z3 J3 r3 v3 _ _ g3 _ => ?_)
        intro I59 e59
        have e := p3 (by omega)
        refine q I59 (by rw [e, p_to_map, e59]; exact m_rd_su r3 (by omega)) (by rw [e59, su_k (by decide), g3.2 74 (by decide), k74]) (fun v s hv => ?_) (m_fr_trans (m_fr_trans f27 (up g3)) (by rw [e59]; exact m_su_fr (by simp)))
        rw [e, Option.map_eq_some_iff] at hv
        obtain ⟨⟨nx, ns⟩, hn, hv⟩ := hv
        have hv := (Prod.mk.inj hv).1
        rw [← hv]
        exact ⟨by rw [e59, su_k (by decide), g3.2 73 (by decide), k73]; omega, fun h => absurd h (by decide), fun h => absurd h (by decide), fun _ => by rw [e59, su_eq]; exact v3 nx ns hn⟩
    · refine r_readLeaf (src := 2) (m_tk_f hx f27) r27 (fun J3 r3 h60 v3 g3 => ?_)
      have e := p2 (by omega)
      refine q J3 (by rw [e, p_to_map]; exact r3) (by rw [g3.2 74 (by decide), k74]) (fun v s hv => ?_) (m_fr_trans f27 (m_fr_sub g3 (by simp) (by simp)))
      rw [e, Option.map_eq_some_iff] at hv
      obtain ⟨⟨⟨m, k, p, so, ph, g0⟩, s'⟩, hl, hv⟩ := hv
      obtain ⟨i3, e3, es3⟩ := p_lf_le hl
      subst es3
      have hv2 : (i3 + 1, e3) = s := (Prod.mk.inj hv).2
      have hv := (Prod.mk.inj hv).1
      rw [← hv, ← hv2]
      have at0 : ∃ j : Nat, I27 1000 57 = ((fr + j : Nat) : Int) ∧ i3 = j + 5 := by
        obtain ⟨S, eS⟩ : ∃ S, p_to (p_8 l st) = S := ⟨_, rfl⟩
        rw [eS] at hl r27
        cases S with
        | none => exact absurd hl (by simp [p_lf, p_16, p_8])
        | some s0 =>
          obtain ⟨j0, e0⟩ := s0
          obtain ⟨x1, x2, x3, x4, x5, x6, _⟩ := p_lf_ix hl
          have x6 := x6 (by decide)
          rw [x6, if_neg (by decide)] at x1
          have x1 := (Prod.mk.inj x1).1
          exact ⟨j0, r27.1, by omega⟩
      obtain ⟨j, ej, ei3⟩ := at0
      subst ei3
      exact ⟨by rw [g3.2 73 (by decide), k73]; omega, fun h => absurd h (by decide), fun _ => ⟨j, rfl, v3 m k p so ph g0 (j + 5) e3 hl, by rw [h60]; exact ej⟩, fun h => absurd h (by decide)⟩
  · have e := p1 (by omega)
    have b31 : (fr : Int) ≤ v31 ∧ v31 ≤ ((fr + l.length : Nat) : Int) := by
      rw [e31]
      obtain ⟨S, eS⟩ : ∃ S, p_to (p_8 l st) = S := ⟨_, rfl⟩
      rw [eS] at r27
      cases S with
      | none => exact ⟨r27.2.2.1, r27.2.2.2.1⟩
      | some s0 =>
        obtain ⟨i0, e0⟩ := s0
        obtain ⟨h1, h2, h3, h4, h5⟩ := r27
        omega
    refine r_readRow (m_tk_f hx f27) r27 (fun z7 J7 r7 v7 l7 u7 g7 _ => ?_)
    have f7 := m_fr_trans f27 (up g7)
    have k7 : J7 1000 73 = z1 ∧ J7 1000 74 = I 1000 57 := ⟨by rw [g7.2 73 (by decide), k73], by rw [g7.2 74 (by decide), k74]⟩
    obtain ⟨S, eS⟩ : ∃ S, p_to (p_8 l st) = S := ⟨_, rfl⟩
    rw [eS] at e r7 v7 r27
    intro v82 e82 _
    obtain ⟨o, eo⟩ : ∃ o, p_r l S = o := ⟨_, rfl⟩
    rw [eo] at r7 v7
    cases o with
    | none =>
      have en : p_ct K l st = none := by rw [e]; unfold p_add; rw [eo]; rfl
      have h59 : J7 1000 59 = 1 := r7.2.2.2.2
      refine ⟨fun c => by omega, fun _ => ?_⟩
      exact q J7 (by rw [en]; exact r7) k7.2 (fun v s hv => by rw [en] at hv; exact absurd hv (by simp)) f7
    | some ro =>
      obtain ⟨en, i1, e1⟩ := ro
      cases S with
      | none => exact absurd eo (by simp [p_r, p_16, p_8])
      | some s0 =>
        obtain ⟨i0, e0⟩ := s0
        obtain ⟨q1, q2, q3⟩ := p_r_le eo
        subst q1
        have ez7 : z7 = ((fr + en : Nat) : Int) := v7 en (i1, e1) rfl
        obtain ⟨a1, a2, a3, a4, a5⟩ := r7
        have h58 : v31 = ((fr + e1 : Nat) : Int) := by rw [e31]; exact r27.2.1
        have ea : p_ct K l st = (p_pk K l (some (i1, en))).bind (fun pk => if pk.2.1 = en then some ((1, pk.1, 0), pk.2.1, e1) else none) := by rw [e]; unfold p_add; rw [eo]; rfl
        have a3 : J7 1000 59 = 0 := a3
        refine ⟨fun _ => ?_, fun c => by omega⟩
        intro I86 e86
        have r86 : m_rd I86 fr l (some (i1, en)) := ⟨by rw [e86, su_k (by decide)]; exact a1, by rw [e86, su_eq, ez7], by rw [e86, su_k (by decide)]; exact a3, q3, by omega⟩
        have f86 := m_fr_trans f7 (show m_fr [] [57, 58, 59, 60, 61, 62, 63, 64, 65, 66, 67, 68, 69, 70, 71, 72, 73, 74, 75] J7 I86 by rw [e86]; exact m_su_fr (by simp))
        refine r_readPackage (m_tk_f hx f86) r86 (fun J9 r9 h71 v9 g9 => ?_)
        have f9 := m_fr_trans f86 (m_fr_sub g9 (by simp) (by simp))
        have k9 : J9 1000 73 = z1 ∧ J9 1000 74 = I 1000 57 := ⟨by rw [g9.2 73 (by decide), e86, su_k (by decide), k7.1], by rw [g9.2 74 (by decide), e86, su_k (by decide), k7.2]⟩
        -- the end
        have fin : ∀ Z, (Z = J9 ∨ Z = su J9 1000 59 1) → m_rd (su Z 1000 58 v31) fr l (p_to (p_ct K l st)) → (∀ v s, p_ct K l st = some (v, s) → Z = J9) → rb_214_37 R v31 Z := by
          intro Z hZ rZ vZ
          unfold rb_214_37
          intro I2 e2
          have yk : ∀ k, 60 ≤ k → I2 1000 k = J9 1000 k := fun k hk => by
            rw [e2, su_k (by omega)]
            rcases hZ with hZ | hZ
            · rw [hZ]
            · rw [hZ, su_k (by omega)]
          have fZ : m_fr [] [57, 58, 59, 60, 61, 62, 63, 64, 65, 66, 67, 68, 69, 70, 71, 72, 73, 74, 75] J9 I2 := by
            refine m_fr_trans (J := Z) ?_ (by rw [e2]; exact m_su_fr (by simp))
            rcases hZ with hZ | hZ
            · rw [hZ]; exact m_fr_refl _ _ _
            · rw [hZ]; exact m_su_fr (by simp)
          refine q I2 (by rw [e2]; exact rZ) (by rw [yk 74 (by omega), k9.2]) (fun v s hv => ?_) (m_fr_trans f9 fZ)
          rw [ea, Option.bind_eq_some_iff] at hv
          obtain ⟨⟨⟨ik, ⟨m, k, p, so, ph, g0⟩, g⟩, i3, e3⟩, hp, hv⟩ := hv
          have hv : (if i3 = en then some (((1 : Int), (ik, (m, k, p, so, ph, g0), g), (0 : Int)), i3, e1) else none) = some (v, s) := hv
          by_cases cc : i3 = en
          · rw [if_pos cc] at hv
            have hv := Option.some.inj hv
            rw [Prod.mk.injEq] at hv
            obtain ⟨hv, hs⟩ := hv
            rw [← hv, ← hs]
            obtain ⟨x1, x2, _⟩ := p_pk_ix hp
            have x1 := (Prod.mk.inj x1).1
            have x1 : i3 = (i1 + 8) + 1 := by omega
            subst x1
            obtain ⟨w1, ⟨sa, w2, w3⟩, j, w4, w5⟩ := v9 ik m k p so ph g0 g (i1 + 8) e3 hp
            have hj := w5 i1 en rfl
            have hsa : sa = i1 + 7 := by omega
            subst hsa
            refine ⟨by rw [yk 73 (by omega), k9.1]; omega, fun _ => ⟨i1, rfl, ?_, ?_, ?_, ?_⟩, fun h => absurd h (by decide), fun h => absurd h (by decide)⟩
            · unfold m_po2 at w1 ⊢
              rw [yk 68 (by omega), yk 70 (by omega), yk 69 (by omega), yk 72 (by omega)]
              exact w1
            · unfold m_lo at w2 ⊢
              rw [yk 61 (by omega), yk 62 (by omega), yk 67 (by omega), yk 63 (by omega), yk 64 (by omega), yk 66 (by omega), yk 65 (by omega)]
              exact w2
            · rw [yk 71 (by omega), h71]
              exact r86.1
            · rw [yk 60 (by omega), w4, hj]
          · rw [if_neg cc] at hv
            exact absurd hv (by simp)
        obtain ⟨pk, ek⟩ : ∃ pk, p_pk K l (some (i1, en)) = pk := ⟨_, rfl⟩
        intro v97 e97 _
        rw [ek] at r9
        cases pk with
        | none =>
          have ec : p_ct K l st = none := by rw [ea, ek]; rfl
          have nv : ∀ v s, p_ct K l st = some (v, s) → ∀ Z : sr_V, Z = J9 := fun v s hv => by rw [ec] at hv; exact absurd hv (by simp)
          refine ⟨fun c => fin J9 (Or.inl rfl) (by rw [ec]; exact m_rd_stop r9 b31.1 b31.2) (fun v s hv => nv v s hv _), fun c => ?_⟩
          intro I101 e101
          refine fin I101 (Or.inr e101) (by rw [ec, e101]; exact m_rd_stop (m_rd_1 r9) b31.1 b31.2) (fun v s hv => nv v s hv _)
        | some pk =>
          obtain ⟨pv, i3, e3⟩ := pk
          have he3 : e3 = en := p_pk_e ek
          have r9' := r9
          obtain ⟨d1, d2, d3, d4, d5⟩ := r9
          have d1 : J9 1000 57 = ((fr + i3 : Nat) : Int) := d1
          have d3 : J9 1000 59 = 0 := d3
          have d4 : i3 ≤ e3 := d4
          refine ⟨fun c => ?_, fun c => ?_⟩
          · have hi : i3 = en := by omega
            have ec : p_ct K l st = some ((1, pv, 0), i3, e1) := by rw [ea, ek]; exact if_pos hi
            refine fin J9 (Or.inl rfl) ?_ (fun _ _ _ => rfl)
            rw [ec]
            exact ⟨by rw [su_k (by decide)]; exact d1, by rw [su_eq, h58], by rw [su_k (by decide)]; exact d3, by omega, a5⟩
          · have hi : ¬ i3 = en := fun g => c (by rw [e97, d1, ez7, g])
            have ec : p_ct K l st = none := by rw [ea, ek]; exact if_neg hi
            intro I101 e101
            refine fin I101 (Or.inr e101) ?_ (fun v s hv => by rw [ec] at hv; exact absurd hv (by simp))
            rw [ec, e101]
            exact m_rd_stop (m_rd_1 (st := some (i3, e3)) r9') b31.1 b31.2
end
end
