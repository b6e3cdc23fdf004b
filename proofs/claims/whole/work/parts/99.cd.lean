/-! ===== a LEAF read; the reference's readLeaf ===== -/
noncomputable section
theorem p_t_0 (K : Wt → Prop) (so : Nat) (l : List Wt) : p_t K so l none = none := rfl
theorem p_to_0 {A : Type} : p_to (none : Option (A × Nat × Nat)) = none := rfl
theorem p_to_s {A : Type} (x : A) (s : Nat × Nat) : p_to (some (x, s)) = some s := rfl
/-- a LEAF: member, key, signature key, source, parent hash, signature -/
def p_lf (K : Wt → Prop) (src : Int) (l : List Wt) (st : p_S) : Option ((Int × Wt × Wt × Int × Wt × Wt) × Nat × Nat) :=
  (p_16 l st).bind (fun m => (p_t K 5 l (some m.2)).bind (fun k => (p_t K 5 l (some k.2)).bind (fun p => (p_8 l (some p.2)).bind (fun so => if so.1 < 1 ∨ 3 < so.1 ∨ (0 < src ∧ so.1 ≠ src) then none else (if so.1 = 3 then p_h K l (some so.2) else some ([], so.2)).bind (fun ph => (p_t K 7 l (some ph.2)).map (fun g => ((m.1, k.1, p.1, so.1, ph.1, g.1), g.2)))))))
/-- the same, step by step, with the source as it was read -/
theorem p_lf_st {K : Wt → Prop} {src z : Int} {l : List Wt} {st : p_S} (hz : ∀ b s, p_8 l (p_to (p_t K 5 l (p_to (p_t K 5 l (p_to (p_16 l st)))))) = some (b, s) → z = b) (S4 S5 : p_S) (e4 : S4 = if z < 1 ∨ 3 < z ∨ (0 < src ∧ z ≠ src) then none else p_to (p_8 l (p_to (p_t K 5 l (p_to (p_t K 5 l (p_to (p_16 l st)))))))) (e5 : S5 = if z = 3 then p_to (p_h K l S4) else S4) : p_to (p_lf K src l st) = p_to (p_t K 7 l S5) ∧ ∀ m k p so ph g s, p_lf K src l st = some ((m, k, p, so, ph, g), s) → (∃ s1 s2 s3 s4, p_16 l st = some (m, s1) ∧ p_t K 5 l (p_to (p_16 l st)) = some (k, s2) ∧ p_t K 5 l (p_to (p_t K 5 l (p_to (p_16 l st)))) = some (p, s3) ∧ p_8 l (p_to (p_t K 5 l (p_to (p_t K 5 l (p_to (p_16 l st)))))) = some (so, s4)) ∧ z = so ∧ 1 ≤ so ∧ so ≤ 3 ∧ (so = 3 → ∃ s5, p_h K l S4 = some (ph, s5)) ∧ (so ≠ 3 → ph = []) ∧ p_t K 7 l S5 = some (g, s) := by
  have nn : ∀ S5' : p_S, S5' = none → p_to (p_t K 7 l S5') = none := fun S5' e => by rw [e]; rfl
  have bad : p_lf K src l st = none → S5 = none → p_to (p_lf K src l st) = p_to (p_t K 7 l S5) ∧ ∀ m k p so ph g s, p_lf K src l st = some ((m, k, p, so, ph, g), s) → (∃ s1 s2 s3 s4, p_16 l st = some (m, s1) ∧ p_t K 5 l (p_to (p_16 l st)) = some (k, s2) ∧ p_t K 5 l (p_to (p_t K 5 l (p_to (p_16 l st)))) = some (p, s3) ∧ p_8 l (p_to (p_t K 5 l (p_to (p_t K 5 l (p_to (p_16 l st)))))) = some (so, s4)) ∧ z = so ∧ 1 ≤ so ∧ so ≤ 3 ∧ (so = 3 → ∃ s5, p_h K l S4 = some (ph, s5)) ∧ (so ≠ 3 → ph = []) ∧ p_t K 7 l S5 = some (g, s) := by
    intro h1 h2
    refine ⟨by rw [h1, nn S5 h2]; rfl, fun m k p so ph g s h => ?_⟩
    rw [h1] at h
    exact absurd h (by simp)
  have s5n : S4 = none → S5 = none := fun e => by
    rw [e5, e]
    by_cases c : z = 3
    · rw [if_pos c]; rfl
    · rw [if_neg c]
  obtain ⟨o1, c1⟩ : ∃ o1, p_16 l st = o1 := ⟨_, rfl⟩
  cases o1 with
  | none =>
    refine bad (by unfold p_lf; rw [c1]; rfl) (s5n ?_)
    rw [e4, c1]
    show (if _ then none else none) = none
    split <;> rfl
  | some m1 =>
    cases c2 : p_t K 5 l (some m1.2) with
    | none =>
      have c2' : p_t K 5 l (p_to (p_16 l st)) = none := by rw [c1]; exact c2
      refine bad (by unfold p_lf; rw [c1]; show (p_t K 5 l (some m1.2)).bind _ = none; rw [c2]; rfl) (s5n ?_)
      rw [e4, c2']
      show (if _ then none else none) = none
      split <;> rfl
    | some k1 =>
      have c2' : p_t K 5 l (p_to (p_16 l st)) = some k1 := by rw [c1]; exact c2
      cases c3 : p_t K 5 l (some k1.2) with
      | none =>
        have c3' : p_t K 5 l (p_to (p_t K 5 l (p_to (p_16 l st)))) = none := by rw [c2']; exact c3
        refine bad (by unfold p_lf; rw [c1]; show (p_t K 5 l (some m1.2)).bind _ = none; rw [c2]; show (p_t K 5 l (some k1.2)).bind _ = none; rw [c3]; rfl) (s5n ?_)
        rw [e4, c3']
        show (if _ then none else none) = none
        split <;> rfl
      | some p1 =>
        have c3' : p_t K 5 l (p_to (p_t K 5 l (p_to (p_16 l st)))) = some p1 := by rw [c2']; exact c3
        cases c4 : p_8 l (some p1.2) with
        | none =>
          have c4' : p_8 l (p_to (p_t K 5 l (p_to (p_t K 5 l (p_to (p_16 l st)))))) = none := by rw [c3']; exact c4
          refine bad (by unfold p_lf; rw [c1]; show (p_t K 5 l (some m1.2)).bind _ = none; rw [c2]; show (p_t K 5 l (some k1.2)).bind _ = none; rw [c3]; show (p_8 l (some p1.2)).bind _ = none; rw [c4]; rfl) (s5n ?_)
          rw [e4, c4']
          show (if _ then none else none) = none
          split <;> rfl
        | some so1 =>
          have c4' : p_8 l (p_to (p_t K 5 l (p_to (p_t K 5 l (p_to (p_16 l st)))))) = some so1 := by rw [c3']; exact c4
          have ez : z = so1.1 := hz so1.1 so1.2 c4'
          have el : p_lf K src l st = if so1.1 < 1 ∨ 3 < so1.1 ∨ (0 < src ∧ so1.1 ≠ src) then none else (if so1.1 = 3 then p_h K l (some so1.2) else some ([], so1.2)).bind (fun ph => (p_t K 7 l (some ph.2)).map (fun g => ((m1.1, k1.1, p1.1, so1.1, ph.1, g.1), g.2))) := by
            unfold p_lf
            rw [c1]
            show (p_t K 5 l (some m1.2)).bind _ = _
            rw [c2]
            show (p_t K 5 l (some k1.2)).bind _ = _
            rw [c3]
            show (p_8 l (some p1.2)).bind _ = _
            rw [c4]
            rfl
          rw [c4', ez] at e4
          by_cases cs : so1.1 < 1 ∨ 3 < so1.1 ∨ (0 < src ∧ so1.1 ≠ src)
          · rw [if_pos cs] at e4 el
            exact bad el (s5n e4)
          · rw [if_neg cs] at e4 el
            have e4 : S4 = some so1.2 := e4
            rw [ez, e4] at e5
            by_cases c3s : so1.1 = 3
            · rw [if_pos c3s] at e5 el
              cases c5 : p_h K l (some so1.2) with
              | none =>
                rw [c5] at el e5
                exact bad el e5
              | some ph1 =>
                rw [c5] at el e5
                have el : p_lf K src l st = (p_t K 7 l (some ph1.2)).map (fun g => ((m1.1, k1.1, p1.1, so1.1, ph1.1, g.1), g.2)) := el
                have e5 : S5 = some ph1.2 := e5
                cases c6 : p_t K 7 l (some ph1.2) with
                | none =>
                  rw [c6] at el
                  have c6' : p_t K 7 l S5 = none := by rw [e5]; exact c6
                  refine ⟨by rw [el, c6']; rfl, fun m k p so ph g s h => ?_⟩
                  rw [el] at h
                  exact absurd h (by simp)
                | some g1 =>
                  rw [c6] at el
                  have c6' : p_t K 7 l S5 = some g1 := by rw [e5]; exact c6
                  refine ⟨by rw [el, c6']; rfl, fun m k p so ph g s h => ?_⟩
                  rw [el] at h
                  have h := Option.some.inj h
                  simp only [Prod.mk.injEq] at h
                  obtain ⟨⟨h1, h2, h3, h4, h5, h6⟩, h7⟩ := h
                  subst h1 h2 h3 h4 h5 h6 h7
                  exact ⟨⟨m1.2, k1.2, p1.2, so1.2, c1, c2', c3', c4'⟩, ez, by omega, by omega, fun _ => ⟨ph1.2, by rw [e4]; exact c5⟩, fun h => absurd c3s h, c6'⟩
            · rw [if_neg c3s] at e5 el
              have el : p_lf K src l st = (p_t K 7 l (some so1.2)).map (fun g => ((m1.1, k1.1, p1.1, so1.1, ([] : Wt), g.1), g.2)) := el
              cases c6 : p_t K 7 l (some so1.2) with
              | none =>
                rw [c6] at el
                have c6' : p_t K 7 l S5 = none := by rw [e5]; exact c6
                refine ⟨by rw [el, c6']; rfl, fun m k p so ph g s h => ?_⟩
                rw [el] at h
                exact absurd h (by simp)
              | some g1 =>
                rw [c6] at el
                have c6' : p_t K 7 l S5 = some g1 := by rw [e5]; exact c6
                refine ⟨by rw [el, c6']; rfl, fun m k p so ph g s h => ?_⟩
                rw [el] at h
                have h := Option.some.inj h
                simp only [Prod.mk.injEq] at h
                obtain ⟨⟨h1, h2, h3, h4, h5, h6⟩, h7⟩ := h
                subst h1 h2 h3 h4 h6 h7
                exact ⟨⟨m1.2, k1.2, p1.2, so1.2, c1, c2', c3', c4'⟩, ez, by omega, by omega, fun h => absurd h c3s, fun _ => h5.symm, c6'⟩
end
