/-! ===== what is read: places ===== -/
noncomputable section
section
variable {K : Wt → Prop} {src : Int} {l : List Wt} {i e : Nat} {s : Nat × Nat} {m so n kd : Int} {k p ph g ik w : Wt} {lf : p_L}
theorem p_t_in {st : Nat} (h : p_t K st l (some (i, e)) = some (w, s)) : s = (i + 1, e) ∧ i < e ∧ w = (l[i]?).getD [] ∧ w.head? = some st ∧ K w := by
  unfold p_t at h
  by_cases c : i < e ∧ ((l[i]?).getD []).head? = some st ∧ K ((l[i]?).getD [])
  · have h : (some ((l[i]?).getD [], i + 1, e) : Option (Wt × Nat × Nat)) = some (w, s) := by rw [← h]; exact (if_pos c).symm
    have h := Option.some.inj h
    rw [Prod.mk.injEq] at h
    rw [← h.1, ← h.2]
    exact ⟨rfl, c.1, rfl, c.2.1, c.2.2⟩
  · have h : (none : Option (Wt × Nat × Nat)) = some (w, s) := by rw [← h]; exact (if_neg c).symm
    exact absurd h (by simp)
theorem p_h_in (h : p_h K l (some (i, e)) = some (w, s)) : s = (i + 1, e) ∧ i < e ∧ ((w = [] ∧ (l[i]?).getD [] = w_by 0) ∨ (w = (l[i]?).getD [] ∧ w.head? = some 1 ∧ K w)) := by
  unfold p_h at h
  by_cases c : i < e ∧ (l[i]?).getD [] = w_by 0
  · have h : (some (([] : Wt), i + 1, e) : Option (Wt × Nat × Nat)) = some (w, s) := by rw [← h]; exact (if_pos c).symm
    have h := Option.some.inj h
    rw [Prod.mk.injEq] at h
    rw [← h.1, ← h.2]
    exact ⟨rfl, c.1, Or.inl ⟨rfl, c.2⟩⟩
  · have h : p_t K 1 l (some (i, e)) = some (w, s) := by rw [← h]; exact (if_neg c).symm
    obtain ⟨a, b, c, d⟩ := p_t_in h
    exact ⟨a, b, Or.inr ⟨c, d⟩⟩
theorem p_8_in {z : Int} (h : p_8 l (some (i, e)) = some (z, s)) : s = (i + 1, e) ∧ i < e ∧ ((l[i]?).getD []).head? = some 1000 ∧ z = w_bv ((l[i]?).getD []) := by
  unfold p_8 at h
  by_cases c : i < e ∧ ((l[i]?).getD []).head? = some 1000
  · have h : (some (w_bv ((l[i]?).getD []), i + 1, e) : Option (Int × Nat × Nat)) = some (z, s) := by rw [← h]; exact (if_pos c).symm
    have h := Option.some.inj h
    rw [Prod.mk.injEq] at h
    rw [← h.1, ← h.2]
    exact ⟨rfl, c.1, c.2, rfl⟩
  · have h : (none : Option (Int × Nat × Nat)) = some (z, s) := by rw [← h]; exact (if_neg c).symm
    exact absurd h (by simp)
/-- the places of a LEAF -/
theorem p_lf_ix (h : p_lf K src l (some (i, e)) = some ((m, k, p, so, ph, g), s)) : s = (i + (if so = 3 then 7 else 6), e) ∧ i + (if so = 3 then 7 else 6) ≤ e ∧ 1 ≤ so ∧ so ≤ 3 ∧ (so ≠ 3 → ph = []) ∧ (0 < src → so = src) ∧ p_16 l (some (i, e)) = some (m, i + 2, e) ∧ p_t K 5 l (some (i + 2, e)) = some (k, i + 3, e) ∧ p_t K 5 l (some (i + 3, e)) = some (p, i + 4, e) ∧ p_8 l (some (i + 4, e)) = some (so, i + 5, e) ∧ (so = 3 → p_h K l (some (i + 5, e)) = some (ph, i + 6, e)) ∧ p_t K 7 l (some (i + (if so = 3 then 6 else 5), e)) = some (g, i + (if so = 3 then 7 else 6), e) := by
  unfold p_lf at h
  rw [Option.bind_eq_some_iff] at h
  obtain ⟨⟨m', i1, e1⟩, h1, h⟩ := h
  obtain ⟨a1, a2, a3⟩ := p_16_le h1
  subst a1; subst a2
  rw [Option.bind_eq_some_iff] at h
  obtain ⟨⟨k', s2⟩, h2, h⟩ := h
  have b2 := p_t_e h2
  subst b2
  rw [Option.bind_eq_some_iff] at h
  obtain ⟨⟨p', s3⟩, h3, h⟩ := h
  have b3 := p_t_e h3
  subst b3
  rw [Option.bind_eq_some_iff] at h
  obtain ⟨⟨so', i4, e4⟩, h4, h⟩ := h
  obtain ⟨c1, c2, c3⟩ := p_8_le h4
  subst c1; subst c2
  have h : (if so' < 1 ∨ 3 < so' ∨ (0 < src ∧ so' ≠ src) then none else (if so' = 3 then p_h K l (some (i + 2 + 1 + 1 + 1, e4)) else some ([], i + 2 + 1 + 1 + 1, e4)).bind (fun ph => (p_t K 7 l (some ph.2)).map (fun g => ((m', k', p', so', ph.1, g.1), g.2)))) = some ((m, k, p, so, ph, g), s) := h
  by_cases cs : so' < 1 ∨ 3 < so' ∨ (0 < src ∧ so' ≠ src)
  · rw [if_pos cs] at h
    exact absurd h (by simp)
  · rw [if_neg cs, Option.bind_eq_some_iff] at h
    obtain ⟨⟨ph', i5, e5⟩, h5, h⟩ := h
    rw [Option.map_eq_some_iff] at h
    obtain ⟨⟨g', s6⟩, h6, h⟩ := h
    have h : ((m', k', p', so', ph', g'), s6) = ((m, k, p, so, ph, g), s) := h
    simp only [Prod.mk.injEq] at h
    obtain ⟨⟨x1, x2, x3, x4, x5, x6⟩, x7⟩ := h
    subst x1; subst x2; subst x3; subst x4; subst x5; subst x6; subst x7
    have h6 : p_t K 7 l (some (i5, e5)) = some (g', s6) := h6
    obtain ⟨y1, y2, _⟩ := p_t_in h6
    subst y1
    by_cases cc : so' = 3
    · rw [if_pos cc] at h5
      obtain ⟨z1, z2, _⟩ := p_h_in h5
      have z1' := Prod.mk.inj z1
      obtain ⟨z3, z4⟩ := z1'
      subst z3; subst z4
      rw [if_pos cc, if_pos cc]
      exact ⟨rfl, by omega, by omega, by omega, fun g => absurd cc g, fun g => by omega, h1, h2, h3, h4, fun _ => h5, h6⟩
    · rw [if_neg cc] at h5
      have h5 := Option.some.inj h5
      rw [Prod.mk.injEq, Prod.mk.injEq] at h5
      obtain ⟨z0, z3, z4⟩ := h5
      subst z3; subst z4
      rw [if_neg cc, if_neg cc]
      exact ⟨rfl, by omega, by omega, by omega, fun _ => z0.symm, fun g => by omega, h1, h2, h3, h4, fun g => absurd g cc, h6⟩
/-- of a PACKAGE -/
theorem p_pk_ix (h : p_pk K l (some (i, e)) = some ((ik, lf, g), s)) : s = (i + 9, e) ∧ i + 9 ≤ e ∧ p_8 l (some (i, e)) = some (1, i + 1, e) ∧ p_t K 5 l (some (i + 1, e)) = some (ik, i + 2, e) ∧ p_lf K 1 l (some (i + 2, e)) = some (lf, i + 8, e) ∧ p_t K 7 l (some (i + 8, e)) = some (g, i + 9, e) := by
  unfold p_pk at h
  rw [Option.bind_eq_some_iff] at h
  obtain ⟨⟨a, i1, e1⟩, h1, h⟩ := h
  obtain ⟨a1, a2, a3⟩ := p_8_le h1
  subst a1; subst a2
  have h : (if a ≠ 1 then none else (p_t K 5 l (some (i + 1, e1))).bind (fun ik => (p_lf K 1 l (some ik.2)).bind (fun lf => (p_t K 7 l (some lf.2)).map (fun g => ((ik.1, lf.1, g.1), g.2))))) = some ((ik, lf, g), s) := h
  by_cases cs : a ≠ 1
  · rw [if_pos cs] at h
    exact absurd h (by simp)
  · have cs : a = 1 := Decidable.byContradiction cs
    subst cs
    rw [if_neg (by simp), Option.bind_eq_some_iff] at h
    obtain ⟨⟨ik', s2⟩, h2, h⟩ := h
    have b2 := p_t_e h2
    subst b2
    rw [Option.bind_eq_some_iff] at h
    obtain ⟨⟨lf', s3⟩, h3, h⟩ := h
    obtain ⟨m, k, p, so, ph, g0⟩ := lf'
    obtain ⟨x1, x2, x3, x4, x5, x6, _⟩ := p_lf_ix h3
    have x6 := x6 (by decide)
    subst x6
    rw [if_neg (by decide)] at x1 x2
    subst x1
    rw [Option.map_eq_some_iff] at h
    obtain ⟨⟨g', s4⟩, h4, h⟩ := h
    have h : ((ik', (m, k, p, 1, ph, g0), g'), s4) = ((ik, lf, g), s) := h
    simp only [Prod.mk.injEq] at h
    obtain ⟨⟨z1, z2, z3⟩, z4⟩ := h
    subst z1; subst z2; subst z3; subst z4
    have h4 : p_t K 7 l (some (i + 1 + 1 + 6, e1)) = some (g', s4) := h4
    obtain ⟨y1, y2, _⟩ := p_t_in h4
    subst y1
    exact ⟨rfl, by omega, h1, h2, h3, h4⟩
/-- of a CONTENT -/
theorem p_ct_ix (h : p_ct K l (some (i, e)) = some ((kd, (ik, lf, g), n), s)) : p_8 l (some (i, e)) = some (kd, i + 1, e) ∧ s.1 ≤ e ∧ ((kd = 1 ∧ s = (i + 12, e) ∧ p_16 l (some (i + 1, e)) = some (9, i + 3, e) ∧ p_pk K l (some (i + 3, i + 12)) = some ((ik, lf, g), i + 12, i + 12) ∧ n = 0) ∨ (kd = 2 ∧ s = (i + 7, e) ∧ p_lf K 2 l (some (i + 1, e)) = some (lf, i + 7, e) ∧ ik = [] ∧ g = [] ∧ n = 0) ∨ (kd = 3 ∧ s = (i + 3, e) ∧ p_16 l (some (i + 1, e)) = some (n, i + 3, e) ∧ ik = [] ∧ lf = p_L0 ∧ g = [])) := by
  unfold p_ct at h
  rw [Option.bind_eq_some_iff] at h
  obtain ⟨⟨a, i1, e1⟩, h1, h⟩ := h
  obtain ⟨a1, a2, a3⟩ := p_8_le h1
  subst a1; subst a2
  have h : (if a = 1 then p_add K l (some (i + 1, e1)) else if a = 2 then (p_lf K 2 l (some (i + 1, e1))).map (fun lf => (((2 : Int), (([] : Wt), lf.1, ([] : Wt)), (0 : Int)), lf.2)) else if a = 3 then (p_16 l (some (i + 1, e1))).map (fun n => (((3 : Int), (([] : Wt), p_L0, ([] : Wt)), n.1), n.2)) else none) = some ((kd, (ik, lf, g), n), s) := h
  by_cases c1 : a = 1
  · rw [if_pos c1] at h
    unfold p_add at h
    rw [Option.bind_eq_some_iff] at h
    obtain ⟨⟨en, i2, e2⟩, hr, h⟩ := h
    have hr2 := hr
    unfold p_r at hr
    rw [Option.bind_eq_some_iff] at hr
    obtain ⟨⟨z, i3, e3⟩, h16, hr⟩ := hr
    obtain ⟨b1, b2, b3⟩ := p_16_le h16
    subst b1; subst b2
    have hr : (if ((i + 1 + 2 : Nat) : Int) + z ≤ ((e3 : Nat) : Int) then some ((i + 1 + 2) + z.toNat, i + 1 + 2, e3) else none) = some (en, i2, e2) := hr
    by_cases cr : ((i + 1 + 2 : Nat) : Int) + z ≤ ((e3 : Nat) : Int)
    · rw [if_pos cr] at hr
      have hr := Option.some.inj hr
      simp only [Prod.mk.injEq] at hr
      obtain ⟨r1, r2, r3⟩ := hr
      subst r2; subst r3
      rw [Option.bind_eq_some_iff] at h
      obtain ⟨⟨⟨ik', lf', g'⟩, i4, e4⟩, hp, h⟩ := h
      have hp : p_pk K l (some (i + 1 + 2, en)) = some ((ik', lf', g'), i4, e4) := hp
      have hp2 := hp
      obtain ⟨x1, x2, _⟩ := p_pk_ix hp
      simp only [Prod.mk.injEq] at x1
      obtain ⟨x1, x3⟩ := x1
      subst x1; subst x3
      have h : (if i + 1 + 2 + 9 = e4 then some (((1 : Int), (ik', lf', g'), (0 : Int)), i + 1 + 2 + 9, e3) else none) = some ((kd, (ik, lf, g), n), s) := h
      by_cases ce : i + 1 + 2 + 9 = e4
      · rw [if_pos ce] at h
        have h := Option.some.inj h
        simp only [Prod.mk.injEq] at h
        obtain ⟨⟨y1, ⟨y2, y3, y4⟩, y5⟩, y6⟩ := h
        subst y1; subst y2; subst y3; subst y4; subst y5; subst y6; subst ce
        subst c1
        have z0 : 0 ≤ z := by
          unfold p_16 at h16
          rw [Option.bind_eq_some_iff] at h16
          obtain ⟨⟨u, su⟩, hu, h16⟩ := h16
          rw [Option.map_eq_some_iff] at h16
          obtain ⟨⟨v, sv⟩, hv, h16⟩ := h16
          have h16 := (Prod.mk.inj h16).1
          obtain ⟨_, _, _, q1⟩ := p_8_in hu
          obtain ⟨su1, su2⟩ := su
          obtain ⟨_, _, _, q2⟩ := p_8_in hv
          have h16 : 256 * u + v = z := h16
          unfold w_bv at q1 q2
          omega
        have z9 : z = 9 := by omega
        subst z9
        exact ⟨h1, by show i + 1 + 2 + 9 ≤ e3; omega, Or.inl ⟨rfl, rfl, h16, hp2, rfl⟩⟩
      · rw [if_neg ce] at h
        exact absurd h (by simp)
    · rw [if_neg cr] at hr
      exact absurd hr (by simp)
  · rw [if_neg c1] at h
    by_cases c2 : a = 2
    · rw [if_pos c2, Option.map_eq_some_iff] at h
      obtain ⟨⟨lf', s2⟩, hl, h⟩ := h
      have h : (((2 : Int), (([] : Wt), lf', ([] : Wt)), (0 : Int)), s2) = ((kd, (ik, lf, g), n), s) := h
      simp only [Prod.mk.injEq] at h
      obtain ⟨⟨y1, ⟨y2, y3, y4⟩, y5⟩, y6⟩ := h
      subst y1; subst y2; subst y3; subst y4; subst y5; subst y6
      obtain ⟨m, k, p, so, ph, g0⟩ := lf'
      obtain ⟨x1, x2, x3, x4, x5, x6, _⟩ := p_lf_ix hl
      have x6 := x6 (by decide)
      subst x6
      rw [if_neg (by decide)] at x1 x2
      subst x1
      subst c2
      exact ⟨h1, by show i + 1 + 6 ≤ e1; omega, Or.inr (Or.inl ⟨rfl, rfl, hl, rfl, rfl, rfl⟩)⟩
    · rw [if_neg c2] at h
      by_cases c3 : a = 3
      · rw [if_pos c3, Option.map_eq_some_iff] at h
        obtain ⟨⟨z, s2⟩, hl, h⟩ := h
        have h : (((3 : Int), (([] : Wt), p_L0, ([] : Wt)), z), s2) = ((kd, (ik, lf, g), n), s) := h
        simp only [Prod.mk.injEq] at h
        obtain ⟨⟨y1, ⟨y2, y3, y4⟩, y5⟩, y6⟩ := h
        subst y1; subst y2; subst y3; subst y4; subst y5; subst y6
        obtain ⟨s21, s22⟩ := s2
        obtain ⟨b1, b2, b3⟩ := p_16_le hl
        subst b1; subst b2
        subst c3
        exact ⟨h1, b3, Or.inr (Or.inr ⟨rfl, rfl, hl, rfl, rfl, rfl⟩)⟩
      · rw [if_neg c3] at h
        exact absurd h (by simp)
end
end
