/-! ===== a CONTENT read: both sides' readContent ===== -/
noncomputable section
def p_L0 : p_L := (0, [], [], 0, [], [])
/-- a CONTENT: its kind, a PACKAGE (ADD) or a LEAF (UPDATE), a leaf's number (REMOVE) -/
abbrev p_C : Type := Int × (Wt × p_L × Wt) × Int
def p_add (K : Wt → Prop) (l : List Wt) (s : p_S) : Option (p_C × Nat × Nat) :=
  (p_r l s).bind (fun ro => (p_pk K l (some (ro.2.1, ro.1))).bind (fun pk => if pk.2.1 = ro.1 then some ((1, pk.1, 0), pk.2.1, ro.2.2) else none))
def p_ct (K : Wt → Prop) (l : List Wt) (st : p_S) : Option (p_C × Nat × Nat) :=
  (p_8 l st).bind (fun a => if a.1 = 1 then p_add K l (some a.2) else if a.1 = 2 then (p_lf K 2 l (some a.2)).map (fun lf => ((2, ([], lf.1, []), 0), lf.2)) else if a.1 = 3 then (p_16 l (some a.2)).map (fun n => ((3, ([], p_L0, []), n.1), n.2)) else none)
theorem p_ct_st {K : Wt → Prop} {z : Int} {l : List Wt} {st : p_S} (hz : ∀ b s, p_8 l st = some (b, s) → z = b) : (z = 1 → p_ct K l st = p_add K l (p_to (p_8 l st))) ∧ (z = 2 → p_ct K l st = (p_lf K 2 l (p_to (p_8 l st))).map (fun lf => ((2, ([], lf.1, []), 0), lf.2))) ∧ (z = 3 → p_ct K l st = (p_16 l (p_to (p_8 l st))).map (fun n => ((3, ([], p_L0, []), n.1), n.2))) ∧ (z ≠ 1 → z ≠ 2 → z ≠ 3 → p_ct K l st = none) := by
  obtain ⟨o1, c1⟩ : ∃ o1, p_8 l st = o1 := ⟨_, rfl⟩
  cases o1 with
  | none =>
    have e : p_ct K l st = none := by unfold p_ct; rw [c1]; rfl
    rw [e, c1]
    exact ⟨fun _ => rfl, fun _ => rfl, fun _ => rfl, fun _ _ _ => rfl⟩
  | some a1 =>
    have ez : z = a1.1 := hz a1.1 a1.2 c1
    have e : p_ct K l st = if a1.1 = 1 then p_add K l (some a1.2) else if a1.1 = 2 then (p_lf K 2 l (some a1.2)).map (fun lf => ((2, ([], lf.1, []), 0), lf.2)) else if a1.1 = 3 then (p_16 l (some a1.2)).map (fun n => ((3, ([], p_L0, []), n.1), n.2)) else none := by unfold p_ct; rw [c1]; rfl
    rw [e, c1]
    refine ⟨fun h => ?_, fun h => ?_, fun h => ?_, fun h1 h2 h3 => ?_⟩
    · rw [if_pos (by omega)]; rfl
    · rw [if_neg (by omega), if_pos (by omega)]; rfl
    · rw [if_neg (by omega), if_neg (by omega), if_pos (by omega)]; rfl
    · rw [if_neg (by omega), if_neg (by omega), if_neg (by omega)]
theorem p_to_map {A B : Type} (r : Option (A × Nat × Nat)) (f : A × Nat × Nat → B) : p_to (r.map (fun x => (f x, x.2))) = p_to r := by cases r <;> rfl
theorem p_t_e {K : Wt → Prop} {so : Nat} {l : List Wt} {i e : Nat} {w : Wt} {s : Nat × Nat} (h : p_t K so l (some (i, e)) = some (w, s)) : s = (i + 1, e) := by
  obtain ⟨i', e', h1, h2⟩ := p_t_le h
  have h1 := Option.some.inj h1
  rw [Prod.mk.injEq] at h1
  rw [h2, h1.1, h1.2]
theorem p_h_e {K : Wt → Prop} {l : List Wt} {i e : Nat} {w : Wt} {s : Nat × Nat} (h : p_h K l (some (i, e)) = some (w, s)) : s = (i + 1, e) := by
  have h : (if i < e ∧ (l[i]?).getD [] = w_by 0 then some ([], i + 1, e) else p_t K 1 l (some (i, e))) = some (w, s) := h
  by_cases c : i < e ∧ (l[i]?).getD [] = w_by 0
  · rw [if_pos c] at h
    exact (Prod.mk.inj (Option.some.inj h)).2.symm
  · rw [if_neg c] at h
    exact p_t_e h
theorem p_lf_e {K : Wt → Prop} {src : Int} {l : List Wt} {i e : Nat} {lf : p_L} {s : Nat × Nat} (h : p_lf K src l (some (i, e)) = some (lf, s)) : s.2 = e := by
  unfold p_lf at h
  rw [Option.bind_eq_some_iff] at h
  obtain ⟨⟨m, i1, e1⟩, h1, h⟩ := h
  have a1 := p_16_le h1
  rw [Option.bind_eq_some_iff] at h
  obtain ⟨⟨k, s2⟩, h2, h⟩ := h
  have a2 := p_t_e h2
  subst a2
  rw [Option.bind_eq_some_iff] at h
  obtain ⟨⟨p, s3⟩, h3, h⟩ := h
  have a3 := p_t_e h3
  subst a3
  rw [Option.bind_eq_some_iff] at h
  obtain ⟨⟨so, i4, e4⟩, h4, h⟩ := h
  have a4 := p_8_le h4
  have h : (if so < 1 ∨ 3 < so ∨ (0 < src ∧ so ≠ src) then none else (if so = 3 then p_h K l (some (i4, e4)) else some ([], i4, e4)).bind (fun ph => (p_t K 7 l (some ph.2)).map (fun g => ((m, k, p, so, ph.1, g.1), g.2)))) = some (lf, s) := h
  by_cases cs : so < 1 ∨ 3 < so ∨ (0 < src ∧ so ≠ src)
  · rw [if_pos cs] at h
    exact absurd h (by simp)
  · rw [if_neg cs, Option.bind_eq_some_iff] at h
    obtain ⟨⟨ph, i5, e5⟩, h5, h⟩ := h
    have a5 : e5 = e4 := by
      by_cases c3 : so = 3
      · rw [if_pos c3] at h5
        have := p_h_e h5
        rw [Prod.mk.injEq] at this
        exact this.2
      · rw [if_neg c3] at h5
        have h5 := Option.some.inj h5
        rw [Prod.mk.injEq, Prod.mk.injEq] at h5
        exact h5.2.2.symm
    rw [Option.map_eq_some_iff] at h
    obtain ⟨⟨g, s6⟩, h6, h⟩ := h
    have a6 := p_t_e h6
    have h := (Prod.mk.inj h).2
    have h : s6 = s := h
    rw [← h, a6]
    show e5 = e
    omega
theorem p_pk_e {K : Wt → Prop} {l : List Wt} {i e : Nat} {v : Wt × p_L × Wt} {s : Nat × Nat} (h : p_pk K l (some (i, e)) = some (v, s)) : s.2 = e := by
  unfold p_pk at h
  rw [Option.bind_eq_some_iff] at h
  obtain ⟨⟨a, i1, e1⟩, h1, h⟩ := h
  have a1 := p_8_le h1
  have h : (if a ≠ 1 then none else (p_t K 5 l (some (i1, e1))).bind (fun ik => (p_lf K 1 l (some ik.2)).bind (fun lf => (p_t K 7 l (some lf.2)).map (fun g => ((ik.1, lf.1, g.1), g.2))))) = some (v, s) := h
  by_cases cs : a ≠ 1
  · rw [if_pos cs] at h
    exact absurd h (by simp)
  · rw [if_neg cs, Option.bind_eq_some_iff] at h
    obtain ⟨⟨ik, s2⟩, h2, h⟩ := h
    have a2 := p_t_e h2
    subst a2
    rw [Option.bind_eq_some_iff] at h
    obtain ⟨⟨lf, i3, e3⟩, h3, h⟩ := h
    have a3 : e3 = e1 := p_lf_e h3
    rw [Option.map_eq_some_iff] at h
    obtain ⟨⟨g, s4⟩, h4, h⟩ := h
    have a4 := p_t_e h4
    have h : s4 = s := (Prod.mk.inj h).2
    rw [← h, a4]
    show e3 = e
    omega
section
variable {H Z X Y : sw_H} {nn nm r ra g m : Nat} {K K' S : Wt → Prop} {tl mk mm l : List Wt} {a b c x y n cn cs N U M : Int} {Q : sw_H → Prop} {P : Int → sw_H → Prop} {A B : List Nat} {w : Wt} {st : p_S}
/-- the end of an inner ROW as the class sees it -/
theorem p_add_st (K : Wt → Prop) (l : List Wt) (S : p_S) : (∀ i e, S = some (i, e) → p_to (p_add K l S) = p_c e (p_to (p_pk K l (p_o l S)))) ∧ (S = none → p_to (p_add K l S) = none) := by
  refine ⟨fun i e hS => ?_, fun hS => by rw [hS]; rfl⟩
  subst hS
  obtain ⟨o1, c1⟩ : ∃ o1, p_r l (some (i, e)) = o1 := ⟨_, rfl⟩
  cases o1 with
  | none =>
    have e1 : p_add K l (some (i, e)) = none := by unfold p_add; rw [c1]; rfl
    have e2 : p_o l (some (i, e)) = none := by unfold p_o; rw [c1]; rfl
    rw [e1, e2]
    rfl
  | some ro =>
    obtain ⟨en, i1, e1⟩ := ro
    have ee : e1 = e := by
      unfold p_r at c1
      obtain ⟨o2, c2⟩ : ∃ o2, p_16 l (some (i, e)) = o2 := ⟨_, rfl⟩
      cases o2 with
      | none => rw [c2] at c1; exact absurd c1 (by simp)
      | some a =>
        obtain ⟨z, i2, e2⟩ := a
        rw [c2] at c1
        have c1 : (if (i2 : Int) + z ≤ (e2 : Int) then some (i2 + z.toNat, i2, e2) else none) = some (en, i1, e1) := c1
        have := p_16_le c2
        by_cases cc : (i2 : Int) + z ≤ (e2 : Int)
        · rw [if_pos cc] at c1
          have c1 := Option.some.inj c1
          rw [Prod.mk.injEq, Prod.mk.injEq] at c1
          omega
        · rw [if_neg cc] at c1
          exact absurd c1 (by simp)
    subst ee
    have ea : p_add K l (some (i, e1)) = (p_pk K l (some (i1, en))).bind (fun pk => if pk.2.1 = en then some ((1, pk.1, 0), pk.2.1, e1) else none) := by unfold p_add; rw [c1]; rfl
    have eo : p_o l (some (i, e1)) = some (i1, en) := by unfold p_o; rw [c1]; rfl
    rw [ea, eo]
    obtain ⟨o3, c3⟩ : ∃ o3, p_pk K l (some (i1, en)) = o3 := ⟨_, rfl⟩
    rw [c3]
    cases o3 with
    | none => rfl
    | some pk =>
      obtain ⟨pv, i3, e3⟩ := pk
      have e33 : e3 = en := p_pk_e c3
      subst e33
      show p_to (if i3 = e3 then some ((1, pv, 0), i3, e1) else none) = p_c e1 (some (i3, e3))
      by_cases cc : i3 = e3
      · rw [if_pos cc]
        exact (if_pos cc).symm
      · rw [if_neg cc]
        exact (if_neg cc).symm
end
end
