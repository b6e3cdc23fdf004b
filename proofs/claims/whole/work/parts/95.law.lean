/-! ===== the classes are known; the law, out of what SI computes ===== -/
noncomputable def sx_clB (ci : Nat) (q : vw_C) : Bool := (List.range q.2.2).all (fun k => sxwB (sx_lg (99, 0) (sx_lg [] sxLw ci) k) (u_lay q.1 q.2.1 k)) && sxwB (sxCwf ci).1 (.instantiable q.1 (sx_lg 0 sxIn ci)) && (List.range q.2.2).all (fun k => (parseFieldDescriptor (q.2.1 k).2.2.1).isSome) && (List.range q.2.2).all (fun a => (List.range q.2.2).all (fun b => Nat.beq a b || decide ((q.2.1 a).2.1 ≠ (q.2.1 b).2.1)))
theorem sx_clB_all : sx_ev1 sx_clB sxCl 0 = true := by decide +kernel
theorem sx_clB_at {ci : Nat} {q : vw_C} (h : sxCl[ci]? = some q) : sx_clB ci q = true := by
  have h1 := sx_ev1_ok sxCl 0 sx_clB_all ci q (by rw [sx_lo_eq]; exact h)
  rwa [Nat.zero_add] at h1
theorem sx_cl_ok : sx_clOK sxTs sxCl := by
  intro ci q hq
  have h := sx_clB_at hq
  unfold sx_clB at h
  simp only [Bool.and_eq_true, List.all_eq_true] at h
  obtain ⟨⟨⟨h1, -⟩, h3⟩, h4⟩ := h
  refine ⟨fun x hx => ?_, ⟨fun k => (parseFieldDescriptor (q.2.1 k).2.2.1).getD .int, fun k hk => ?_⟩, fun a ha b hb hne => ?_⟩
  · obtain ⟨k, hk, rfl⟩ := List.mem_map.mp hx
    exact sxwB_mem (h1 k hk)
  · have h9 := h3 k (List.mem_range.mpr hk)
    obtain ⟨t, ht⟩ := Option.isSome_iff_exists.mp h9
    show _ = some ((parseFieldDescriptor (q.2.1 k).2.2.1).getD .int)
    rw [ht]; rfl
  · have h9 := h4 a (List.mem_range.mpr ha) b (List.mem_range.mpr hb)
    rw [Bool.or_eq_true, decide_eq_true_eq] at h9
    rcases h9 with h9 | h9
    · exact absurd (sx_pq h9) hne
    · exact h9
theorem sx_arr_known {s : State} {A : Array Value} {ty : FieldType} (h : (Cond.arrayClass ty).before A s = true) (hno : ∀ n, ty ≠ .object n) : ∃ cA, ArrOfT s cA ty ∧ va_RA s cA ty := by
  obtain ⟨c, k, comp, h1, h2, h3⟩ := Cond.arrayClass_spec h
  refine ⟨c, fun N z => ⟨(fun k9 h9 => by cases h9), k, h2, comp, h3⟩, ?_⟩
  cases ty with
  | object n => exact absurd rfl (hno n)
  | _ => exact h1
theorem sx_ref_known {s : State} {A : Array Value} {C : String} (h : (Cond.arrayOver (.object C)).before A s = true) : ∃ cA, ArrOfT s cA (.object C) ∧ va_RA s cA (.object C) := by
  obtain ⟨comp, c, k, h1, h2, h3, h4, h5⟩ := Cond.arrayOver_spec h
  exact ⟨c, fun N z => ⟨(fun k9 h9 => by cases h9), k, h3, comp, h4⟩, k, comp, h3, h4, h1, h5⟩
/-- the classes of which there are arrays -/
theorem sx_ra_ok : sxra.all (fun ci => match sxCl[ci]? with
  | some q => sxwB (sxCwf ci).2.2 (.arrayOver (.object q.1))
  | none => false) = true := by decide +kernel
theorem sx_known {s : State} {A : Array Value} (h : ∀ x ∈ sxTs, x.before A s = true) (b : Nat) : ∃ w : sx_Wd, w.1 = b ∧ w.2.1 = s.heap.size ∧ sx_KR w sxCl sxra s := by
  have hC : ∀ ci : Nat, ∃ r : ClassId × (Nat → Nat), ∀ q, sxCl[ci]? = some q → u_Kn s q.1 q.2.1 q.2.2 r.1 r.2 := by
    intro ci
    cases hq : sxCl[ci]? with
    | none => exact ⟨(0, fun _ => 0), fun q h9 => by cases h9⟩
    | some q =>
      have h1 := sx_clB_at hq
      unfold sx_clB at h1
      simp only [Bool.and_eq_true] at h1
      obtain ⟨cC, iS, hk⟩ := u_known (n := sx_lg 0 sxIn ci) h (sx_cl_ok ci q hq).1 (h _ (sxwB_mem h1.1.1.2))
      exact ⟨(cC, iS), fun q9 h9 => by cases h9; exact hk⟩
  obtain ⟨f, hf⟩ := Classical.axiomOfChoice hC
  have hR : ∀ ci : Nat, ∃ cA : ClassId, ci ∈ sxra → ∃ q, sxCl[ci]? = some q ∧ ArrOfT s cA (.object q.1) ∧ va_RA s cA (.object q.1) := by
    intro ci
    by_cases hci : ci ∈ sxra
    · have h9 := List.all_eq_true.mp sx_ra_ok ci hci
      split at h9
      · next q hq =>
        obtain ⟨cA, h1, h2⟩ := sx_ref_known (h _ (sxwB_mem h9))
        exact ⟨cA, fun _ => ⟨q, hq, h1, h2⟩⟩
      · cases h9
    · exact ⟨0, fun h9 => absurd h9 hci⟩
  obtain ⟨aR, haR⟩ := Classical.axiomOfChoice hR
  obtain ⟨-, -, w1, w2, w3, w4⟩ := sx_all_ok
  obtain ⟨c0, p0, q0⟩ := sx_arr_known (h _ w1) (fun n => by intro h9; cases h9)
  obtain ⟨c1, p1, q1⟩ := sx_arr_known (h _ w2) (fun n => by intro h9; cases h9)
  obtain ⟨c2, p2, q2⟩ := sx_arr_known (h _ w3) (fun n => by intro h9; cases h9)
  obtain ⟨c3, p3, q3⟩ := sx_arr_known (h _ w4) (fun n => by intro h9; cases h9)
  refine ⟨(b, s.heap.size, fun k => if k = 0 then c0 else if k = 1 then c1 else if k = 2 then c2 else c3, aR, (fun ci => (f ci).1, fun ci => (f ci).2)), rfl, rfl, ⟨fun ci q hq => hf ci q hq, fun k q hk => ?_⟩, fun ci hci => haR ci hci⟩
  match k, hk with
  | 0, hk => cases hk; exact ⟨p0, q0⟩
  | 1, hk => cases hk; exact ⟨p1, q1⟩
  | 2, hk => cases hk; exact ⟨p2, q2⟩
  | 3, hk => cases hk; exact ⟨p3, q3⟩
  | k + 4, hk => cases hk
abbrev sxlim : Nat × Nat := (room_1.cells, room_1.slots)
/-- what is left: on this script SI comes to the law's end with true, within the room -/
def sx_True (xs : List Int32) : Prop := ∃ (n : Nat) (h : sx_H), sx_exec sxlim sxP sxD xs n 0 0 [(0, .ref 0)] [] (0, 0, []) = some (.inl (some (.int 1)), h) ∧ h.1 ≤ room_1.cells ∧ h.2.1 ≤ room_1.slots
theorem sx_lg_getD {α : Type} (d : α) (l : List α) : ∀ n, sx_lg d l n = l.getD n d := by
  induction l with
  | nil => intro n; cases n <;> rfl
  | cons a l ih =>
    intro n
    cases n with
    | zero => rfl
    | succ n =>
      show sx_lg d l n = _
      rw [ih n]; rfl
theorem sx_same_new {s t : State} {L : List Loc} {c n c' n' : Nat} (h : s.sameButNew t L c n) (hL : ∀ q ∈ L, s.heap.size ≤ q.base) (hc : c ≤ c') (hn : n ≤ n') : s.sameButNew t [] c' n' := by
  obtain ⟨h1, h2, h3, h4, h5, h6⟩ := h
  refine ⟨h1, h2, by omega, h4, by omega, fun a cl ha => ?_⟩
  obtain ⟨c9, g1, g2, g3, g4⟩ := h6 a cl ha
  refine ⟨c9, g1, g2, g3, fun i _ => g4 i (fun hm => ?_)⟩
  have g5 := hL _ hm
  have g6 : a < s.heap.size := (Array.getElem?_eq_some_iff.mp ha).1
  have g5 : s.heap.size ≤ a := g5
  exact absurd g6 (Nat.not_lt.mpr g5)
