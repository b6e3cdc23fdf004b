abbrev sxlim : Nat × Nat := (600002, 7302232)
def sx_True (xs : List Int32) : Prop := ∃ (n : Nat) (h : sx_H), sx_exec sxlim sxP sxD xs n 0 0 [(0, .ref 0)] [] (0, 0, []) = some (.inl (some (.int 1)), h) ∧ h.1 ≤ 600002 ∧ h.2.1 ≤ 7302232
theorem sx_lg_getD {α : Type} (d : α) (l : List α) : ∀ n, sx_lg d l n = l.getD n d := by
  induction l with
  | nil => intro n; cases n <;> rfl
  | cons a l ih =>
    intro n
    cases n with
    | zero => rfl
    | succ n =>
      show sx_lg d l n = _
      rw [ih n]; rfl
