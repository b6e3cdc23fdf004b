/-! ===== SI's values and cells at the machine ===== -/
/-- the script's address, the first address behind the start's heap, the classes of arrays (of ints, booleans, bytes, longs; of a class' objects), the classes of objects -/
abbrev sx_Wd : Type := Nat × Nat × (Nat → ClassId) × (Nat → ClassId) × va_G
def sx_v (w : sx_Wd) (v : Value) : Value := match v with
  | .ref 0 => .ref w.1
  | .ref (k + 1) => .ref (w.2.1 + k)
  | u => u
def sx_o (w : sx_Wd) (r : Option Nat) : Option Nat := match r with
  | none => none
  | some 0 => some w.1
  | some (k + 1) => some (w.2.1 + k)
theorem sx_v_rf (w : sx_Wd) (r : Option Nat) : sx_v w (va_rf r) = va_rf (sx_o w r) := by
  cases r with
  | none => rfl
  | some k => cases k <;> rfl
theorem sx_v_cat (w : sx_Wd) (v : Value) : (sx_v w v).category = v.category := by
  cases v with
  | ref k => cases k <;> rfl
  | _ => rfl
noncomputable def sx_ce (w : sx_Wd) (c : sx_C) : va_E := match c with
  | .inl o => .inr (o.1, o.2.map (sx_v w))
  | .inr (.inl a) => .inl (w.2.2.1 a.1, a.2.1, .inl (fun j => sx_ag 0 a.2.2 j))
  | .inr (.inr (.inl a)) => .inl (w.2.2.1 3, a.1, .inr (.inl (fun j => sx_ag 0 a.2 j)))
  | .inr (.inr (.inr a)) => .inl (w.2.2.2.1 a.1, a.2.1, .inr (.inr (.inr (.inr (fun j => sx_o w (sx_ag none a.2.2 j))))))
/-- arrays are of the kinds that there are -/
def sx_cok (ra : List Nat) (c : sx_C) : Prop := match c with
  | .inl _ => True
  | .inr (.inl a) => a.1 < 3
  | .inr (.inr (.inl _)) => True
  | .inr (.inr (.inr a)) => a.1 ∈ ra
/-- the heap holds SI's heap -/
def sx_HR (w : sx_Wd) (cl : List vw_C) (ra : List Nat) (h : sx_H) (H : Heap) : Prop := h.1 = h.2.2.length ∧ H.size = w.2.1 + h.1 ∧ ∀ (k : Nat) (c : sx_C), sx_get h k = some c → va_at w.2.2.2.2 cl (w.2.1 + k, sx_ce w c) H ∧ sx_cok ra c
abbrev sx_tys (w : sx_Wd) : List (ClassId × FieldType) := [(w.2.2.1 0, .int), (w.2.2.1 1, .boolean), (w.2.2.1 2, .byte), (w.2.2.1 3, .long)]
/-- the tables have the classes -/
def sx_KR (w : sx_Wd) (cl : List vw_C) (ra : List Nat) (U : State) : Prop := va_K w.2.2.2.2 cl (sx_tys w) U ∧ ∀ ci ∈ ra, ∃ q : vw_C, cl[ci]? = some q ∧ ArrOfT U (w.2.2.2.1 ci) (.object q.1) ∧ va_RA U (w.2.2.2.1 ci) (.object q.1)
theorem sx_KR.moved {w : sx_Wd} {cl : List vw_C} {ra : List Nat} {u U : State} (hvm : u.vm.Alike U.vm) (h : sx_KR w cl ra u) : sx_KR w cl ra U :=
  ⟨h.1.moved hvm, fun ci hci => by
    obtain ⟨q, h1, h2, h3⟩ := h.2 ci hci
    exact ⟨q, h1, arrOfT_moved hvm h2, h3.moved hvm⟩⟩
/-- since s nothing below B has changed, nothing below it was written -/
def sx_SR (w : sx_Wd) (s : State) (H : Heap) (locs : List Loc) : Prop := (∀ q : Nat, q < w.2.1 → H[q]? = s.heap[q]?) ∧ ∀ l ∈ locs, w.2.1 ≤ l.base
theorem sx_SR.put {w : sx_Wd} {s : State} {H H1 : Heap} {locs : List Loc} {a k : Nat} (h : sx_SR w s H locs) (ha : w.2.1 ≤ a) (o : ∀ q : Nat, q ≠ a → H1[q]? = H[q]?) : sx_SR w s H1 (locs ++ [⟨a, k⟩]) :=
  ⟨fun q hq => by rw [o q (by omega)]; exact h.1 q hq, fun l hl => by
    rcases List.mem_append.mp hl with q | q
    · exact h.2 l q
    · rw [List.mem_singleton.mp q]; exact ha⟩
theorem sx_SR.new {w : sx_Wd} {s : State} {H H1 : Heap} {locs : List Loc} (h : sx_SR w s H locs) (ha : w.2.1 ≤ H.size) (o : ∀ q : Nat, q < H.size → H1[q]? = H[q]?) : sx_SR w s H1 locs :=
  ⟨fun q hq => by rw [o q (by omega)]; exact h.1 q hq, h.2⟩
theorem sx_HR.set {w : sx_Wd} {cl : List vw_C} {ra : List Nat} {h : sx_H} {H H1 : Heap} {k : Nat} {c0 c : sx_C} (r : sx_HR w cl ra h H) (hk : sx_get h k = some c0) (hc : va_at w.2.2.2.2 cl (w.2.1 + k, sx_ce w c) H1) (hok : sx_cok ra c) (z : H1.size = H.size) (o : ∀ q : Nat, q ≠ w.2.1 + k → H1[q]? = H[q]?) : sx_HR w cl ra (sx_set h k c) H1 := by
  have hl := sx_get_lt hk
  refine ⟨sx_set_len r.1 hl c, z.trans r.2.1, fun j d hj => ?_⟩
  rw [sx_get_set r.1 hl] at hj
  by_cases e : j = k
  · rw [if_pos e] at hj
    cases hj
    rw [e]
    exact ⟨hc, hok⟩
  · rw [if_neg e] at hj
    exact ⟨(r.2.2 j d hj).1.kept (o _ (by show w.2.1 + j ≠ w.2.1 + k; omega)), (r.2.2 j d hj).2⟩
theorem sx_HR.push {w : sx_Wd} {cl : List vw_C} {ra : List Nat} {h : sx_H} {H H1 : Heap} {n : Nat} {c : sx_C} (r : sx_HR w cl ra h H) (hc : va_at w.2.2.2.2 cl (w.2.1 + h.1, sx_ce w c) H1) (hok : sx_cok ra c) (z : H1.size = H.size + 1) (o : ∀ q : Nat, q < H.size → H1[q]? = H[q]?) : sx_HR w cl ra (sx_push h n c) H1 := by
  refine ⟨by show h.1 + 1 = h.2.2.length + 1; rw [r.1], by show H1.size = w.2.1 + (h.1 + 1); rw [z, r.2.1]; omega, fun j d hj => ?_⟩
  rw [sx_get_push r.1] at hj
  by_cases e : j = h.1
  · rw [if_pos e] at hj
    cases hj
    rw [e]
    exact ⟨hc, hok⟩
  · rw [if_neg e] at hj
    have hl := sx_get_lt hj
    exact ⟨(r.2.2 j d hj).1.kept (o _ (by show w.2.1 + j < H.size; rw [r.2.1]; omega)), (r.2.2 j d hj).2⟩
/-- what SI asks of the classes: their fields' words are there, their types are known, their names differ -/
def sx_clOK (Ts : List Cond) (cl : List vw_C) : Prop := ∀ (ci : Nat) (q : vw_C), cl[ci]? = some q → (∀ x ∈ u_ws q.1 q.2.1 q.2.2, x ∈ Ts) ∧ (∃ ty : Nat → FieldType, ∀ k, k < q.2.2 → parseFieldDescriptor (q.2.1 k).2.2.1 = some (ty k)) ∧ (∀ a, a < q.2.2 → ∀ b, b < q.2.2 → a ≠ b → (q.2.1 a).2.1 ≠ (q.2.1 b).2.1)
/-- locals -/
def sx_LR (w : sx_Wd) (nL : Nat) (ls : sx_L) (lm : Array Slot) : Prop := lv_has lm nL (ls.map fun q => (q.1, sx_v w q.2))
theorem sx_LR.at {w : sx_Wd} {nL : Nat} {ls : sx_L} {lm : Array Slot} (r : sx_LR w nL ls lm) {i : Nat} {v : Value} (h : sx_lk ls i = some v) : lm[i]? = some (.val (sx_v w v)) :=
  r.2.2 (i, sx_v w v) (List.mem_map.mpr ⟨(i, v), sx_lk_mem h, rfl⟩)
theorem sx_LR.lt {w : sx_Wd} {nL : Nat} {ls : sx_L} {lm : Array Slot} (r : sx_LR w nL ls lm) {i : Nat} {v : Value} (h : sx_lk ls i = some v) : i < nL := by
  rw [← r.1]
  exact lv_lt (r.at h)
theorem sx_LR.st {w : sx_Wd} {nL : Nat} {ls : sx_L} {lm : Array Slot} {i : Nat} {v : Value} (h : lv_has lm nL ((i, sx_v w v) :: (ls.map fun q => (q.1, sx_v w q.2)).filter (fun q => !(q.1 == i) && !(q.1 + 1 == i && q.2.category == 2)))) : sx_LR w nL (sx_st ls i v) lm := by
  refine ⟨h.1, h.2.1, fun q hq => ?_⟩
  obtain ⟨x, hx, rfl⟩ := List.mem_map.mp hq
  rcases sx_st_mem hx with e | ⟨h1, h2, h3⟩
  · subst e
    exact h.2.2 _ List.mem_cons_self
  · refine h.2.2 _ (List.mem_cons_of_mem _ (List.mem_filter.mpr ⟨List.mem_map.mpr ⟨x, h1, rfl⟩, ?_⟩))
    simp [h2, sx_v_cat, h3]
