/-! ===== what SI's lists say ===== -/
theorem sx_lo_eq {α : Type} (l : List α) : ∀ n : Nat, sx_lo l n = l[n]? := by
  induction l with
  | nil => intro n; cases n <;> rfl
  | cons a t ih =>
    intro n
    cases n with
    | zero => rfl
    | succ n =>
      show sx_lo t n = _
      rw [ih n]
      simp
theorem sx_lg_lset {α : Type} (d x : α) (l : List α) : ∀ n m : Nat, sx_lg d (sx_lset d x l n) m = if m = n then x else sx_lg d l m := by
  induction l with
  | nil =>
    intro n
    induction n with
    | zero =>
      intro m
      cases m with
      | zero => rfl
      | succ m => rw [if_neg (Nat.succ_ne_zero m)]; rfl
    | succ n ih =>
      intro m
      cases m with
      | zero => rw [if_neg (by omega)]; rfl
      | succ m =>
        have h1 : sx_lg d (sx_lset d x [] (n + 1)) (m + 1) = sx_lg d (sx_lset d x [] n) m := rfl
        rw [h1, ih m]
        by_cases h : m = n
        · rw [if_pos h, if_pos (by omega)]
        · rw [if_neg h, if_neg (by omega)]; rfl
  | cons a t ih =>
    intro n m
    cases n with
    | zero =>
      cases m with
      | zero => rfl
      | succ m => rw [if_neg (Nat.succ_ne_zero m)]; rfl
    | succ n =>
      cases m with
      | zero => rw [if_neg (by omega)]; rfl
      | succ m =>
        have h1 : sx_lg d (sx_lset d x (a :: t) (n + 1)) (m + 1) = sx_lg d (sx_lset d x t n) m := rfl
        have h2 : sx_lg d (a :: t) (m + 1) = sx_lg d t m := rfl
        rw [h1, h2, ih n m]
        by_cases h : m = n
        · rw [if_pos h, if_pos (by omega)]
        · rw [if_neg h, if_neg (by omega)]
theorem sx_ag_as {α : Type} (d x : α) (l : List (List α)) (i j : Nat) : sx_ag d (sx_as d l i x) j = if j = i then x else sx_ag d l j := by
  unfold sx_ag sx_as
  rw [sx_lg_lset]
  by_cases h : j / 32 = i / 32
  · rw [if_pos h, sx_lg_lset, ← h]
    by_cases h2 : j % 32 = i % 32
    · rw [if_pos h2, if_pos (by omega)]
    · rw [if_neg h2, if_neg (fun e => h2 (by rw [e]))]
  · rw [if_neg h, if_neg (fun e => h (by rw [e]))]
theorem sx_as_upd (l : List (List Int32)) (i : Nat) (x : Int32) : (fun j => sx_ag 0 (sx_as 0 l i x) j) = upd (fun j => sx_ag 0 l j) i x := by
  funext j
  rw [sx_ag_as]
  rfl
theorem sx_lset_len {α : Type} (d x : α) (l : List α) : ∀ n : Nat, n < l.length → (sx_lset d x l n).length = l.length := by
  induction l with
  | nil => intro n h; exact absurd h (Nat.not_lt_zero n)
  | cons a t ih =>
    intro n h
    cases n with
    | zero => rfl
    | succ n =>
      show (sx_lset d x t n).length + 1 = t.length + 1
      rw [ih n (Nat.lt_of_succ_lt_succ h)]
theorem sx_lset_at {α : Type} (d x : α) (l : List α) : ∀ n : Nat, n < l.length → ∀ m : Nat, (sx_lset d x l n)[m]? = if m = n then some x else l[m]? := by
  induction l with
  | nil => intro n h; exact absurd h (Nat.not_lt_zero n)
  | cons a t ih =>
    intro n h m
    cases n with
    | zero =>
      show (x :: t)[m]? = _
      cases m with
      | zero => simp
      | succ m => rw [if_neg (Nat.succ_ne_zero m)]; simp
    | succ n =>
      show (a :: sx_lset d x t n)[m]? = _
      cases m with
      | zero => rw [if_neg (by omega)]; simp
      | succ m =>
        rw [List.getElem?_cons_succ, ih n (Nat.lt_of_succ_lt_succ h) m, List.getElem?_cons_succ]
        by_cases h2 : m = n
        · rw [if_pos h2, if_pos (by omega)]
        · rw [if_neg h2, if_neg (by omega)]
theorem sx_get_eq (h : sx_H) (k : Nat) : sx_get h k = if k < h.1 then h.2.2[h.1 - 1 - k]? else none := by
  unfold sx_get
  rw [sx_lo_eq]
  by_cases q : k < h.1
  · rw [if_pos q, show Nat.blt k h.1 = true from by rw [Nat.blt_eq]; exact q]; rfl
  · rw [if_neg q, show Nat.blt k h.1 = false from by rw [Bool.eq_false_iff, Ne, Nat.blt_eq]; exact q]; rfl
theorem sx_get_lt {h : sx_H} {k : Nat} {c : sx_C} (e : sx_get h k = some c) : k < h.1 := by
  rw [sx_get_eq] at e
  by_cases q : k < h.1
  · exact q
  · rw [if_neg q] at e; cases e
theorem sx_get_set {h : sx_H} (w : h.1 = h.2.2.length) {k : Nat} (hk : k < h.1) (c : sx_C) (j : Nat) : sx_get (sx_set h k c) j = if j = k then some c else sx_get h j := by
  rw [sx_get_eq, sx_get_eq]
  show (if j < h.1 then (sx_lset c c h.2.2 (h.1 - 1 - k))[h.1 - 1 - j]? else none) = _
  rw [sx_lset_at c c h.2.2 _ (by omega)]
  by_cases q : j < h.1
  · rw [if_pos q, if_pos q]
    by_cases e : j = k
    · rw [if_pos e, if_pos (by rw [e])]
    · rw [if_neg e, if_neg (by omega)]
  · rw [if_neg q, if_neg q, if_neg (by omega)]
theorem sx_set_len {h : sx_H} (w : h.1 = h.2.2.length) {k : Nat} (hk : k < h.1) (c : sx_C) : (sx_set h k c).1 = (sx_set h k c).2.2.length := by
  show h.1 = (sx_lset c c h.2.2 (h.1 - 1 - k)).length
  rw [sx_lset_len c c h.2.2 _ (by omega)]
  exact w
theorem sx_get_push {h : sx_H} (w : h.1 = h.2.2.length) (n : Nat) (c : sx_C) (j : Nat) : sx_get (sx_push h n c) j = if j = h.1 then some c else sx_get h j := by
  rw [sx_get_eq, sx_get_eq]
  show (if j < h.1 + 1 then (c :: h.2.2)[h.1 + 1 - 1 - j]? else none) = _
  by_cases e : j = h.1
  · rw [if_pos e, if_pos (by omega), show h.1 + 1 - 1 - j = 0 by omega]; rfl
  · rw [if_neg e]
    by_cases q : j < h.1
    · rw [if_pos q, if_pos (by omega), show h.1 + 1 - 1 - j = (h.1 - 1 - j) + 1 by omega, List.getElem?_cons_succ]
    · rw [if_neg q, if_neg (by omega)]
theorem sx_lk_mem {l : sx_L} {i : Nat} {v : Value} (h : sx_lk l i = some v) : (i, v) ∈ l := by
  induction l with
  | nil => cases h
  | cons q t ih =>
    have e : sx_lk (q :: t) i = bif Nat.beq q.1 i then some q.2 else sx_lk t i := rfl
    rw [e] at h
    cases hb : Nat.beq q.1 i with
    | true =>
      rw [hb] at h
      have h1 : q.1 = i := Nat.eq_of_beq_eq_true hb
      have h2 : q.2 = v := Option.some.inj h
      rw [← h1, ← h2]
      exact List.mem_cons_self
    | false => rw [hb] at h; exact List.mem_cons_of_mem _ (ih h)
noncomputable def sx_stf (ls : sx_L) (i : Nat) : sx_L := List.rec [] (fun q _ ih => bif Nat.beq q.1 i || Nat.beq q.2.category 2 then ih else q :: ih) ls
theorem sx_stf_mem {ls : sx_L} {i : Nat} {q : Nat × Value} (h : q ∈ sx_stf ls i) : q ∈ ls ∧ q.1 ≠ i ∧ q.2.category ≠ 2 := by
  induction ls with
  | nil => cases h
  | cons a t ih =>
    have h : q ∈ (bif Nat.beq a.1 i || Nat.beq a.2.category 2 then sx_stf t i else a :: sx_stf t i) := h
    cases hb : (Nat.beq a.1 i || Nat.beq a.2.category 2) with
    | true =>
      rw [hb] at h
      obtain ⟨h1, h2⟩ := ih h
      exact ⟨List.mem_cons_of_mem _ h1, h2⟩
    | false =>
      rw [hb] at h
      rcases List.mem_cons.mp h with e | h
      · subst e
        rw [Bool.or_eq_false_iff] at hb
        exact ⟨List.mem_cons_self, Nat.ne_of_beq_eq_false hb.1, Nat.ne_of_beq_eq_false hb.2⟩
      · obtain ⟨h1, h2⟩ := ih h
        exact ⟨List.mem_cons_of_mem _ h1, h2⟩
theorem sx_st_mem {ls : sx_L} {i : Nat} {v : Value} {q : Nat × Value} (h : q ∈ sx_st ls i v) : q = (i, v) ∨ (q ∈ ls ∧ q.1 ≠ i ∧ q.2.category ≠ 2) := by
  rcases List.mem_cons.mp h with e | h
  · exact Or.inl e
  · exact Or.inr (sx_stf_mem h)
theorem sx_ix_eq {i : Int32} {n j : Nat} (h : sx_ix i n = some j) : j < n ∧ i = nI j ∧ j < 2 ^ 31 := by
  unfold sx_ix at h
  cases hb : (Nat.blt i.toBitVec.toNat n && Nat.blt i.toBitVec.toNat 2147483648) with
  | false => rw [hb] at h; cases h
  | true =>
    rw [hb] at h
    have e : i.toBitVec.toNat = j := Option.some.inj h
    rw [Bool.and_eq_true, Nat.blt_eq, Nat.blt_eq, e] at hb
    refine ⟨hb.1, ?_, hb.2⟩
    apply Int32.toBitVec_inj.mp
    apply BitVec.eq_of_toNat_eq
    rw [e, pk_tn (by omega)]
theorem sx_frc_eq {α : Type} (x : Int32) (y : Option α) : sx_frc x y = y := by
  unfold sx_frc
  have h : Nat.beq x.toBitVec.toNat 4294967296 = false := by
    rw [Bool.eq_false_iff]
    intro q
    have h1 := Nat.eq_of_beq_eq_true q
    have h2 := x.toBitVec.isLt
    omega
  rw [h]; rfl
