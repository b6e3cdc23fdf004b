/-! ===== switches, and a method's end ===== -/
theorem sx_lg_eq {α : Type} (d : α) (l : List α) : ∀ n : Nat, sx_lg d l n = (l[n]?).getD d := by
  induction l with
  | nil => intro n; cases n <;> rfl
  | cons a t ih =>
    intro n
    cases n with
    | zero => rfl
    | succ n =>
      show sx_lg d t n = _
      rw [ih n]
      simp
noncomputable def sx_fr (pc : Nat) (z : Nat → Option Nat) (i : Nat) (r : List sx_N) : Nat → Option Nat := List.rec (fun _ => z (i + 16)) (fun q _ ih2 k => bif Nat.beq q.2.2.2.1 pc then some k else ih2 (k + 1)) r
theorem sx_fr_spec {pc : Nat} {z : Nat → Option Nat} {i : Nat} (r : List sx_N) : ∀ {k t : Nat}, sx_fr pc z i r k = some t → (∃ (j : Nat) (en : sx_N), r[j]? = some en ∧ en.2.2.2.1 = pc ∧ t = k + j) ∨ z (i + 16) = some t := by
  induction r with
  | nil => intro k t h; exact Or.inr h
  | cons q r ih =>
    intro k t h
    have h : (bif Nat.beq q.2.2.2.1 pc then some k else sx_fr pc z i r (k + 1)) = some t := h
    cases hb : Nat.beq q.2.2.2.1 pc with
    | true =>
      rw [hb] at h
      cases h
      exact Or.inl ⟨0, q, rfl, Nat.eq_of_beq_eq_true hb, rfl⟩
    | false =>
      rw [hb] at h
      rcases ih h with ⟨j, en, h1, h2, h3⟩ | h1
      · exact Or.inl ⟨j + 1, en, by simpa using h1, h2, by omega⟩
      · exact Or.inr h1
theorem sx_find_spec {pc : Nat} (cd : List (List sx_N)) : ∀ {i t : Nat}, sx_find cd pc i = some t → ∃ (r0 j : Nat) (row : List sx_N) (en : sx_N), cd[r0]? = some row ∧ row[j]? = some en ∧ en.2.2.2.1 = pc ∧ t = i + 16 * r0 + j := by
  induction cd with
  | nil => intro i t h; cases h
  | cons r cd ih =>
    intro i t h
    have h : sx_fr pc (sx_find cd pc) i r i = some t := h
    rcases sx_fr_spec r h with ⟨j, en, h1, h2, h3⟩ | h1
    · exact ⟨0, j, r, en, rfl, h1, h2, by omega⟩
    · obtain ⟨r0, j, row, en, g1, g2, g3, g4⟩ := ih h1
      exact ⟨r0 + 1, j, row, en, by simpa using g1, g2, g3, by omega⟩
theorem sx_to_spec {cd : List (List sx_N)} (hr : ∀ r ∈ cd, r.length ≤ 16) {q : Int} {t : Nat} (h : sx_to cd q = some t) : ∃ en : sx_N, sx_at cd t = some en ∧ q = (en.2.2.2.1 : Int) := by
  unfold sx_to at h
  split at h
  · next h0 =>
    obtain ⟨r0, j, row, en, g1, g2, g3, g4⟩ := sx_find_spec cd h
    have hl := hr row (List.mem_of_getElem? g1)
    have hj : j < row.length := (List.getElem?_eq_some_iff.mp g2).1
    refine ⟨en, ?_, by rw [g3]; omega⟩
    unfold sx_at
    rw [sx_lo_eq, sx_lg_eq, show t / 16 = r0 by omega, show t % 16 = j by omega, g1]
    exact g2
  · cases h
/-- a method has come to its end, as SI says -/
def sx_Qe (below : List Frame) (s : State) (w : sx_Wd) (cl : List vw_C) (ra : List Nat) (n0 z0 : Nat) (r : sx_R) : State → Prop := fun t => ∃ o, t.status = .running ∧ Ended t below o ∧ s.WarmedH t.vm ∧ (∃ L : List Loc, s.sameButNew ({ t with vm := s.vm } : State) L (r.2.1 - n0) (r.2.2.1 - z0) ∧ ∀ q ∈ L, w.2.1 ≤ q.base) ∧ sx_HR w cl ra r.2 t.heap ∧ (∀ q : Nat, q < w.2.1 → t.heap[q]? = s.heap[q]?) ∧ n0 ≤ r.2.1 ∧ z0 ≤ r.2.2.1 ∧ (match r.1 with
  | .inl v => o = .returned (v.map (sx_v w))
  | .inr x => o = .threw (w.2.1 + x))
section SXE
variable {p : Program} {l : Launch} {e : Env} {R : Room} {s : State} {m : MethodId} {args : Array Value} {below : List Frame} {meth : Method} {c : Code} {Q : State → Prop} {cc : ByteArray} {nL : Nat} {own : String} {Ts : List Cond} {w : sx_Wd} {cl : List vw_C} {ra : List Nat} {S : List Int32} {lim : Nat × Nat} {n0 z0 fr lo : Nat} {D : Nat → List Value}
variable {pc : Nat} {ls ls1 : sx_L} {st st1 : List Value} {h h1 : sx_H} {t : Option Nat} {en : sx_N} {cd : List (List sx_N)}
theorem sx_w_sw (hx : p.tables.exec = Jvm.exec) (hb : c.code = cc) (hr : ∀ r ∈ cd, r.length ≤ 16) (hpc : en.2.2.2.1 = pc) {len : Nat} (hd : decode cc pc = .ok (en.2.2.2.2.2, len)) (hs : sx_i36 cd en ls st h = some (t, ls1, st1, h1))
    (kt : ∀ (i : Nat) (en1 : sx_N), t = some i → sx_at cd i = some en1 → sx_At p l e R s m args below meth c Q nL w cl ra n0 z0 en1.2.2.2.1 ls1 st1 h1) : sx_At p l e R s m args below meth c Q nL w cl ra n0 z0 pc ls st h := by
  unfold sx_i36 at hs
  split at hs
  · next d lo9 hi9 offs x r hins =>
    split at hs
    · next i hi =>
      cases hs
      rw [hins] at hd
      rw [hpc] at hi
      intro a1 a2 H locs lm hH hS hL
      unfold sx_sw at hi
      split at hi
      · next hout =>
        obtain ⟨en1, g1, g2⟩ := sx_to_spec hr hi
        exact lv_tableOut hx hb hd hout g2 (kt i en1 rfl g1 a1 a2 H locs lm hH hS hL)
      · next hout =>
        rw [not_or] at hout
        split at hi
        · next o ho =>
          obtain ⟨en1, g1, g2⟩ := sx_to_spec hr hi
          exact lv_tableIn hx hb hd hout.1 hout.2 ho g2 (kt i en1 rfl g1 a1 a2 H locs lm hH hS hL)
        · cases hi
    · cases hs
  · cases hs
theorem W.monoQ {H : Heap} {locs : List Loc} {cells slots : Nat} {Q Q' : State → Prop} {g : JFrame} (hq : ∀ t, Q t → Q' t) (k : W p l e R s m args below meth c H locs cells slots Q g) : W p l e R s m args below meth c H locs cells slots Q' g := fun T hT X => by
  obtain ⟨t, a, b⟩ := k T hT X
  exact ⟨t, a, hq t b⟩
/-- what a return gives -/
theorem sx_end {H : Heap} {locs : List Loc} {v : Option Value} (hH : sx_HR w cl ra h H) (hS : sx_SR w s H locs) (a1 : n0 ≤ h.1) (a2 : z0 ≤ h.2.1) (t : State) (q : MQ below (fun _ _ o t => o = .returned (v.map (sx_v w)) ∧ t.heap = H) args s (h.1 - n0) (h.2.1 - z0) (fun a => w.2.1 ≤ a) t) : sx_Qe below s w cl ra n0 z0 (.inl v, h) t := by
  obtain ⟨o, h1, h2, ⟨rfl, h4⟩, L, ⟨-, h5, h6⟩, h7⟩ := q
  exact ⟨_, h1, h2, h5, ⟨L, h6, h7⟩, by rw [h4]; exact hH, fun q hq => by rw [h4]; exact hS.1 q hq, a1, a2, rfl⟩
theorem sx_w_ret (hx : p.tables.exec = Jvm.exec) (hb : c.code = cc) (hlocks : meth.locks = false) (hr : meth.sig.returnType = none) (hd : decode cc pc = .ok (.return_, 1)) {v : Option Value} (hs : sx_r0 0 st = some v) : sx_At p l e R s m args below meth c (sx_Qe below s w cl ra n0 z0 (.inl v, h)) nL w cl ra n0 z0 pc ls st h := by
  unfold sx_r0 at hs
  split at hs
  · cases hs
    intro a1 a2 H locs lm hH hS hL
    exact W.monoQ (sx_end hH hS a1 a2) (W.vret hx hb hr (fun t ht _ => ⟨rfl, ht⟩) hS.2 hd hlocks)
  · cases hs
theorem sx_w_iret (hx : p.tables.exec = Jvm.exec) (hb : c.code = cc) (hlocks : meth.locks = false) {rk : Nat} (hr : rk = 1 ∧ meth.sig.returnType = some .int ∨ rk = 2 ∧ meth.sig.returnType = some .boolean) (hd : decode cc pc = .ok (.ireturn, 1)) {v : Option Value} (hs : sx_r1 rk st = some v) : sx_At p l e R s m args below meth c (sx_Qe below s w cl ra n0 z0 (.inl v, h)) nL w cl ra n0 z0 pc ls st h := by
  unfold sx_r1 at hs
  split at hs
  · next x =>
    rcases hr with ⟨rfl, hr⟩ | ⟨rfl, hr⟩
    · cases hs
      intro a1 a2 H locs lm hH hS hL
      exact W.monoQ (sx_end hH hS a1 a2) (W.iret hx hb hr (fun t ht _ => ⟨rfl, ht⟩) hS.2 hd hlocks)
    · have hs : (bif (decide (x = 0) || decide (x = 1)) then some (some (Value.int x)) else none) = some v := hs
      cases hq : (decide (x = 0) || decide (x = 1)) with
      | false => rw [hq] at hs; cases hs
      | true =>
        rw [hq] at hs
        cases hs
        rw [Bool.or_eq_true, decide_eq_true_eq, decide_eq_true_eq] at hq
        intro a1 a2 H locs lm hH hS hL
        exact W.monoQ (sx_end hH hS a1 a2) (W.zret hx hb hr (by rcases hq with rfl | rfl <;> decide) (fun t ht _ => ⟨rfl, ht⟩) hS.2 hd hlocks)
  · cases hs
theorem sx_w_aret (hx : p.tables.exec = Jvm.exec) (hb : c.code = cc) (hlocks : meth.locks = false) {rt : FieldType} (hr : meth.sig.returnType = some rt) (hrt : (∃ n, rt = .object n) ∨ ∃ t, rt = .array t) (hd : decode cc pc = .ok (.areturn, 1)) {v : Option Value} (hs : sx_r2 3 st = some v) : sx_At p l e R s m args below meth c (sx_Qe below s w cl ra n0 z0 (.inl v, h)) nL w cl ra n0 z0 pc ls st h := by
  unfold sx_r2 at hs
  split at hs
  · next x =>
    cases hs
    intro a1 a2 H locs lm hH hS hL
    refine W.monoQ (sx_end hH hS a1 a2) (W.aret (v := sx_v w (.ref x)) hx hb hr hrt (Or.inr (by cases x <;> exact ⟨_, rfl⟩)) (fun t ht _ => ⟨rfl, ht⟩) hS.2 hd hlocks)
  · cases hs
end SXE
