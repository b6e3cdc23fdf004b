/-! ===== a check of a method's table, by computing ===== -/
noncomputable def sx_dp (n : Nat) : List UInt8 → List UInt8 := Nat.rec (fun l => l) (fun _ ih l => List.casesOn l [] (fun _ t => ih t)) n
theorem sx_dp_eq (n : Nat) : ∀ l : List UInt8, sx_dp n l = l.drop n := by
  induction n with
  | zero => intro l; rfl
  | succ n ih =>
    intro l
    cases l with
    | nil => rfl
    | cons a t => exact ih t
def sx_isw (i : Instr) : Bool := match i with
  | .tableswitch _ _ _ _ => true
  | _ => false
/-- an entry's instruction stands at the head of the bytes; a switch is looked at elsewhere -/
noncomputable def sx_w1 (en : sx_N) (l : List UInt8) : Bool := bif sx_isw en.2.2.2.2.2 then true else match sx_rd l with
  | some (i, n) => decide (i = en.2.2.2.2.2) && Nat.beq n en.2.2.2.2.1
  | none => false
noncomputable def sx_wr (r : List sx_N) : List UInt8 → Nat → Option (List UInt8 × Nat) := List.rec (fun l pc => some (l, pc)) (fun en _ ih l pc => bif Nat.beq en.2.2.2.1 pc && sx_w1 en l then ih (sx_dp en.2.2.2.2.1 l) (en.2.2.2.1 + en.2.2.2.2.1) else none) r
noncomputable def sx_wc (cd : List (List sx_N)) : List UInt8 → Nat → Bool := List.rec (fun _ _ => true) (fun r _ ih l pc => match sx_wr r l pc with
  | some (l1, pc1) => ih l1 pc1
  | none => false) cd
theorem sx_wr_ok {cc : ByteArray} : ∀ (r : List sx_N) (l : List UInt8) (pc : Nat), cc.data.toList.drop pc = l → ∀ (l1 : List UInt8) (pc1 : Nat), sx_wr r l pc = some (l1, pc1) → cc.data.toList.drop pc1 = l1 ∧ ∀ en ∈ r, sx_isw en.2.2.2.2.2 = false → decode cc en.2.2.2.1 = .ok (en.2.2.2.2.2, en.2.2.2.2.1) := by
  intro r
  induction r with
  | nil =>
    intro l pc h l1 pc1 h1
    have h1 : some (l, pc) = some (l1, pc1) := h1
    cases h1
    exact ⟨h, fun en he => by cases he⟩
  | cons en r ih =>
    intro l pc h l1 pc1 h1
    have h1 : (bif Nat.beq en.2.2.2.1 pc && sx_w1 en l then sx_wr r (sx_dp en.2.2.2.2.1 l) (en.2.2.2.1 + en.2.2.2.2.1) else none) = some (l1, pc1) := h1
    cases hc : (Nat.beq en.2.2.2.1 pc && sx_w1 en l) with
    | false => rw [hc] at h1; cases h1
    | true =>
      rw [hc] at h1
      rw [Bool.and_eq_true] at hc
      have hp := Nat.eq_of_beq_eq_true hc.1
      have h2 : cc.data.toList.drop (en.2.2.2.1 + en.2.2.2.2.1) = sx_dp en.2.2.2.2.1 l := by rw [sx_dp_eq, ← h, List.drop_drop, hp]
      obtain ⟨g1, g2⟩ := ih _ _ h2 l1 pc1 h1
      refine ⟨g1, fun e he hs => ?_⟩
      rcases List.mem_cons.mp he with rfl | he
      · have h3 := hc.2
        unfold sx_w1 at h3
        rw [hs] at h3
        dsimp only [cond] at h3
        split at h3
        · next i n hr =>
          rw [Bool.and_eq_true, decide_eq_true_eq] at h3
          have hn := Nat.eq_of_beq_eq_true h3.2
          rw [← hn, ← h3.1]
          exact sx_rd_ok (by rw [hp]; exact h) hr
        · cases h3
      · exact g2 e he hs
theorem sx_wc_ok {cc : ByteArray} : ∀ (cd : List (List sx_N)) (l : List UInt8) (pc : Nat), cc.data.toList.drop pc = l → sx_wc cd l pc = true → ∀ r ∈ cd, ∀ en ∈ r, sx_isw en.2.2.2.2.2 = false → decode cc en.2.2.2.1 = .ok (en.2.2.2.2.2, en.2.2.2.2.1) := by
  intro cd
  induction cd with
  | nil => intro l pc _ _ r hr; cases hr
  | cons r cd ih =>
    intro l pc h h1
    have h1 : (match sx_wr r l pc with | some (l1, pc1) => sx_wc cd l1 pc1 | none => false) = true := h1
    split at h1
    · next l1 pc1 hw =>
      obtain ⟨g1, g2⟩ := sx_wr_ok r l pc h l1 pc1 hw
      intro r2 hr2
      rcases List.mem_cons.mp hr2 with rfl | hr2
      · exact g2
      · exact ih l1 pc1 g1 h1 r2 hr2
    · cases h1
/-- f of every place of a list, of a list of rows of 16 -/
noncomputable def sx_ev1 {α : Type} (f : Nat → α → Bool) (l : List α) : Nat → Bool := List.rec (fun _ => true) (fun a _ ih n => f n a && ih (n + 1)) l
noncomputable def sx_ev2 {α : Type} (f : Nat → α → Bool) (l : List (List α)) : Nat → Bool := List.rec (fun _ => true) (fun r _ ih n => Nat.ble r.length 16 && (sx_ev1 f r n && ih (n + 16))) l
theorem sx_ev1_ok {α : Type} {f : Nat → α → Bool} : ∀ (l : List α) (n : Nat), sx_ev1 f l n = true → ∀ k a, sx_lo l k = some a → f (n + k) a = true := by
  intro l
  induction l with
  | nil => intro n _ k a h; cases h
  | cons x l ih =>
    intro n h k a hk
    have h : (f n x && sx_ev1 f l (n + 1)) = true := h
    rw [Bool.and_eq_true] at h
    cases k with
    | zero => cases hk; exact h.1
    | succ k =>
      have := ih (n + 1) h.2 k a hk
      rw [show n + (k + 1) = n + 1 + k from by omega]
      exact this
theorem sx_ev2_len {α : Type} {f : Nat → α → Bool} : ∀ (l : List (List α)) (n : Nat), sx_ev2 f l n = true → ∀ r ∈ l, r.length ≤ 16 := by
  intro l
  induction l with
  | nil => intro n _ r hr; cases hr
  | cons x l ih =>
    intro n h r hr
    have h : (Nat.ble x.length 16 && (sx_ev1 f x n && sx_ev2 f l (n + 16))) = true := h
    rw [Bool.and_eq_true, Bool.and_eq_true] at h
    rcases List.mem_cons.mp hr with rfl | hr
    · exact Nat.le_of_ble_eq_true h.1
    · exact ih _ h.2.2 r hr
theorem sx_ev2_at {α : Type} {f : Nat → α → Bool} : ∀ (l : List (List α)) (n : Nat), sx_ev2 f l n = true → ∀ q k a, sx_lo (sx_lg [] l q) k = some a → f (n + (16 * q + k)) a = true := by
  intro l
  induction l with
  | nil => intro n _ q k a h; cases q <;> cases h
  | cons x l ih =>
    intro n h q k a hk
    have h : (Nat.ble x.length 16 && (sx_ev1 f x n && sx_ev2 f l (n + 16))) = true := h
    rw [Bool.and_eq_true, Bool.and_eq_true] at h
    cases q with
    | zero =>
      have := sx_ev1_ok x n h.2.1 k a hk
      rw [show n + (16 * 0 + k) = n + k from by omega]
      exact this
    | succ q =>
      have := ih (n + 16) h.2.2 q k a hk
      rw [show n + (16 * (q + 1) + k) = n + 16 + (16 * q + k) from by omega]
      exact this
theorem sx_ev2_ok {α : Type} {f : Nat → α → Bool} {l : List (List α)} (h : sx_ev2 f l 0 = true) {i : Nat} {a : α} (hi : sx_lo (sx_lg [] l (i / 16)) (i % 16) = some a) : f i a = true := by
  have := sx_ev2_at l 0 h (i / 16) (i % 16) a hi
  rw [show 0 + (16 * (i / 16) + i % 16) = i from by omega] at this
  exact this
/-- what a line of a class' links says: 0 a constant, 46 a field read, 47 written, 147 a final one, 48 new, 53 a new array, 54 Object's constructor, 55 arraycopy, 56 .. 58 a call, 62 a throw -/
def sx_ln (g : sx_Pg) (P : Nat → Option sx_Mt) (own : String) (tag idx a b : Nat) : Prop :=
  (tag = 0 → Cond.constant own idx (Int32.ofNat a) ∈ g.1) ∧
  (tag = 46 → sx_fok g.1 g.2.1 own idx a b) ∧
  (tag = 47 → ∀ mn, sx_pok g.1 g.2.1 own mn idx a (b % 1000) (b / 1000)) ∧
  (tag = 147 → sx_pok g.1 g.2.1 own "<init>" idx a (b % 1000) (b / 1000)) ∧
  (tag = 48 → sx_nok g.1 g.2.1 g.2.2.2.1 own idx a ∧ ∀ v ∈ g.2.2.2.1 a, v = .null ∨ v = .int 0) ∧
  (tag = 53 → ∃ z, g.2.1[a]? = some z ∧ a ∈ g.2.2.1 ∧ Cond.classLink own idx z.1 ∈ g.1 ∧ Cond.arrayOver (.object z.1) ∈ g.1) ∧
  (tag = 54 → Cond.methodLink own idx Lib.objectInit ∈ g.1 ∧ Cond.instanceMethod Lib.objectInit ∈ g.1 ∧ Cond.code Lib.objectInit ⟨#[0xb1]⟩ 1 none ∈ g.1) ∧
  (tag = 55 → Cond.methodLink own idx arraycopyName ∈ g.1 ∧ Cond.native arraycopyName ∈ g.1 ∧ Cond.static arraycopyName ∈ g.1 ∧ Cond.initialized "java/lang/System" ∈ g.1) ∧
  (56 ≤ tag ∧ tag < 59 → ∃ N, P a = some N ∧ sx_vok g.1 own tag idx (g.2.2.2.2.1 a) N.1 b ∧ sx_cw g.1 (g.2.2.2.2.1 a) N.1 ∧ (tag = 56 → ∃ z : vw_C, g.2.1[N.2.1]? = some z ∧ z.1 = (g.2.2.2.2.1 a).1.cls) ∧ b ≤ N.1 ∧ ∃ e0 : sx_N, sx_at N.2.2.2.2 0 = some e0 ∧ e0.2.2.2.1 = 0) ∧
  (tag = 62 → ∃ (text X : String) (names : List String) (T0 : u_T), g.2.1[a]? = some (X, T0, 0) ∧ Cond.classLink own idx X ∈ g.1 ∧ Cond.instantiable X 6 ∈ g.1 ∧ Cond.initialized X ∈ g.1 ∧ Cond.stringRef own (b / 65536) text ∈ g.1 ∧ Bundle.fit X = true ∧ (∀ n ∈ names, Bundle.fit n = true) ∧ (∀ a ∈ Bundle.ownAtoms own (b % 65536) X names, a ∈ g.1) ∧ names.length = 2)
noncomputable def sx_kx (cd : List (List sx_N)) (i : Nat) (en : sx_N) (len : Nat) : Bool := Nat.beq en.2.2.2.2.1 len && match sx_at cd (i + 1) with
  | some e1 => Nat.beq e1.2.2.2.1 (en.2.2.2.1 + len)
  | none => true
theorem sx_kx_ok {cd : List (List sx_N)} {i : Nat} {en : sx_N} {len : Nat} (h : sx_kx cd i en len = true) : sx_nx cd i en len := by
  unfold sx_kx at h
  rw [Bool.and_eq_true] at h
  refine ⟨Nat.eq_of_beq_eq_true h.1, fun e1 h1 => ?_⟩
  have h2 := h.2
  rw [h1] at h2
  exact Nat.eq_of_beq_eq_true h2
noncomputable def sx_kt (cd : List (List sx_N)) (en : sx_N) (off : Int) : Bool := match sx_at cd en.2.1 with
  | some e1 => decide ((en.2.2.2.1 : Int) + off = (e1.2.2.2.1 : Int))
  | none => false
theorem sx_kt_ok {cd : List (List sx_N)} {en : sx_N} {off : Int} (h : sx_kt cd en off = true) : sx_tg cd en off := by
  unfold sx_kt at h
  split at h
  · next e1 h1 => exact ⟨e1, h1, of_decide_eq_true h⟩
  · cases h
/-- the entry at place i has this instruction, at this pc -/
noncomputable def sx_kn (cd : List (List sx_N)) (i pc : Nat) : Option Instr := match sx_at cd i with
  | some e => bif Nat.beq e.2.2.2.1 pc then some e.2.2.2.2.2 else none
  | none => none
def sx_ldi (i : Instr) : Option (Nat × Nat) := match i with
  | .ldc k => some (k, 2)
  | .ldc_w k => some (k, 3)
  | _ => none
/-- a throw's five instructions -/
noncomputable def sx_k62 (K : Nat → Nat → Nat → Nat → Bool) (cd : List (List sx_N)) (fr lo : Nat) (hs : List (Nat × Nat × Nat × Nat)) (i : Nat) (en : sx_N) (idx : Nat) : Bool := Nat.beq en.2.2.2.2.1 3 && hs.isEmpty && (Nat.ble 6 fr && Nat.ble 90 lo) && match sx_at cd (i + 1), sx_at cd (i + 2), sx_at cd (i + 3), sx_at cd (i + 4) with
  | some (_, _, _, p1, l1, .dup), some (_, _, _, p2, l2, i2), some (_, _, _, p3, l3, .invokespecial ic), some (_, _, _, p4, l4, .athrow) => (match sx_ldi i2 with
    | some (k, ln) => Nat.beq p1 (en.2.2.2.1 + 3) && Nat.beq l1 1 && (Nat.beq p2 (en.2.2.2.1 + 4) && Nat.beq l2 ln) && (Nat.beq p3 (en.2.2.2.1 + 4 + ln) && Nat.beq l3 3) && (Nat.beq p4 (en.2.2.2.1 + 4 + ln + 3) && Nat.beq l4 1) && K 62 idx en.2.1 (k * 65536 + ic) && (Nat.blt ic 65536)
    | none => false)
  | _, _, _, _ => false
/-- a call -/
noncomputable def sx_kc (K : Nat → Nat → Nat → Nat → Bool) (P : Nat → Option sx_Mt) (frf lof : Nat → Nat) (cd : List (List sx_N)) (fr lo : Nat) (i : Nat) (en : sx_N) (idx : Nat) : Bool := K en.1 idx en.2.1 en.2.2.1 && sx_kx cd i en 3 && Nat.ble (frf en.2.1 + 1) fr && match P en.2.1 with
  | some N => Nat.ble (8 + (N.1 + 11) + lof en.2.1) lo
  | none => false
def sx_cnd (c : ClassFile.Cond) : Nat := match c with
  | .eq => 0
  | .ne => 1
  | .lt => 2
  | .ge => 3
  | .gt => 4
  | .le => 5
def sx_bo (i : Instr) : Nat := match i with
  | .pop => 6 | .dup => 7 | .dup2 => 8 | .iadd => 9 | .isub => 10 | .imul => 11 | .iand => 12 | .ior => 13 | .ixor => 14 | .ishl => 15 | .ishr => 16 | .iushr => 17 | .idiv => 18 | .irem => 19 | .i2l => 20 | .i2b => 21 | .lcmp => 22
  | .arraylength => 37 | .iaload => 38 | .baload => 39 | .laload => 40 | .aaload => 41 | .iastore => 42 | .bastore => 43 | .lastore => 44 | .aastore => 45
  | _ => 99
theorem sx_bo_ok {o : Nat} {i : Instr} (h : sx_bo i = o) (ho : o < 99) : sx_bop o i := by
  unfold sx_bo at h
  split at h <;> first | (subst h; simp [sx_bop]; done) | omega
