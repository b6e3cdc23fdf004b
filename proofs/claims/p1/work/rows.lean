section
/-! ===== SI: a small interpreter over lists. A cell: an object (number of its class, fields), an array of ints, booleans or bytes (0, 1, 2; length; contents in rows of 32, 0 behind their end), of longs, of references (class, length, contents). A heap: how many cells, how many slots, the cells, the newest first. The value 'ref 0' is the script, 'ref (k + 1)' the cell k. ===== -/
abbrev sx_C : Type := (Nat × List Value) ⊕ ((Nat × Nat × List (List Int32)) ⊕ ((Nat × List (List Int64)) ⊕ (Nat × Nat × List (List (Option Nat)))))
abbrev sx_H : Type := Nat × Nat × List sx_C
abbrev sx_L : Type := List (Nat × Value)
/-- an instruction: a number for what it does, two numbers more (constant, local, target, class, field, method, how many arguments ..), its pc, its length, itself -/
abbrev sx_N : Type := Nat × Nat × Nat × Nat × Nat × Instr
/-- a method: its locals, its class, what it answers (0 nothing, 1 int, 2 boolean, 3 a reference), its handlers (from, to, where, class), its code, in rows of 16 -/
abbrev sx_Mt : Type := Nat × Nat × Nat × List (Nat × Nat × Nat × Nat) × List (List sx_N)
/-- place n of a list, or d -/
noncomputable def sx_lg {α : Type} (d : α) (l : List α) : Nat → α := List.rec (fun _ => d) (fun a _ ih n => Nat.casesOn n a ih) l
/-- place n of a list -/
noncomputable def sx_lo {α : Type} (l : List α) : Nat → Option α := List.rec (fun _ => none) (fun a _ ih n => Nat.casesOn n (some a) ih) l
/-- x at place n; d between the list's end and there -/
noncomputable def sx_lset {α : Type} (d x : α) (l : List α) : Nat → List α := List.rec (fun n => Nat.rec [x] (fun _ r => d :: r) n) (fun a t ih n => Nat.casesOn n (x :: t) (fun m => a :: ih m)) l
/-- arrays lie in rows of 32 -/
noncomputable def sx_ag {α : Type} (d : α) (l : List (List α)) (j : Nat) : α := sx_lg d (sx_lg [] l (j / 32)) (j % 32)
noncomputable def sx_as {α : Type} (d : α) (l : List (List α)) (j : Nat) (x : α) : List (List α) := sx_lset [] (sx_lset d x (sx_lg [] l (j / 32)) (j % 32)) l (j / 32)
noncomputable def sx_get (h : sx_H) (k : Nat) : Option sx_C := bif Nat.blt k h.1 then sx_lo h.2.2 (h.1 - 1 - k) else none
noncomputable def sx_set (h : sx_H) (k : Nat) (c : sx_C) : sx_H := (h.1, h.2.1, sx_lset c c h.2.2 (h.1 - 1 - k))
def sx_push (h : sx_H) (n : Nat) (c : sx_C) : sx_H := (h.1 + 1, h.2.1 + n, c :: h.2.2)
/-- a new cell of n slots, within the room, on the stack -/
def sx_new (lim : Nat × Nat) (ls : sx_L) (st : List Value) (h : sx_H) (n : Nat) (c : sx_C) : Option (Option Nat × sx_L × List Value × sx_H) := bif Nat.blt h.1 lim.1 && Nat.ble (h.2.1 + n) lim.2 then some (none, ls, .ref (h.1 + 1) :: st, sx_push h n c) else none
/-- y, behind a look at x: what lies on the way to x is computed then -/
def sx_frc {α : Type} (x : Int32) (y : Option α) : Option α := bif Nat.beq x.toBitVec.toNat 4294967296 then none else y
noncomputable def sx_lk (l : sx_L) (i : Nat) : Option Value := List.rec none (fun q _ ih => bif Nat.beq q.1 i then some q.2 else ih) l
/-- the locals behind a store: none of the code has a long one -/
noncomputable def sx_st (ls : sx_L) (i : Nat) (v : Value) : sx_L := (i, v) :: List.rec [] (fun q _ ih => bif Nat.beq q.1 i || Nat.beq q.2.category 2 then ih else q :: ih) ls
/-- an index below n -/
def sx_ix (i : Int32) (n : Nat) : Option Nat := bif Nat.blt i.toBitVec.toNat n && Nat.blt i.toBitVec.toNat 2147483648 then some i.toBitVec.toNat else none
noncomputable def sx_at (cd : List (List sx_N)) (i : Nat) : Option sx_N := sx_lo (sx_lg [] cd (i / 16)) (i % 16)
/-- the place of a pc -/
noncomputable def sx_find (cd : List (List sx_N)) (pc : Nat) : Nat → Option Nat := List.rec (fun _ => none) (fun r _ ih i => (List.rec (fun _ => ih (i + 16)) (fun q _ ih2 k => bif Nat.beq q.2.2.2.1 pc then some k else ih2 (k + 1)) r : Nat → Option Nat) i) cd
noncomputable def sx_to (cd : List (List sx_N)) (q : Int) : Option Nat := if 0 ≤ q then sx_find cd q.toNat 0 else none
noncomputable def sx_sw (cd : List (List sx_N)) (pc : Nat) (d lo hi : Int) (offs : Array Int) (x : Int32) : Option Nat :=
  if x.toInt < lo ∨ hi < x.toInt then sx_to cd ((pc : Int) + d) else match offs[(x.toInt - lo).toNat]? with
    | some o => sx_to cd ((pc : Int) + o)
    | none => none
/-- what comes of an instruction that is no call, no return, no throw: where next (none: behind it), locals, stack, heap -/
abbrev sx_O : Type := Option Nat × sx_L × List Value × sx_H
abbrev sx_I : Type := sx_N → sx_L → List Value → sx_H → Option sx_O
def sx_i0 : sx_I := fun en ls st h => some (none, ls, .int (Int32.ofNat en.2.1) :: st, h)
noncomputable def sx_i1 : sx_I := fun en ls st h => match sx_lk ls en.2.1 with
  | some (.int x) => some (none, ls, .int x :: st, h)
  | _ => none
noncomputable def sx_i2 : sx_I := fun en ls st h => match sx_lk ls en.2.1 with
  | some (.ref x) => some (none, ls, .ref x :: st, h)
  | _ => none
noncomputable def sx_i3 : sx_I := fun en ls st h => match st with
  | .int x :: r => some (none, sx_st ls en.2.1 (.int x), r, h)
  | _ => none
noncomputable def sx_i4 : sx_I := fun en ls st h => match st with
  | .ref x :: r => some (none, sx_st ls en.2.1 (.ref x), r, h)
  | _ => none
noncomputable def sx_i5 : sx_I := fun en ls st h => match sx_lk ls en.2.1 with
  | some (.int x) => some (none, sx_st ls en.2.1 (.int (x + Int32.ofNat en.2.2.1)), st, h)
  | _ => none
def sx_i6 : sx_I := fun _ ls st h => match st with
  | v :: r => bif Nat.beq v.category 1 then some (none, ls, r, h) else none
  | _ => none
def sx_i7 : sx_I := fun _ ls st h => match st with
  | v :: r => bif Nat.beq v.category 1 then some (none, ls, v :: v :: r, h) else none
  | _ => none
def sx_i8 : sx_I := fun _ ls st h => match st with
  | v :: w :: r => bif Nat.beq v.category 1 && Nat.beq w.category 1 then some (none, ls, v :: w :: v :: w :: r, h) else none
  | _ => none
def sx_bin (f : Int32 → Int32 → Int32) : sx_I := fun _ ls st h => match st with
  | .int y :: .int x :: r => some (none, ls, .int (f x y) :: r, h)
  | _ => none
def sx_div (f : Int32 → Int32 → Int32) : sx_I := fun _ ls st h => match st with
  | .int y :: .int x :: r => if y = 0 then none else some (none, ls, .int (f x y) :: r, h)
  | _ => none
def sx_i20 : sx_I := fun _ ls st h => match st with
  | .int x :: r => some (none, ls, .long x.toInt64 :: r, h)
  | _ => none
def sx_i21 : sx_I := fun _ ls st h => match st with
  | .int x :: r => some (none, ls, .int x.toInt8.toInt32 :: r, h)
  | _ => none
def sx_i22 : sx_I := fun _ ls st h => match st with
  | .long y :: .long x :: r => some (none, ls, .int (lg_cmp x y) :: r, h)
  | _ => none
def sx_if1 (f : Int32 → Bool) : sx_I := fun en ls st h => match st with
  | .int x :: r => some (bif f x then some en.2.1 else none, ls, r, h)
  | _ => none
def sx_if2 (f : Int32 → Int32 → Bool) : sx_I := fun en ls st h => match st with
  | .int y :: .int x :: r => some (bif f x y then some en.2.1 else none, ls, r, h)
  | _ => none
def sx_i35 : sx_I := fun en ls st h => some (some en.2.1, ls, st, h)
noncomputable def sx_i36 (cd : List (List sx_N)) : sx_I := fun en ls st h => match en.2.2.2.2.2, st with
  | .tableswitch d lo hi offs, .int x :: r => match sx_sw cd en.2.2.2.1 d lo hi offs x with
    | some t => some (some t, ls, r, h)
    | none => none
  | _, _ => none
noncomputable def sx_arr (h : sx_H) (v : Value) : Option (Nat × sx_C) := match v with
  | .ref (k + 1) => match sx_get h k with
    | some c => some (k, c)
    | none => none
  | _ => none
noncomputable def sx_i37 (S : List Int32) : sx_I := fun _ ls st h => match st with
  | .ref 0 :: r => some (none, ls, .int (Int32.ofNat S.length) :: r, h)
  | v :: r => match sx_arr h v with
    | some (_, .inr (.inl a)) => some (none, ls, .int (Int32.ofNat a.2.1) :: r, h)
    | some (_, .inr (.inr (.inr a))) => some (none, ls, .int (Int32.ofNat a.2.1) :: r, h)
    | _ => none
  | _ => none
noncomputable def sx_i38 (S : List Int32) : sx_I := fun _ ls st h => match st with
  | .int i :: .ref 0 :: r => match sx_ix i S.length with
    | some j => some (none, ls, .int (sx_lg 0 S j) :: r, h)
    | none => none
  | .int i :: v :: r => match sx_arr h v with
    | some (_, .inr (.inl (0, n, l))) => match sx_ix i n with
      | some j => some (none, ls, .int (sx_ag 0 l j) :: r, h)
      | none => none
    | _ => none
  | _ => none
noncomputable def sx_i39 : sx_I := fun _ ls st h => match st with
  | .int i :: v :: r => match sx_arr h v with
    | some (_, .inr (.inl (1, n, l))) => match sx_ix i n with
      | some j => some (none, ls, .int (sx_ag 0 l j) :: r, h)
      | none => none
    | some (_, .inr (.inl (2, n, l))) => match sx_ix i n with
      | some j => some (none, ls, .int (sx_ag 0 l j) :: r, h)
      | none => none
    | _ => none
  | _ => none
noncomputable def sx_i40 : sx_I := fun _ ls st h => match st with
  | .int i :: v :: r => match sx_arr h v with
    | some (_, .inr (.inr (.inl (n, l)))) => match sx_ix i n with
      | some j => some (none, ls, .long (sx_ag 0 l j) :: r, h)
      | none => none
    | _ => none
  | _ => none
noncomputable def sx_i41 : sx_I := fun _ ls st h => match st with
  | .int i :: v :: r => match sx_arr h v with
    | some (_, .inr (.inr (.inr (_, n, l)))) => match sx_ix i n with
      | some j => some (none, ls, va_rf (sx_ag none l j) :: r, h)
      | none => none
    | _ => none
  | _ => none
noncomputable def sx_i42 : sx_I := fun _ ls st h => match st with
  | .int x :: .int i :: v :: r => match sx_arr h v with
    | some (k, .inr (.inl (0, n, l))) => match sx_ix i n with
      | some j => sx_frc (sx_ag 0 l j) (some (none, ls, r, sx_set h k (.inr (.inl (0, n, sx_as 0 l j x)))))
      | none => none
    | _ => none
  | _ => none
noncomputable def sx_i43 : sx_I := fun _ ls st h => match st with
  | .int x :: .int i :: v :: r => match sx_arr h v with
    | some (k, .inr (.inl (1, n, l))) => match sx_ix i n with
      | some j => sx_frc (sx_ag 0 l j) (some (none, ls, r, sx_set h k (.inr (.inl (1, n, sx_as 0 l j (vp_nar .boolean x))))))
      | none => none
    | some (k, .inr (.inl (2, n, l))) => match sx_ix i n with
      | some j => sx_frc (sx_ag 0 l j) (some (none, ls, r, sx_set h k (.inr (.inl (2, n, sx_as 0 l j (vp_nar .byte x))))))
      | none => none
    | _ => none
  | _ => none
noncomputable def sx_i44 : sx_I := fun _ ls st h => match st with
  | .long x :: .int i :: v :: r => match sx_arr h v with
    | some (k, .inr (.inr (.inl (n, l)))) => match sx_ix i n with
      | some j => some (none, ls, r, sx_set h k (.inr (.inr (.inl (n, sx_as 0 l j x)))))
      | none => none
    | _ => none
  | _ => none
noncomputable def sx_i45 : sx_I := fun _ ls st h => match st with
  | .ref (q + 1) :: .int i :: v :: r => match sx_arr h v, sx_get h q with
    | some (k, .inr (.inr (.inr (ci, n, l)))), some (.inl o) => bif Nat.beq o.1 ci then (match sx_ix i n with
      | some j => some (none, ls, r, sx_set h k (.inr (.inr (.inr (ci, n, sx_as none l j (some (q + 1)))))))
      | none => none) else none
    | _, _ => none
  | _ => none
noncomputable def sx_i46 : sx_I := fun en ls st h => match st with
  | v :: r => match sx_arr h v with
    | some (_, .inl (ci, fs)) => bif Nat.beq ci en.2.1 then (match sx_lo fs en.2.2.1 with
      | some w => some (none, ls, w :: r, h)
      | none => none) else none
    | _ => none
  | _ => none
/-- whether a value may stand in a field: of ints (0), booleans (1), references (2) -/
def sx_pv (f : Nat) (v : Value) : Bool := match v with
  | .int x => bif Nat.beq f 0 then true else Nat.beq f 1 && (decide (x = 0) || decide (x = 1))
  | .ref _ => Nat.beq f 2
  | _ => false
noncomputable def sx_i47 : sx_I := fun en ls st h => match st with
  | w :: v :: r => match sx_arr h v with
    | some (k, .inl (ci, fs)) => bif Nat.beq ci en.2.1 && Nat.blt (en.2.2.1 % 1000) fs.length && sx_pv (en.2.2.1 / 1000) w then some (none, ls, r, sx_set h k (.inl (ci, sx_lset w w fs (en.2.2.1 % 1000)))) else none
    | _ => none
  | _ => none
def sx_i48 (lim : Nat × Nat) (D : Nat → List Value) : sx_I := fun en ls st h => sx_new lim ls st h (D en.2.1).length (.inl (en.2.1, D en.2.1))
/-- a new array of ints (0), booleans (1), bytes (2) -/
def sx_nar (lim : Nat × Nat) (t : Nat) : sx_I := fun _ ls st h => match st with
  | .int x :: r => match sx_ix x 134217729 with
    | some n => sx_new lim ls r h n (.inr (.inl (t, n, [])))
    | none => none
  | _ => none
def sx_i52 (lim : Nat × Nat) : sx_I := fun _ ls st h => match st with
  | .int x :: r => match sx_ix x 67108865 with
    | some n => sx_new lim ls r h n (.inr (.inr (.inl (n, []))))
    | none => none
  | _ => none
def sx_i53 (lim : Nat × Nat) : sx_I := fun en ls st h => match st with
  | .int x :: r => match sx_ix x 134217729 with
    | some n => sx_new lim ls r h n (.inr (.inr (.inr (en.2.1, n, []))))
    | none => none
  | _ => none
def sx_i54 : sx_I := fun _ ls st h => match st with
  | .ref _ :: r => bif Nat.ble (r.map fun v => v.category).sum 8 then some (none, ls, r, h) else none
  | _ => none
/-- the first m of f behind sp, laid over g at dp -/
noncomputable def sx_cpy (f g : List (List Int32)) (sp dp m : Nat) : List (List Int32) := Nat.rec g (fun k r => sx_as 0 r (dp + k) (sx_ag 0 f (sp + k))) m
noncomputable def sx_i55 : sx_I := fun _ ls st h => match st with
  | .int n :: .int dp :: w :: .int sp :: v :: r => match sx_arr h v, sx_arr h w with
    | some (_, .inr (.inl (0, n0, f))), some (k, .inr (.inl (0, n1, g))) => match sx_ix sp 134217729, sx_ix dp 134217729, sx_ix n 134217729 with
      | some s1, some d1, some m1 => bif Nat.ble (s1 + m1) n0 && Nat.ble (d1 + m1) n1 && Nat.ble (r.map fun v => v.category).sum 8 then some (none, ls, r, sx_set h k (.inr (.inl (0, n1, sx_cpy f g s1 d1 m1)))) else none
      | _, _, _ => none
    | _, _ => none
  | _ => none
def sx_no : sx_I := fun _ _ _ _ => none
noncomputable def sx_g0 (lim : Nat × Nat) (D : Nat → List Value) (S : List Int32) (cd : List (List sx_N)) (o : Nat) : sx_I := (bif Nat.blt o 4 then (bif Nat.blt o 2 then (bif Nat.blt o 1 then sx_i0 else sx_i1) else (bif Nat.blt o 3 then sx_i2 else sx_i3)) else (bif Nat.blt o 6 then (bif Nat.blt o 5 then sx_i4 else sx_i5) else (bif Nat.blt o 7 then sx_i6 else sx_i7)))
noncomputable def sx_g1 (lim : Nat × Nat) (D : Nat → List Value) (S : List Int32) (cd : List (List sx_N)) (o : Nat) : sx_I := (bif Nat.blt o 12 then (bif Nat.blt o 10 then (bif Nat.blt o 9 then sx_i8 else sx_bin (fun x y => x + y)) else (bif Nat.blt o 11 then sx_bin (fun x y => x - y) else sx_bin (fun x y => x * y))) else (bif Nat.blt o 14 then (bif Nat.blt o 13 then sx_bin (fun x y => x &&& y) else sx_bin (fun x y => x ||| y)) else (bif Nat.blt o 15 then sx_bin (fun x y => x ^^^ y) else sx_bin (fun x y => x <<< (y &&& 31)))))
noncomputable def sx_g2 (lim : Nat × Nat) (D : Nat → List Value) (S : List Int32) (cd : List (List sx_N)) (o : Nat) : sx_I := (bif Nat.blt o 20 then (bif Nat.blt o 18 then (bif Nat.blt o 17 then sx_bin (fun x y => x >>> (y &&& 31)) else sx_bin (fun x y => (x.toUInt32 >>> (y.toUInt32 &&& Int32.toUInt32 31)).toInt32)) else (bif Nat.blt o 19 then sx_div (fun x y => x / y) else sx_div (fun x y => x - x / y * y))) else (bif Nat.blt o 22 then (bif Nat.blt o 21 then sx_i20 else sx_i21) else (bif Nat.blt o 23 then sx_i22 else sx_if1 (fun x => decide (x = 0)))))
noncomputable def sx_g3 (lim : Nat × Nat) (D : Nat → List Value) (S : List Int32) (cd : List (List sx_N)) (o : Nat) : sx_I := (bif Nat.blt o 28 then (bif Nat.blt o 26 then (bif Nat.blt o 25 then sx_if1 (fun x => decide (¬ x = 0)) else sx_if1 (fun x => decide (x < 0))) else (bif Nat.blt o 27 then sx_if1 (fun x => decide (0 ≤ x)) else sx_if1 (fun x => decide (0 < x)))) else (bif Nat.blt o 30 then (bif Nat.blt o 29 then sx_if1 (fun x => decide (x ≤ 0)) else sx_if2 (fun x y => decide (x = y))) else (bif Nat.blt o 31 then sx_if2 (fun x y => decide (¬ x = y)) else sx_if2 (fun x y => decide (x < y)))))
noncomputable def sx_g4 (lim : Nat × Nat) (D : Nat → List Value) (S : List Int32) (cd : List (List sx_N)) (o : Nat) : sx_I := (bif Nat.blt o 36 then (bif Nat.blt o 34 then (bif Nat.blt o 33 then sx_if2 (fun x y => decide (y ≤ x)) else sx_if2 (fun x y => decide (y < x))) else (bif Nat.blt o 35 then sx_if2 (fun x y => decide (x ≤ y)) else sx_i35)) else (bif Nat.blt o 38 then (bif Nat.blt o 37 then sx_i36 cd else sx_i37 S) else (bif Nat.blt o 39 then sx_i38 S else sx_i39)))
noncomputable def sx_g5 (lim : Nat × Nat) (D : Nat → List Value) (S : List Int32) (cd : List (List sx_N)) (o : Nat) : sx_I := (bif Nat.blt o 44 then (bif Nat.blt o 42 then (bif Nat.blt o 41 then sx_i40 else sx_i41) else (bif Nat.blt o 43 then sx_i42 else sx_i43)) else (bif Nat.blt o 46 then (bif Nat.blt o 45 then sx_i44 else sx_i45) else (bif Nat.blt o 47 then sx_i46 else sx_i47)))
noncomputable def sx_g6 (lim : Nat × Nat) (D : Nat → List Value) (S : List Int32) (cd : List (List sx_N)) (o : Nat) : sx_I := (bif Nat.blt o 52 then (bif Nat.blt o 50 then (bif Nat.blt o 49 then sx_i48 lim D else sx_nar lim 0) else (bif Nat.blt o 51 then sx_nar lim 1 else sx_nar lim 2)) else (bif Nat.blt o 54 then (bif Nat.blt o 53 then sx_i52 lim else sx_i53 lim) else (bif Nat.blt o 55 then sx_i54 else sx_i55)))
/-- the instructions that are no call, no return, no throw. D: the fields that a new object of a class has, S: the script, cd: the method's code -/
noncomputable def sx_step (lim : Nat × Nat) (D : Nat → List Value) (S : List Int32) (cd : List (List sx_N)) (o : Nat) : sx_I := (bif Nat.blt o 32 then (bif Nat.blt o 16 then (bif Nat.blt o 8 then sx_g0 lim D S cd o else sx_g1 lim D S cd o) else (bif Nat.blt o 24 then sx_g2 lim D S cd o else sx_g3 lim D S cd o)) else (bif Nat.blt o 48 then (bif Nat.blt o 40 then sx_g4 lim D S cd o else sx_g5 lim D S cd o) else (bif Nat.blt o 56 then sx_g6 lim D S cd o else sx_no)))
/-- what a method answers, or the cell of what it throws -/
abbrev sx_R : Type := (Option Value ⊕ Nat) × sx_H
/-- n values off the stack, the deepest first -/
noncomputable def sx_args (n : Nat) : List Value → List Value → Option (List Value × List Value) := Nat.rec (fun st a => some (a, st)) (fun _ ih st a => List.casesOn st none (fun v r => ih r (v :: a))) n
noncomputable def sx_locs (l : List Value) : Nat → sx_L := List.rec (fun _ => []) (fun v _ ih i => (i, v) :: ih (i + 1)) l
def sx_r0 (rk : Nat) (st : List Value) : Option (Option Value) := match st with
  | [] => bif Nat.beq rk 0 then some none else none
  | _ => none
def sx_r1 (rk : Nat) (st : List Value) : Option (Option Value) := match st with
  | [.int x] => bif Nat.beq rk 1 then some (some (.int x)) else bif Nat.beq rk 2 && (decide (x = 0) || decide (x = 1)) then some (some (.int x)) else none
  | _ => none
def sx_r2 (rk : Nat) (st : List Value) : Option (Option Value) := match st with
  | [.ref x] => bif Nat.beq rk 3 then some (some (.ref x)) else none
  | _ => none
noncomputable def sx_hand (l : List (Nat × Nat × Nat × Nat)) (pc ci : Nat) : Option Nat := List.rec none (fun q _ ih => bif Nat.ble q.1 pc && Nat.blt pc q.2.1 && Nat.beq q.2.2.2 ci then some q.2.2.1 else ih) l
/-- the receiver is an object of the method's class -/
noncomputable def sx_recv (o ci : Nat) (h : sx_H) (as : List Value) : Bool := bif Nat.beq o 58 then true else match as with
  | v :: _ => match sx_arr h v with
    | some (_, .inl o) => Nat.beq o.1 ci
    | _ => false
  | [] => false
abbrev sx_F : Type := Nat → Nat → sx_L → List Value → sx_H → Option sx_R
noncomputable def sx_plain (lim : Nat × Nat) (D : Nat → List Value) (S : List Int32) (go : sx_F) (j i : Nat) (M : sx_Mt) (en : sx_N) (ls : sx_L) (st : List Value) (h : sx_H) : Option sx_R := match sx_step lim D S M.2.2.2.2 en.1 en ls st h with
  | none => none
  | some (t, ls1, st1, h1) => go j (t.getD (i + 1)) ls1 st1 h1
noncomputable def sx_thrown (go : sx_F) (j : Nat) (M : sx_Mt) (en : sx_N) (ls : sx_L) (x : Nat) (h1 : sx_H) : Option sx_R := match M.2.2.2.1 with
  | [] => some (.inr x, h1)
  | _ :: _ => match sx_get h1 x with
    | some (.inl o) => match sx_hand M.2.2.2.1 en.2.2.2.1 o.1 with
      | some t => go j t ls [.ref (x + 1)] h1
      | none => none
    | _ => none
noncomputable def sx_call (lim : Nat × Nat) (P : Nat → Option sx_Mt) (go : sx_F) (j i : Nat) (M : sx_Mt) (en : sx_N) (ls : sx_L) (st : List Value) (h : sx_H) : Option sx_R := match sx_args en.2.2.1 st [], P en.2.1 with
  | some (as, rest), some N => bif Nat.ble (rest.map fun v => v.category).sum 8 && as.all (fun v => Nat.beq v.category 1) && sx_recv en.1 N.2.1 h as && (Nat.ble h.1 lim.1 && Nat.ble h.2.1 lim.2) then (match go en.2.1 0 (sx_locs as 0) [] h with
    | some (.inl v, h1) => go j (i + 1) ls (v.toList ++ rest) h1
    | some (.inr x, h1) => sx_thrown go j M en ls x h1
    | none => none) else none
  | _, _ => none
def sx_ends (h : sx_H) (v : Option (Option Value)) : Option sx_R := match v with
  | some w => some (.inl w, h)
  | none => none
noncomputable def sx_special (lim : Nat × Nat) (P : Nat → Option sx_Mt) (go : sx_F) (j i : Nat) (M : sx_Mt) (en : sx_N) (ls : sx_L) (st : List Value) (h : sx_H) : Option sx_R :=
  bif Nat.blt en.1 59 then sx_call lim P go j i M en ls st h else
  bif Nat.blt en.1 61 then (bif Nat.beq en.1 59 then sx_ends h (sx_r0 M.2.2.1 st) else sx_ends h (sx_r1 M.2.2.1 st)) else
  bif Nat.beq en.1 61 then sx_ends h (sx_r2 M.2.2.1 st) else
  bif Nat.beq en.1 62 then (bif Nat.blt h.1 lim.1 && Nat.ble (h.2.1 + 6) lim.2 && Nat.ble (st.map fun v => v.category).sum 8 then some (.inr h.1, sx_push h 6 (.inl (en.2.1, []))) else none) else none
/-- one instruction of method j, at place i; 'go' runs the rest -/
noncomputable def sx_body (lim : Nat × Nat) (P : Nat → Option sx_Mt) (D : Nat → List Value) (S : List Int32) (go : sx_F) : sx_F := fun j i ls st h => match P j with
  | none => none
  | some M => match sx_at M.2.2.2.2 i with
    | none => none
    | some en => bif Nat.blt en.1 56 then sx_plain lim D S go j i M en ls st h else sx_special lim P go j i M en ls st h
noncomputable def sx_exec (lim : Nat × Nat) (P : Nat → Option sx_Mt) (D : Nat → List Value) (S : List Int32) (n : Nat) : sx_F := Nat.rec (fun _ _ _ _ _ => none) (fun _ go => sx_body lim P D S go) n
theorem sx_exec_succ (lim : Nat × Nat) (P : Nat → Option sx_Mt) (D : Nat → List Value) (S : List Int32) (n : Nat) : sx_exec lim P D S (n + 1) = sx_body lim P D S (sx_exec lim P D S n) := rfl
end
section
/-! ===== what SI's lists say ===== -/
theorem sx_lo_eq {α : Type} (l : List α) : ∀ n : Nat, sx_lo l n = l[n]? := by
  induction l with
  | nil => intro n; cases n <;> rfl
  | cons a t ih =>
    intro n
    cases n with
    | zero => rfl
    | succ n =>
      show sx_lo t n = _
      rw [ih n]
      simp
theorem sx_lg_lset {α : Type} (d x : α) (l : List α) : ∀ n m : Nat, sx_lg d (sx_lset d x l n) m = if m = n then x else sx_lg d l m := by
  induction l with
  | nil =>
    intro n
    induction n with
    | zero =>
      intro m
      cases m with
      | zero => rfl
      | succ m => rw [if_neg (Nat.succ_ne_zero m)]; rfl
    | succ n ih =>
      intro m
      cases m with
      | zero => rw [if_neg (by omega)]; rfl
      | succ m =>
        have h1 : sx_lg d (sx_lset d x [] (n + 1)) (m + 1) = sx_lg d (sx_lset d x [] n) m := rfl
        rw [h1, ih m]
        by_cases h : m = n
        · rw [if_pos h, if_pos (by omega)]
        · rw [if_neg h, if_neg (by omega)]; rfl
  | cons a t ih =>
    intro n m
    cases n with
    | zero =>
      cases m with
      | zero => rfl
      | succ m => rw [if_neg (Nat.succ_ne_zero m)]; rfl
    | succ n =>
      cases m with
      | zero => rw [if_neg (by omega)]; rfl
      | succ m =>
        have h1 : sx_lg d (sx_lset d x (a :: t) (n + 1)) (m + 1) = sx_lg d (sx_lset d x t n) m := rfl
        have h2 : sx_lg d (a :: t) (m + 1) = sx_lg d t m := rfl
        rw [h1, h2, ih n m]
        by_cases h : m = n
        · rw [if_pos h, if_pos (by omega)]
        · rw [if_neg h, if_neg (by omega)]
theorem sx_ag_as {α : Type} (d x : α) (l : List (List α)) (i j : Nat) : sx_ag d (sx_as d l i x) j = if j = i then x else sx_ag d l j := by
  unfold sx_ag sx_as
  rw [sx_lg_lset]
  by_cases h : j / 32 = i / 32
  · rw [if_pos h, sx_lg_lset, ← h]
    by_cases h2 : j % 32 = i % 32
    · rw [if_pos h2, if_pos (by omega)]
    · rw [if_neg h2, if_neg (fun e => h2 (by rw [e]))]
  · rw [if_neg h, if_neg (fun e => h (by rw [e]))]
theorem sx_as_upd (l : List (List Int32)) (i : Nat) (x : Int32) : (fun j => sx_ag 0 (sx_as 0 l i x) j) = upd (fun j => sx_ag 0 l j) i x := by
  funext j
  rw [sx_ag_as]
  rfl
theorem sx_lset_len {α : Type} (d x : α) (l : List α) : ∀ n : Nat, n < l.length → (sx_lset d x l n).length = l.length := by
  induction l with
  | nil => intro n h; exact absurd h (Nat.not_lt_zero n)
  | cons a t ih =>
    intro n h
    cases n with
    | zero => rfl
    | succ n =>
      show (sx_lset d x t n).length + 1 = t.length + 1
      rw [ih n (Nat.lt_of_succ_lt_succ h)]
theorem sx_lset_at {α : Type} (d x : α) (l : List α) : ∀ n : Nat, n < l.length → ∀ m : Nat, (sx_lset d x l n)[m]? = if m = n then some x else l[m]? := by
  induction l with
  | nil => intro n h; exact absurd h (Nat.not_lt_zero n)
  | cons a t ih =>
    intro n h m
    cases n with
    | zero =>
      show (x :: t)[m]? = _
      cases m with
      | zero => simp
      | succ m => rw [if_neg (Nat.succ_ne_zero m)]; simp
    | succ n =>
      show (a :: sx_lset d x t n)[m]? = _
      cases m with
      | zero => rw [if_neg (by omega)]; simp
      | succ m =>
        rw [List.getElem?_cons_succ, ih n (Nat.lt_of_succ_lt_succ h) m, List.getElem?_cons_succ]
        by_cases h2 : m = n
        · rw [if_pos h2, if_pos (by omega)]
        · rw [if_neg h2, if_neg (by omega)]
theorem sx_get_eq (h : sx_H) (k : Nat) : sx_get h k = if k < h.1 then h.2.2[h.1 - 1 - k]? else none := by
  unfold sx_get
  rw [sx_lo_eq]
  by_cases q : k < h.1
  · rw [if_pos q, show Nat.blt k h.1 = true from by rw [Nat.blt_eq]; exact q]; rfl
  · rw [if_neg q, show Nat.blt k h.1 = false from by rw [Bool.eq_false_iff, Ne, Nat.blt_eq]; exact q]; rfl
theorem sx_get_lt {h : sx_H} {k : Nat} {c : sx_C} (e : sx_get h k = some c) : k < h.1 := by
  rw [sx_get_eq] at e
  by_cases q : k < h.1
  · exact q
  · rw [if_neg q] at e; cases e
theorem sx_get_set {h : sx_H} (w : h.1 = h.2.2.length) {k : Nat} (hk : k < h.1) (c : sx_C) (j : Nat) : sx_get (sx_set h k c) j = if j = k then some c else sx_get h j := by
  rw [sx_get_eq, sx_get_eq]
  show (if j < h.1 then (sx_lset c c h.2.2 (h.1 - 1 - k))[h.1 - 1 - j]? else none) = _
  rw [sx_lset_at c c h.2.2 _ (by omega)]
  by_cases q : j < h.1
  · rw [if_pos q, if_pos q]
    by_cases e : j = k
    · rw [if_pos e, if_pos (by rw [e])]
    · rw [if_neg e, if_neg (by omega)]
  · rw [if_neg q, if_neg q, if_neg (by omega)]
theorem sx_set_len {h : sx_H} (w : h.1 = h.2.2.length) {k : Nat} (hk : k < h.1) (c : sx_C) : (sx_set h k c).1 = (sx_set h k c).2.2.length := by
  show h.1 = (sx_lset c c h.2.2 (h.1 - 1 - k)).length
  rw [sx_lset_len c c h.2.2 _ (by omega)]
  exact w
theorem sx_get_push {h : sx_H} (w : h.1 = h.2.2.length) (n : Nat) (c : sx_C) (j : Nat) : sx_get (sx_push h n c) j = if j = h.1 then some c else sx_get h j := by
  rw [sx_get_eq, sx_get_eq]
  show (if j < h.1 + 1 then (c :: h.2.2)[h.1 + 1 - 1 - j]? else none) = _
  by_cases e : j = h.1
  · rw [if_pos e, if_pos (by omega), show h.1 + 1 - 1 - j = 0 by omega]; rfl
  · rw [if_neg e]
    by_cases q : j < h.1
    · rw [if_pos q, if_pos (by omega), show h.1 + 1 - 1 - j = (h.1 - 1 - j) + 1 by omega, List.getElem?_cons_succ]
    · rw [if_neg q, if_neg (by omega)]
theorem sx_lk_mem {l : sx_L} {i : Nat} {v : Value} (h : sx_lk l i = some v) : (i, v) ∈ l := by
  induction l with
  | nil => cases h
  | cons q t ih =>
    have e : sx_lk (q :: t) i = bif Nat.beq q.1 i then some q.2 else sx_lk t i := rfl
    rw [e] at h
    cases hb : Nat.beq q.1 i with
    | true =>
      rw [hb] at h
      have h1 : q.1 = i := Nat.eq_of_beq_eq_true hb
      have h2 : q.2 = v := Option.some.inj h
      rw [← h1, ← h2]
      exact List.mem_cons_self
    | false => rw [hb] at h; exact List.mem_cons_of_mem _ (ih h)
noncomputable def sx_stf (ls : sx_L) (i : Nat) : sx_L := List.rec [] (fun q _ ih => bif Nat.beq q.1 i || Nat.beq q.2.category 2 then ih else q :: ih) ls
theorem sx_stf_mem {ls : sx_L} {i : Nat} {q : Nat × Value} (h : q ∈ sx_stf ls i) : q ∈ ls ∧ q.1 ≠ i ∧ q.2.category ≠ 2 := by
  induction ls with
  | nil => cases h
  | cons a t ih =>
    have h : q ∈ (bif Nat.beq a.1 i || Nat.beq a.2.category 2 then sx_stf t i else a :: sx_stf t i) := h
    cases hb : (Nat.beq a.1 i || Nat.beq a.2.category 2) with
    | true =>
      rw [hb] at h
      obtain ⟨h1, h2⟩ := ih h
      exact ⟨List.mem_cons_of_mem _ h1, h2⟩
    | false =>
      rw [hb] at h
      rcases List.mem_cons.mp h with e | h
      · subst e
        rw [Bool.or_eq_false_iff] at hb
        exact ⟨List.mem_cons_self, Nat.ne_of_beq_eq_false hb.1, Nat.ne_of_beq_eq_false hb.2⟩
      · obtain ⟨h1, h2⟩ := ih h
        exact ⟨List.mem_cons_of_mem _ h1, h2⟩
theorem sx_st_mem {ls : sx_L} {i : Nat} {v : Value} {q : Nat × Value} (h : q ∈ sx_st ls i v) : q = (i, v) ∨ (q ∈ ls ∧ q.1 ≠ i ∧ q.2.category ≠ 2) := by
  rcases List.mem_cons.mp h with e | h
  · exact Or.inl e
  · exact Or.inr (sx_stf_mem h)
theorem sx_ix_eq {i : Int32} {n j : Nat} (h : sx_ix i n = some j) : j < n ∧ i = nI j ∧ j < 2 ^ 31 := by
  unfold sx_ix at h
  cases hb : (Nat.blt i.toBitVec.toNat n && Nat.blt i.toBitVec.toNat 2147483648) with
  | false => rw [hb] at h; cases h
  | true =>
    rw [hb] at h
    have e : i.toBitVec.toNat = j := Option.some.inj h
    rw [Bool.and_eq_true, Nat.blt_eq, Nat.blt_eq, e] at hb
    refine ⟨hb.1, ?_, hb.2⟩
    apply Int32.toBitVec_inj.mp
    apply BitVec.eq_of_toNat_eq
    rw [e, pk_tn (by omega)]
theorem sx_frc_eq {α : Type} (x : Int32) (y : Option α) : sx_frc x y = y := by
  unfold sx_frc
  have h : Nat.beq x.toBitVec.toNat 4294967296 = false := by
    rw [Bool.eq_false_iff]
    intro q
    have h1 := Nat.eq_of_beq_eq_true q
    have h2 := x.toBitVec.isLt
    omega
  rw [h]; rfl
end
section
/-! ===== SF: SI with some ints unknown. A value: known; or the number of a variable (0 to 5: the script's ints; 6: the lowest five bits of the first), 7 and above: some int. A cell: an object (its class, its fields in rows of 8); an array of ints, booleans or bytes (kind, length, contents: 32 bits each in one number); another one, known; or an array (kind, length) of contents unknown. The heap: four times eightfold. For each variable an interval, with 2 to the 31 added. ===== -/
abbrev sy_V : Type := Value ⊕ Nat
abbrev sy_C : Type := (Nat × List (List Value)) ⊕ ((Nat × Nat × Nat) ⊕ (sx_C ⊕ (Nat × Nat)))
abbrev sy_8 (α : Type) : Type := α × α × α × α × α × α × α × α
abbrev sy_K : Type := sy_8 (sy_8 (sy_8 (sy_8 (Option sy_C))))
abbrev sy_H : Type := Nat × Nat × sy_K
abbrev sy_E : Type := List (Nat × Nat)
abbrev sy_L : Type := List (Nat × sy_V)
def sy_b (x : Int32) : Nat := (x.toBitVec.toNat + 2147483648) % 4294967296
def sy_u (n : Nat) : Int32 := Int32.ofNat (n + 2147483648)
noncomputable def sy_of (E : sy_E) (k : Nat) : Nat × Nat := sx_lg (0, 4294967295) E k
noncomputable def sy_iv (E : sy_E) (v : sy_V) : Option (Nat × Nat) := match v with
  | .inl (.int x) => some (sy_b x, sy_b x)
  | .inr k => bif Nat.blt k 7 then some (sy_of E k) else none
  | _ => none
noncomputable def sy_c (E : sy_E) (v : sy_V) : Option Int32 := match v with
  | .inl (.int x) => some x
  | .inr k => bif Nat.blt k 7 && Nat.beq (sy_of E k).1 (sy_of E k).2 then some (sy_u (sy_of E k).1) else none
  | _ => none
def sy_isI (v : sy_V) : Bool := match v with
  | .inl (.int _) => true
  | .inr _ => true
  | _ => false
def sy_cat (v : sy_V) : Nat := match v with
  | .inl w => w.category
  | .inr _ => 1
noncomputable def sy_val (E : sy_E) (w : sy_V) : Option Value := match w with
  | .inl v => some v
  | .inr k => match sy_c E (.inr k) with
    | some x => some (.int x)
    | none => none
def sy_sel {α : Type} (t : sy_8 α) (i : Nat) : α := match t with
  | (a0, a1, a2, a3, a4, a5, a6, a7) => (bif Nat.ble 4 i then (bif Nat.ble 6 i then (bif Nat.ble 7 i then a7 else a6) else (bif Nat.ble 5 i then a5 else a4)) else (bif Nat.ble 2 i then (bif Nat.ble 3 i then a3 else a2) else (bif Nat.ble 1 i then a1 else a0)))
def sy_upd {α : Type} (t : sy_8 α) (i : Nat) (x : α) : sy_8 α := match t with
  | (a0, a1, a2, a3, a4, a5, a6, a7) => (bif Nat.ble 4 i then (bif Nat.ble 6 i then (bif Nat.ble 7 i then (a0, a1, a2, a3, a4, a5, a6, x) else (a0, a1, a2, a3, a4, a5, x, a7)) else (bif Nat.ble 5 i then (a0, a1, a2, a3, a4, x, a6, a7) else (a0, a1, a2, a3, x, a5, a6, a7))) else (bif Nat.ble 2 i then (bif Nat.ble 3 i then (a0, a1, a2, x, a4, a5, a6, a7) else (a0, a1, x, a3, a4, a5, a6, a7)) else (bif Nat.ble 1 i then (a0, x, a2, a3, a4, a5, a6, a7) else (x, a1, a2, a3, a4, a5, a6, a7))))
def sy_e1 : sy_8 (Option sy_C) := (none, none, none, none, none, none, none, none)
def sy_e2 : sy_8 (sy_8 (Option sy_C)) := (sy_e1, sy_e1, sy_e1, sy_e1, sy_e1, sy_e1, sy_e1, sy_e1)
def sy_e3 : sy_8 (sy_8 (sy_8 (Option sy_C))) := (sy_e2, sy_e2, sy_e2, sy_e2, sy_e2, sy_e2, sy_e2, sy_e2)
def sy_e4 : sy_K := (sy_e3, sy_e3, sy_e3, sy_e3, sy_e3, sy_e3, sy_e3, sy_e3)
def sy_get (T : sy_H) (k : Nat) : Option sy_C := bif Nat.ble 4096 k then none else sy_sel (sy_sel (sy_sel (sy_sel T.2.2 (Nat.div k 512)) (Nat.mod (Nat.div k 64) 8)) (Nat.mod (Nat.div k 8) 8)) (Nat.mod k 8)
def sy_p1 (l : sy_8 (Option sy_C)) (k : Nat) (c : sy_C) : sy_8 (Option sy_C) := sy_upd l (Nat.mod k 8) (some c)
def sy_p2 (l : sy_8 (sy_8 (Option sy_C))) (k : Nat) (c : sy_C) : sy_8 (sy_8 (Option sy_C)) := sy_upd l (Nat.mod (Nat.div k 8) 8) (sy_p1 (sy_sel l (Nat.mod (Nat.div k 8) 8)) k c)
def sy_p3 (l : sy_8 (sy_8 (sy_8 (Option sy_C)))) (k : Nat) (c : sy_C) : sy_8 (sy_8 (sy_8 (Option sy_C))) := sy_upd l (Nat.mod (Nat.div k 64) 8) (sy_p2 (sy_sel l (Nat.mod (Nat.div k 64) 8)) k c)
def sy_put (l : sy_K) (k : Nat) (c : sy_C) : sy_K := sy_upd l (Nat.div k 512) (sy_p3 (sy_sel l (Nat.div k 512)) k c)
/-- a place of a packed array -/
def sy_pg (A j : Nat) : Nat := Nat.mod (Nat.shiftRight A (Nat.mul 32 j)) 4294967296
def sy_ps (A j x : Nat) : Nat := Nat.sub (Nat.add A (Nat.shiftLeft x (Nat.mul 32 j))) (Nat.shiftLeft (sy_pg A j) (Nat.mul 32 j))
noncomputable def sy_pc (F G sp dp m : Nat) : Nat := Nat.rec G (fun k r => sy_ps r (Nat.add dp k) (sy_pg F (Nat.add sp k))) m
/-- a field of an object -/
noncomputable def sy_fd (f : List (List Value)) (b : Nat) : Option Value := sx_lo (sx_lg [] f (Nat.div b 8)) (Nat.mod b 8)
noncomputable def sy_fs (f : List (List Value)) (b : Nat) (w : Value) : List (List Value) := sx_lset [] (sx_lset w w (sx_lg [] f (Nat.div b 8)) (Nat.mod b 8)) f (Nat.div b 8)
def sy_set (T : sy_H) (k : Nat) (c : sy_C) : sy_H := (T.1, T.2.1, sy_put T.2.2 k c)
def sy_push (T : sy_H) (n : Nat) (c : sy_C) : sy_H := (T.1 + 1, T.2.1 + n, sy_put T.2.2 T.1 c)
noncomputable def sy_lk (l : sy_L) (i : Nat) : Option sy_V := List.rec none (fun q _ ih => bif Nat.beq q.1 i then some q.2 else ih) l
noncomputable def sy_stf (ls : sy_L) (i : Nat) : sy_L := List.rec [] (fun q _ ih => bif Nat.beq q.1 i || Nat.beq (sy_cat q.2) 2 then ih else q :: ih) ls
noncomputable def sy_st (ls : sy_L) (i : Nat) (v : sy_V) : sy_L := (i, v) :: sy_stf ls i
/-- x in a .. b, y in c .. d: whether they are as 0 (=), 1, 2 (<), 3, 4 (>), 5 says -/
def sy_dec (r a b c d : Nat) : Option Bool :=
  bif Nat.blt r 2 then (bif Nat.blt b c || Nat.blt d a then some (Nat.beq r 1) else bif Nat.beq a b && Nat.beq c d && Nat.beq a c then some (Nat.beq r 0) else none) else
  bif Nat.blt r 4 then (bif Nat.blt b c then some (Nat.beq r 2) else bif Nat.ble d a then some (Nat.beq r 3) else none) else
  (bif Nat.blt d a then some (Nat.beq r 4) else bif Nat.ble b c then some (Nat.beq r 5) else none)
abbrev sy_O : Type := Option Nat × sy_L × List sy_V × sy_H
abbrev sy_I : Type := sx_N → sy_E → sy_L → List sy_V → sy_H → Option sy_O
noncomputable def sy_new (lim : Nat × Nat) (ls : sy_L) (st : List sy_V) (T : sy_H) (n : Nat) (c : sy_C) : Option sy_O := bif Nat.blt T.1 lim.1 && Nat.ble (T.2.1 + n) lim.2 && Nat.ble (T.1 + 1) 4096 then some (none, ls, .inl (.ref (T.1 + 1)) :: st, sy_push T n c) else none
def sy_i0 : sy_I := fun en _ ls st T => some (none, ls, .inl (.int (Int32.ofNat en.2.1)) :: st, T)
noncomputable def sy_i1 : sy_I := fun en _ ls st T => match sy_lk ls en.2.1 with
  | some (.inl (.int x)) => some (none, ls, .inl (.int x) :: st, T)
  | some (.inr k) => some (none, ls, .inr k :: st, T)
  | _ => none
noncomputable def sy_i2 : sy_I := fun en _ ls st T => match sy_lk ls en.2.1 with
  | some (.inl (.ref x)) => some (none, ls, .inl (.ref x) :: st, T)
  | _ => none
noncomputable def sy_i3 : sy_I := fun en _ ls st T => match st with
  | .inl (.int x) :: r => some (none, sy_st ls en.2.1 (.inl (.int x)), r, T)
  | .inr k :: r => some (none, sy_st ls en.2.1 (.inr k), r, T)
  | _ => none
noncomputable def sy_i4 : sy_I := fun en _ ls st T => match st with
  | .inl (.ref x) :: r => some (none, sy_st ls en.2.1 (.inl (.ref x)), r, T)
  | _ => none
noncomputable def sy_i5 : sy_I := fun en E ls st T => match sy_lk ls en.2.1 with
  | some v => match sy_c E v with
    | some x => some (none, sy_st ls en.2.1 (.inl (.int (x + Int32.ofNat en.2.2.1))), st, T)
    | none => none
  | none => none
def sy_i6 : sy_I := fun _ _ ls st T => match st with
  | v :: r => bif Nat.beq (sy_cat v) 1 then some (none, ls, r, T) else none
  | _ => none
def sy_i7 : sy_I := fun _ _ ls st T => match st with
  | v :: r => bif Nat.beq (sy_cat v) 1 then some (none, ls, v :: v :: r, T) else none
  | _ => none
def sy_i8 : sy_I := fun _ _ ls st T => match st with
  | v :: w :: r => bif Nat.beq (sy_cat v) 1 && Nat.beq (sy_cat w) 1 then some (none, ls, v :: w :: v :: w :: r, T) else none
  | _ => none
noncomputable def sy_bin (f : Int32 → Int32 → Int32) : sy_I := fun _ E ls st T => match st with
  | y :: x :: r => match sy_c E x, sy_c E y with
    | some x1, some y1 => some (none, ls, .inl (.int (f x1 y1)) :: r, T)
    | _, _ => bif sy_isI x && sy_isI y then some (none, ls, .inr 9 :: r, T) else none
  | _ => none
noncomputable def sy_and : sy_I := fun en E ls st T => match st with
  | .inl (.int c) :: .inr 0 :: r => bif decide (c = 31) then some (none, ls, .inr 6 :: r, T) else none
  | _ => sy_bin (fun x y => x &&& y) en E ls st T
noncomputable def sy_div (f : Int32 → Int32 → Int32) : sy_I := fun _ E ls st T => match st with
  | y :: x :: r => match sy_c E x, sy_c E y with
    | some x1, some y1 => if y1 = 0 then none else some (none, ls, .inl (.int (f x1 y1)) :: r, T)
    | _, _ => none
  | _ => none
noncomputable def sy_i20 : sy_I := fun _ E ls st T => match st with
  | x :: r => match sy_c E x with
    | some x1 => some (none, ls, .inl (.long x1.toInt64) :: r, T)
    | none => none
  | _ => none
noncomputable def sy_i21 : sy_I := fun _ E ls st T => match st with
  | x :: r => match sy_c E x with
    | some x1 => some (none, ls, .inl (.int x1.toInt8.toInt32) :: r, T)
    | none => bif sy_isI x then some (none, ls, .inr 9 :: r, T) else none
  | _ => none
def sy_i22 : sy_I := fun _ _ ls st T => match st with
  | .inl (.long y) :: .inl (.long x) :: r => some (none, ls, .inl (.int (lg_cmp x y)) :: r, T)
  | _ => none
noncomputable def sy_if1 (r : Nat) : sy_I := fun en E ls st T => match st with
  | x :: s => match sy_iv E x with
    | some (a, b) => match sy_dec r a b 2147483648 2147483648 with
      | some q => some (bif q then some en.2.1 else none, ls, s, T)
      | none => none
    | none => none
  | _ => none
noncomputable def sy_if2 (r : Nat) : sy_I := fun en E ls st T => match st with
  | y :: x :: s => match sy_iv E x, sy_iv E y with
    | some (a, b), some (c, d) => match sy_dec r a b c d with
      | some q => some (bif q then some en.2.1 else none, ls, s, T)
      | none => none
    | _, _ => none
  | _ => none
def sy_i35 : sy_I := fun en _ ls st T => some (some en.2.1, ls, st, T)
noncomputable def sy_i36 (cd : List (List sx_N)) : sy_I := fun en E ls st T => match en.2.2.2.2.2, st with
  | .tableswitch d lo hi offs, x :: r => match sy_c E x with
    | some x1 => match sx_sw cd en.2.2.2.1 d lo hi offs x1 with
      | some t => some (some t, ls, r, T)
      | none => none
    | none => match sy_iv E x with
      | some (a, b) => bif Nat.blt b (lo + 2147483648).toNat || Nat.blt (hi + 2147483648).toNat a then (match sx_to cd ((en.2.2.2.1 : Int) + d) with
        | some t => some (some t, ls, r, T)
        | none => none) else none
      | none => none
  | _, _ => none
noncomputable def sy_arr (T : sy_H) (v : sy_V) : Option (Nat × sy_C) := match v with
  | .inl (.ref (k + 1)) => match sy_get T k with
    | some c => some (k, c)
    | none => none
  | _ => none
noncomputable def sy_i37 (q : Nat) : sy_I := fun _ _ ls st T => match st with
  | .inl (.ref 0) :: r => bif Nat.beq q 99 then none else some (none, ls, .inl (.int (Int32.ofNat q)) :: r, T)
  | v :: r => match sy_arr T v with
    | some (_, .inr (.inl a)) => some (none, ls, .inl (.int (Int32.ofNat a.2.1)) :: r, T)
    | some (_, .inr (.inr (.inl (.inr (.inr (.inr a)))))) => some (none, ls, .inl (.int (Int32.ofNat a.2.1)) :: r, T)
    | some (_, .inr (.inr (.inr a))) => some (none, ls, .inl (.int (Int32.ofNat a.2)) :: r, T)
    | _ => none
  | _ => none
/-- an index -/
noncomputable def sy_ix (E : sy_E) (i : sy_V) (n : Nat) : Option Nat := match sy_c E i with
  | some x => sx_ix x n
  | none => none
noncomputable def sy_ald1 (ls : sy_L) (r : List sy_V) (T : sy_H) (A : Nat) (o : Option Nat) : Option sy_O := match o with
  | some j => some (none, ls, .inl (.int (Int32.ofNat (sy_pg A j))) :: r, T)
  | none => none
noncomputable def sy_ald2 (ls : sy_L) (r : List sy_V) (T : sy_H) (o : Option Nat) : Option sy_O := match o with
  | some _ => some (none, ls, .inr 9 :: r, T)
  | none => none
noncomputable def sy_ald (E : sy_E) (i : sy_V) (ls : sy_L) (r : List sy_V) (T : sy_H) (o : Option (Nat × sy_C)) : Option sy_O := match o with
  | some (_, .inr (.inl (0, n, A))) => sy_ald1 ls r T A (sy_ix E i n)
  | some (_, .inr (.inr (.inr (0, n)))) => sy_ald2 ls r T (sy_ix E i n)
  | _ => none
noncomputable def sy_i38 (q : Nat) : sy_I := fun _ E ls st T => match st with
  | i :: .inl (.ref 0) :: r => bif Nat.beq q 99 then none else (match sy_ix E i q with
    | some j => some (none, ls, .inr j :: r, T)
    | none => none)
  | i :: v :: r => sy_ald E i ls r T (sy_arr T v)
  | _ => none
noncomputable def sy_i39 : sy_I := fun _ E ls st T => match st with
  | i :: v :: r => match sy_arr T v with
    | some (_, .inr (.inl (1, n, A))) => sy_ald1 ls r T A (sy_ix E i n)
    | some (_, .inr (.inl (2, n, A))) => sy_ald1 ls r T A (sy_ix E i n)
    | _ => none
  | _ => none
noncomputable def sy_i40 : sy_I := fun _ E ls st T => match st with
  | i :: v :: r => match sy_arr T v with
    | some (_, .inr (.inr (.inl (.inr (.inr (.inl (n, l))))))) => match sy_ix E i n with
      | some j => some (none, ls, .inl (.long (sx_ag 0 l j)) :: r, T)
      | none => none
    | _ => none
  | _ => none
noncomputable def sy_i41 : sy_I := fun _ E ls st T => match st with
  | i :: v :: r => match sy_arr T v with
    | some (_, .inr (.inr (.inl (.inr (.inr (.inr (_, n, l))))))) => match sy_ix E i n with
      | some j => some (none, ls, .inl (va_rf (sx_ag none l j)) :: r, T)
      | none => none
    | _ => none
  | _ => none
def sy_ast (ls : sy_L) (r : List sy_V) (T : sy_H) (k t n A j : Nat) (x : Int32) : Option sy_O := some (none, ls, r, sy_set T k (.inr (.inl (t, n, sy_ps A j x.toBitVec.toNat))))
noncomputable def sy_i42 : sy_I := fun _ E ls st T => match st with
  | x :: i :: v :: r => match sy_arr T v with
    | some (k, .inr (.inl (0, n, A))) => match sy_ix E i n with
      | some j => match sy_c E x with
        | some x1 => sy_ast ls r T k 0 n A j x1
        | none => bif sy_isI x then some (none, ls, r, sy_set T k (.inr (.inr (.inr (0, n))))) else none
      | none => none
    | some (_, .inr (.inr (.inr (0, n)))) => match sy_ix E i n with
      | some _ => bif sy_isI x then some (none, ls, r, T) else none
      | none => none
    | _ => none
  | _ => none
noncomputable def sy_i43 : sy_I := fun _ E ls st T => match st with
  | x :: i :: v :: r => match sy_arr T v with
    | some (k, .inr (.inl (1, n, A))) => match sy_ix E i n with
      | some j => match sy_c E x with
        | some x1 => sy_ast ls r T k 1 n A j (vp_nar .boolean x1)
        | none => none
      | none => none
    | some (k, .inr (.inl (2, n, A))) => match sy_ix E i n with
      | some j => match sy_c E x with
        | some x1 => sy_ast ls r T k 2 n A j (vp_nar .byte x1)
        | none => bif sy_isI x then some (none, ls, r, sy_set T k (.inr (.inr (.inr (2, n))))) else none
      | none => none
    | some (_, .inr (.inr (.inr (2, n)))) => match sy_ix E i n with
      | some _ => bif sy_isI x then some (none, ls, r, T) else none
      | none => none
    | _ => none
  | _ => none
noncomputable def sy_i44 : sy_I := fun _ E ls st T => match st with
  | .inl (.long x) :: i :: v :: r => match sy_arr T v with
    | some (k, .inr (.inr (.inl (.inr (.inr (.inl (n, l))))))) => match sy_ix E i n with
      | some j => some (none, ls, r, sy_set T k (.inr (.inr (.inl (.inr (.inr (.inl (n, sx_as 0 l j x))))))))
      | none => none
    | _ => none
  | _ => none
noncomputable def sy_i45 : sy_I := fun _ E ls st T => match st with
  | .inl (.ref (q + 1)) :: i :: v :: r => match sy_arr T v, sy_get T q with
    | some (k, .inr (.inr (.inl (.inr (.inr (.inr (ci, n, l))))))), some (.inl o) => bif Nat.beq o.1 ci then (match sy_ix E i n with
      | some j => some (none, ls, r, sy_set T k (.inr (.inr (.inl (.inr (.inr (.inr (ci, n, sx_as none l j (some (q + 1))))))))))
      | none => none) else none
    | _, _ => none
  | _ => none
noncomputable def sy_i46 : sy_I := fun en _ ls st T => match st with
  | v :: r => match sy_arr T v with
    | some (_, .inl (ci, fs)) => bif Nat.beq ci en.2.1 then (match sy_fd fs en.2.2.1 with
      | some w => some (none, ls, .inl w :: r, T)
      | none => none) else none
    | _ => none
  | _ => none
noncomputable def sy_i47 : sy_I := fun en E ls st T => match st with
  | w :: v :: r => match sy_arr T v, sy_val E w with
    | some (k, .inl (ci, fs)), some w1 => bif Nat.beq ci en.2.1 && sx_pv (en.2.2.1 / 1000) w1 then (match sy_fd fs (en.2.2.1 % 1000) with
      | some _ => some (none, ls, r, sy_set T k (.inl (ci, sy_fs fs (en.2.2.1 % 1000) w1)))
      | none => none) else none
    | _, _ => none
  | _ => none
noncomputable def sy_i48 (lim : Nat × Nat) (D : Nat → Nat × List (List Value)) : sy_I := fun en _ ls st T => sy_new lim ls st T (D en.2.1).1 (.inl (en.2.1, (D en.2.1).2))
noncomputable def sy_nar (lim : Nat × Nat) (t : Nat) : sy_I := fun _ E ls st T => match st with
  | x :: r => match sy_ix E x 134217729 with
    | some n => sy_new lim ls r T n (.inr (.inl (t, n, 0)))
    | none => none
  | _ => none
noncomputable def sy_i52 (lim : Nat × Nat) : sy_I := fun _ E ls st T => match st with
  | x :: r => match sy_ix E x 67108865 with
    | some n => sy_new lim ls r T n (.inr (.inr (.inl (.inr (.inr (.inl (n, [])))))))
    | none => none
  | _ => none
noncomputable def sy_i53 (lim : Nat × Nat) : sy_I := fun en E ls st T => match st with
  | x :: r => match sy_ix E x 134217729 with
    | some n => sy_new lim ls r T n (.inr (.inr (.inl (.inr (.inr (.inr (en.2.1, n, [])))))))
    | none => none
  | _ => none
def sy_i54 : sy_I := fun _ _ ls st T => match st with
  | .inl (.ref _) :: r => bif Nat.ble (r.map sy_cat).sum 8 then some (none, ls, r, T) else none
  | _ => none
noncomputable def sy_i55 : sy_I := fun _ E ls st T => match st with
  | n :: dp :: w :: sp :: v :: r => match sy_arr T v, sy_arr T w with
    | some (_, .inr (.inl (0, n0, f))), some (k, .inr (.inl (0, n1, g))) => match sy_ix E sp 134217729, sy_ix E dp 134217729, sy_ix E n 134217729 with
      | some s1, some d1, some m1 => bif Nat.ble (s1 + m1) n0 && Nat.ble (d1 + m1) n1 && Nat.ble (r.map sy_cat).sum 8 then some (none, ls, r, sy_set T k (.inr (.inl (0, n1, sy_pc f g s1 d1 m1)))) else none
      | _, _, _ => none
    | _, _ => none
  | _ => none
def sy_no : sy_I := fun _ _ _ _ _ => none
noncomputable def sy_g0 (lim : Nat × Nat) (D : Nat → Nat × List (List Value)) (q : Nat) (o : Nat) : sy_I := (bif Nat.blt o 4 then (bif Nat.blt o 2 then (bif Nat.blt o 1 then sy_i0 else sy_i1) else (bif Nat.blt o 3 then sy_i2 else sy_i3)) else (bif Nat.blt o 6 then (bif Nat.blt o 5 then sy_i4 else sy_i5) else (bif Nat.blt o 7 then sy_i6 else sy_i7)))
noncomputable def sy_g1 (lim : Nat × Nat) (D : Nat → Nat × List (List Value)) (q : Nat) (o : Nat) : sy_I := (bif Nat.blt o 12 then (bif Nat.blt o 10 then (bif Nat.blt o 9 then sy_i8 else sy_bin (fun x y => x + y)) else (bif Nat.blt o 11 then sy_bin (fun x y => x - y) else sy_bin (fun x y => x * y))) else (bif Nat.blt o 14 then (bif Nat.blt o 13 then sy_and else sy_bin (fun x y => x ||| y)) else (bif Nat.blt o 15 then sy_bin (fun x y => x ^^^ y) else sy_bin (fun x y => x <<< (y &&& 31)))))
noncomputable def sy_g2 (lim : Nat × Nat) (D : Nat → Nat × List (List Value)) (q : Nat) (o : Nat) : sy_I := (bif Nat.blt o 20 then (bif Nat.blt o 18 then (bif Nat.blt o 17 then sy_bin (fun x y => x >>> (y &&& 31)) else sy_bin (fun x y => (x.toUInt32 >>> (y.toUInt32 &&& Int32.toUInt32 31)).toInt32)) else (bif Nat.blt o 19 then sy_div (fun x y => x / y) else sy_div (fun x y => x - x / y * y))) else (bif Nat.blt o 22 then (bif Nat.blt o 21 then sy_i20 else sy_i21) else (bif Nat.blt o 23 then sy_i22 else sy_if1 0)))
noncomputable def sy_g3 (lim : Nat × Nat) (D : Nat → Nat × List (List Value)) (q : Nat) (o : Nat) : sy_I := (bif Nat.blt o 28 then (bif Nat.blt o 26 then (bif Nat.blt o 25 then sy_if1 1 else sy_if1 2) else (bif Nat.blt o 27 then sy_if1 3 else sy_if1 4)) else (bif Nat.blt o 30 then (bif Nat.blt o 29 then sy_if1 5 else sy_if2 0) else (bif Nat.blt o 31 then sy_if2 1 else sy_if2 2)))
noncomputable def sy_g4 (lim : Nat × Nat) (D : Nat → Nat × List (List Value)) (q : Nat) (o : Nat) : sy_I := (bif Nat.blt o 36 then (bif Nat.blt o 34 then (bif Nat.blt o 33 then sy_if2 3 else sy_if2 4) else (bif Nat.blt o 35 then sy_if2 5 else sy_i35)) else (bif Nat.blt o 38 then (bif Nat.blt o 37 then sy_no else sy_i37 q) else (bif Nat.blt o 39 then sy_i38 q else sy_i39)))
noncomputable def sy_g5 (lim : Nat × Nat) (D : Nat → Nat × List (List Value)) (q : Nat) (o : Nat) : sy_I := (bif Nat.blt o 44 then (bif Nat.blt o 42 then (bif Nat.blt o 41 then sy_i40 else sy_i41) else (bif Nat.blt o 43 then sy_i42 else sy_i43)) else (bif Nat.blt o 46 then (bif Nat.blt o 45 then sy_i44 else sy_i45) else (bif Nat.blt o 47 then sy_i46 else sy_i47)))
noncomputable def sy_g6 (lim : Nat × Nat) (D : Nat → Nat × List (List Value)) (q : Nat) (o : Nat) : sy_I := (bif Nat.blt o 52 then (bif Nat.blt o 50 then (bif Nat.blt o 49 then sy_i48 lim D else sy_nar lim 0) else (bif Nat.blt o 51 then sy_nar lim 1 else sy_nar lim 2)) else (bif Nat.blt o 54 then (bif Nat.blt o 53 then sy_i52 lim else sy_i53 lim) else (bif Nat.blt o 55 then sy_i54 else sy_i55)))
noncomputable def sy_step (lim : Nat × Nat) (D : Nat → Nat × List (List Value)) (q : Nat) (o : Nat) : sy_I := (bif Nat.blt o 32 then (bif Nat.blt o 16 then (bif Nat.blt o 8 then sy_g0 lim D q o else sy_g1 lim D q o) else (bif Nat.blt o 24 then sy_g2 lim D q o else sy_g3 lim D q o)) else (bif Nat.blt o 48 then (bif Nat.blt o 40 then sy_g4 lim D q o else sy_g5 lim D q o) else (bif Nat.blt o 56 then sy_g6 lim D q o else sy_no)))
/-- what a method answers, or the cell of what it throws -/
abbrev sy_R : Type := Option sy_V ⊕ Nat
abbrev sy_Lf : Type := sy_E × sy_R × sy_H
/-- a method's number; its packed code: what it answers (8 bits), its class (16), then 72 bits an instruction: its number and 1 (8), its two numbers (32 each) -/
abbrev sy_F : Type := Nat → Nat → Nat → sy_E → sy_L → List sy_V → sy_H → Option (List sy_Lf)
noncomputable def sy_args (n : Nat) : List sy_V → List sy_V → Option (List sy_V × List sy_V) := Nat.rec (fun st a => some (a, st)) (fun _ ih st a => List.casesOn st none (fun v r => ih r (v :: a))) n
noncomputable def sy_locs (l : List sy_V) : Nat → sy_L := List.rec (fun _ => []) (fun v _ ih i => (i, v) :: ih (i + 1)) l
def sy_r0 (rk : Nat) (st : List sy_V) : Option (Option sy_V) := match st with
  | [] => bif Nat.beq rk 0 then some none else none
  | _ => none
noncomputable def sy_r1 (E : sy_E) (rk : Nat) (st : List sy_V) : Option (Option sy_V) := match st with
  | [x] => bif Nat.beq rk 1 then (bif sy_isI x then some (some x) else none) else match sy_c E x with
    | some x1 => bif Nat.beq rk 2 && (decide (x1 = 0) || decide (x1 = 1)) then some (some (.inl (.int x1))) else none
    | none => none
  | _ => none
def sy_r2 (rk : Nat) (st : List sy_V) : Option (Option sy_V) := match st with
  | [.inl (.ref x)] => bif Nat.beq rk 3 then some (some (.inl (.ref x))) else none
  | _ => none
noncomputable def sy_recv (o ci : Nat) (T : sy_H) (as : List sy_V) : Bool := bif Nat.beq o 58 then true else match as with
  | v :: _ => match sy_arr T v with
    | some (_, .inl o) => Nat.beq o.1 ci
    | _ => false
  | [] => false
noncomputable def sy_two (a b : Option (List sy_Lf)) : Option (List sy_Lf) := match a, b with
  | some x, some y => some (x ++ y)
  | _, _ => none
noncomputable def sy_seq (f : sy_Lf → Option (List sy_Lf)) (L : List sy_Lf) : Option (List sy_Lf) := List.rec (some []) (fun a t ih => match t with
  | [] => f a
  | _ :: _ => sy_two (f a) ih) L
noncomputable def sy_plain (lim : Nat × Nat) (D : Nat → Nat × List (List Value)) (q : Nat) (go : sy_F) (j K i : Nat) (en : sx_N) (E : sy_E) (ls : sy_L) (st : List sy_V) (T : sy_H) : Option (List sy_Lf) := match sy_step lim D q en.1 en E ls st T with
  | none => none
  | some (t, ls1, st1, T1) => go j K (t.getD (i + 1)) E ls1 st1 T1
/-- a switch: the code itself is looked up -/
noncomputable def sy_swi (P : Nat → Option sx_Mt) (go : sy_F) (j K i : Nat) (E : sy_E) (ls : sy_L) (st : List sy_V) (T : sy_H) : Option (List sy_Lf) := match P j with
  | none => none
  | some M => match sx_at M.2.2.2.2 i with
    | none => none
    | some en => match sy_i36 M.2.2.2.2 en E ls st T with
      | none => none
      | some (t, ls1, st1, T1) => go j K (t.getD (i + 1)) E ls1 st1 T1
noncomputable def sy_thrown (P : Nat → Option sx_Mt) (go : sy_F) (j K i : Nat) (E : sy_E) (ls : sy_L) (x : Nat) (T1 : sy_H) : Option (List sy_Lf) := match P j with
  | none => none
  | some M => match M.2.2.2.1 with
    | [] => some [(E, .inr x, T1)]
    | _ :: _ => match sx_at M.2.2.2.2 i with
      | none => none
      | some en => match sy_get T1 x with
        | some (.inl o) => match sx_hand M.2.2.2.1 en.2.2.2.1 o.1 with
          | some t => go j K t E ls [.inl (.ref (x + 1))] T1
          | none => none
        | _ => none
noncomputable def sy_aft (P : Nat → Option sx_Mt) (go : sy_F) (j K i : Nat) (ls : sy_L) (rest : List sy_V) (a : sy_Lf) : Option (List sy_Lf) := match a.2.1 with
  | .inl v => go j K (i + 1) a.1 ls (v.toList ++ rest) a.2.2
  | .inr x => sy_thrown P go j K i a.1 ls x a.2.2
noncomputable def sy_call (lim : Nat × Nat) (P : Nat → Option sx_Mt) (Kc : Nat → Nat) (go : sy_F) (j K i : Nat) (en : sx_N) (E : sy_E) (ls : sy_L) (st : List sy_V) (T : sy_H) : Option (List sy_Lf) := match sy_args en.2.2.1 st [], Kc en.2.1 with
  | some (as, rest), K1 => bif Nat.ble (rest.map sy_cat).sum 8 && as.all (fun v => Nat.beq (sy_cat v) 1) && sy_recv en.1 (K1 / 256 % 65536) T as && (Nat.ble T.1 lim.1 && Nat.ble T.2.1 lim.2) then (match go en.2.1 K1 0 E (sy_locs as 0) [] T with
    | some L => sy_seq (sy_aft P go j K i ls rest) L
    | none => none) else none
  | _, _ => none
def sy_ends (E : sy_E) (T : sy_H) (v : Option (Option sy_V)) : Option (List sy_Lf) := match v with
  | some w => some [(E, .inl w, T)]
  | none => none
noncomputable def sy_special (lim : Nat × Nat) (P : Nat → Option sx_Mt) (Kc : Nat → Nat) (go : sy_F) (j K i : Nat) (en : sx_N) (E : sy_E) (ls : sy_L) (st : List sy_V) (T : sy_H) : Option (List sy_Lf) :=
  bif Nat.blt en.1 59 then sy_call lim P Kc go j K i en E ls st T else
  bif Nat.blt en.1 61 then (bif Nat.beq en.1 59 then sy_ends E T (sy_r0 (K % 256) st) else sy_ends E T (sy_r1 E (K % 256) st)) else
  bif Nat.beq en.1 61 then sy_ends E T (sy_r2 (K % 256) st) else
  bif Nat.beq en.1 62 then (bif Nat.blt T.1 lim.1 && Nat.ble (T.2.1 + 6) lim.2 && Nat.ble (st.map sy_cat).sum 8 && Nat.ble (T.1 + 1) 4096 then some [(E, .inr T.1, sy_push T 6 (.inl (en.2.1, [])))] else none) else none
/-- where to cut an interval -/
noncomputable def sy_pin (E : sy_E) (v : sy_V) : Option (Nat × Nat) := match v with
  | .inr k => bif Nat.blt k 7 && Nat.blt (sy_of E k).1 (sy_of E k).2 && Nat.ble ((sy_of E k).2 - (sy_of E k).1) 63 then some (k, (sy_of E k).1 + 1) else none
  | _ => none
def sy_cut (r a c : Nat) : Nat := bif Nat.blt r 2 then (bif Nat.blt a c then c else c + 1) else bif Nat.blt r 4 then c else c + 1
def sy_mir (r : Nat) : Nat := bif Nat.blt r 2 then r else bif Nat.blt r 4 then r + 2 else r - 2
noncomputable def sy_w1 (r : Nat) (E : sy_E) (v : sy_V) (c : Nat) : Option (Nat × Nat) := match v with
  | .inr k => bif Nat.blt k 7 then (match sy_dec r (sy_of E k).1 (sy_of E k).2 c c with
    | some _ => none
    | none => some (k, sy_cut r (sy_of E k).1 c)) else none
  | _ => none
noncomputable def sy_wsw (E : sy_E) (k a b : Nat) : Option (Nat × Nat) := bif Nat.blt (sy_of E k).1 a && Nat.ble a (sy_of E k).2 then some (k, a) else
  bif Nat.blt (sy_of E k).1 b && Nat.ble b (sy_of E k).2 then some (k, b) else
  bif Nat.ble a (sy_of E k).1 && Nat.blt (sy_of E k).2 b && Nat.blt (sy_of E k).1 (sy_of E k).2 then some (k, (sy_of E k).1 + 1) else none
noncomputable def sy_w9 (E : sy_E) (st : List sy_V) : Option (Nat × Nat) := match st with
  | .inr 0 :: _ => none
  | .inr k :: _ => sy_pin E (.inr k)
  | _ :: .inr (k + 1) :: _ => sy_pin E (.inr (k + 1))
  | _ => none
noncomputable def sy_w23 (r : Nat) (E : sy_E) (st : List sy_V) : Option (Nat × Nat) := match st with
  | .inr k :: _ => sy_w1 r E (.inr k) 2147483648
  | _ => none
noncomputable def sy_w30 (r : Nat) (E : sy_E) (y : sy_V) (k : Nat) : Option (Nat × Nat) := match sy_c E y with
  | some y1 => sy_w1 r E (.inr k) (sy_b y1)
  | none => (match sy_c E (.inr k) with
    | some x1 => sy_w1 (sy_mir r) E y (sy_b x1)
    | none => none)
noncomputable def sy_w29 (r : Nat) (E : sy_E) (st : List sy_V) : Option (Nat × Nat) := match st with
  | y :: .inr k :: _ => sy_w30 r E y k
  | .inr k :: .inl (.int x1) :: _ => sy_w1 (sy_mir r) E (.inr k) (sy_b x1)
  | _ => none
noncomputable def sy_wt (E : sy_E) (st : List sy_V) : Option (Nat × Nat) := match st with
  | v :: _ => sy_pin E v
  | _ => none
noncomputable def sy_ws (E : sy_E) (st : List sy_V) : Option (Nat × Nat) := match st with
  | _ :: v :: _ => sy_pin E v
  | _ => none
noncomputable def sy_wb (o : Nat) (E : sy_E) (st : List sy_V) : Option (Nat × Nat) :=
  bif Nat.ble 29 o then (bif Nat.ble 35 o then none else sy_w29 (Nat.sub o 29) E st) else bif Nat.ble 23 o then sy_w23 (Nat.sub o 23) E st else bif Nat.ble 20 o then none else sy_w9 E st
noncomputable def sy_wc (o : Nat) (E : sy_E) (st : List sy_V) : Option (Nat × Nat) :=
  bif Nat.ble 46 o then (bif Nat.beq o 46 then none else bif Nat.ble 54 o then none else sy_wt E st) else bif Nat.ble 42 o then sy_ws E st else bif Nat.ble 38 o then sy_wt E st else none
noncomputable def sy_want (o : Nat) (E : sy_E) (st : List sy_V) : Option (Nat × Nat) :=
  bif Nat.ble o 8 then none else bif Nat.ble 37 o then sy_wc o E st else sy_wb o E st
noncomputable def sy_want36 (P : Nat → Option sx_Mt) (j i : Nat) (E : sy_E) (st : List sy_V) : Option (Nat × Nat) := match st with
  | .inr k :: _ => (match P j with
    | none => none
    | some M => (match sx_at M.2.2.2.2 i with
      | none => none
      | some en => (match en.2.2.2.2.2 with
        | .tableswitch _ lo hi _ => bif Nat.blt k 7 then sy_wsw E k (lo + 2147483648).toNat (hi + 2147483649).toNat else none
        | _ => none)))
  | _ => none
noncomputable def sy_cuts (go : sy_F) (j K i : Nat) (E : sy_E) (ls : sy_L) (st : List sy_V) (T : sy_H) (k c : Nat) : Option (List sy_Lf) := sy_two (go j K i (sx_lset (0, 4294967295) ((sy_of E k).1, c - 1) E k) ls st T) (go j K i (sx_lset (0, 4294967295) (c, (sy_of E k).2) E k) ls st T)
/-- the instruction, out of its 72 bits -/
def sy_en (x : Nat) : sx_N := (Nat.sub (Nat.mod x 256) 1, Nat.mod (Nat.div x 256) 4294967296, Nat.mod (Nat.div x 1099511627776) 4294967296, 0, 0, .nop)
noncomputable def sy_b36 (P : Nat → Option sx_Mt) (go : sy_F) (j K i : Nat) (E : sy_E) (ls : sy_L) (st : List sy_V) (T : sy_H) (w : Option (Nat × Nat)) : Option (List sy_Lf) := match w with
  | some (k, c) => sy_cuts go j K i E ls st T k c
  | none => sy_swi P go j K i E ls st T
noncomputable def sy_bn (lim : Nat × Nat) (P : Nat → Option sx_Mt) (Kc : Nat → Nat) (D : Nat → Nat × List (List Value)) (q : Nat) (go : sy_F) (j K i : Nat) (E : sy_E) (ls : sy_L) (st : List sy_V) (T : sy_H) (en : sx_N) : Option (List sy_Lf) := bif Nat.ble 56 en.1 then sy_special lim P Kc go j K i en E ls st T else sy_plain lim D q go j K i en E ls st T
noncomputable def sy_bw (lim : Nat × Nat) (P : Nat → Option sx_Mt) (Kc : Nat → Nat) (D : Nat → Nat × List (List Value)) (q : Nat) (go : sy_F) (j K i : Nat) (E : sy_E) (ls : sy_L) (st : List sy_V) (T : sy_H) (en : sx_N) (w : Option (Nat × Nat)) : Option (List sy_Lf) := match w with
  | some (k, c) => sy_cuts go j K i E ls st T k c
  | none => sy_bn lim P Kc D q go j K i E ls st T en
noncomputable def sy_body1 (lim : Nat × Nat) (P : Nat → Option sx_Mt) (Kc : Nat → Nat) (D : Nat → Nat × List (List Value)) (q : Nat) (go : sy_F) (j K i : Nat) (E : sy_E) (ls : sy_L) (st : List sy_V) (T : sy_H) (en : sx_N) : Option (List sy_Lf) :=
  bif Nat.beq en.1 36 then sy_b36 P go j K i E ls st T (sy_want36 P j i E st) else sy_bw lim P Kc D q go j K i E ls st T en (sy_want en.1 E st)
/-- the instruction's bits -/
def sy_x (K i : Nat) : Nat := Nat.shiftRight K (Nat.add (Nat.mul 72 i) 24)
noncomputable def sy_body (lim : Nat × Nat) (P : Nat → Option sx_Mt) (Kc : Nat → Nat) (D : Nat → Nat × List (List Value)) (q : Nat) (go : sy_F) : sy_F := fun j K i E ls st T => bif Nat.beq (Nat.mod (sy_x K i) 256) 0 then none else sy_body1 lim P Kc D q go j K i E ls st T (sy_en (sy_x K i))
noncomputable def sy_exec (lim : Nat × Nat) (P : Nat → Option sx_Mt) (Kc : Nat → Nat) (D : Nat → Nat × List (List Value)) (q n : Nat) : sy_F := Nat.rec (fun _ _ _ _ _ _ _ => none) (fun _ go => sy_body lim P Kc D q go) n
theorem sy_exec_succ (lim : Nat × Nat) (P : Nat → Option sx_Mt) (Kc : Nat → Nat) (D : Nat → Nat × List (List Value)) (q n : Nat) : sy_exec lim P Kc D q (n + 1) = sy_body lim P Kc D q (sy_exec lim P Kc D q n) := rfl
end
section
/-! ===== what SF computes, SI computes: instructions ===== -/
theorem sy_u_b (x : Int32) : sy_u (sy_b x) = x := by
  unfold sy_u sy_b
  apply Int32.toBitVec_inj.mp
  apply BitVec.eq_of_toNat_eq
  have h := x.toBitVec.isLt
  rw [Int32.toBitVec_ofNat', BitVec.toNat_ofNat]
  omega
theorem sy_toInt (x : Int32) : x.toInt = (sy_b x : Int) - 2147483648 := by
  have h := x.toBitVec.isLt
  have h1 : x.toInt = x.toBitVec.toInt := rfl
  rw [h1, BitVec.toInt_eq_toNat_cond]
  unfold sy_b
  split <;> omega
theorem sy_b_lt (x y : Int32) : x < y ↔ sy_b x < sy_b y := by
  rw [Int32.lt_iff_toInt_lt, sy_toInt, sy_toInt]
  omega
theorem sy_b_le (x y : Int32) : x ≤ y ↔ sy_b x ≤ sy_b y := by
  rw [Int32.le_iff_toInt_le, sy_toInt, sy_toInt]
  omega
theorem sy_b_eq (x y : Int32) : x = y ↔ sy_b x = sy_b y := ⟨fun h => by rw [h], fun h => by rw [← sy_u_b x, ← sy_u_b y, h]⟩
def sy_v (ρ : Nat → Int32) (a : sy_V) (v : Value) : Prop := match a with
  | .inl w => v = w
  | .inr k => ∃ x, v = .int x ∧ (k < 7 → x = ρ k)
def sy_e (ρ : Nat → Int32) (E : sy_E) : Prop := ∀ k, (sy_of E k).1 ≤ sy_b (ρ k) ∧ sy_b (ρ k) ≤ (sy_of E k).2
def sy_ss (ρ : Nat → Int32) : List sy_V → List Value → Prop
  | [], t => t = []
  | a :: s, t => ∃ v r, t = v :: r ∧ sy_v ρ a v ∧ sy_ss ρ s r
def sy_ll (ρ : Nat → Int32) : sy_L → sx_L → Prop
  | [], t => t = []
  | a :: s, t => ∃ v r, t = (a.1, v) :: r ∧ sy_v ρ a.2 v ∧ sy_ll ρ s r
def sy_ce (c : sy_C) (q : Option sx_C) : Prop := match c with
  | .inl o => ∃ fs, q = some (.inl (o.1, fs)) ∧ ∀ b, sx_lo fs b = sy_fd o.2 b
  | .inr (.inl a) => ∃ l, q = some (.inr (.inl (a.1, a.2.1, l))) ∧ ∀ j, (sx_ag 0 l j).toBitVec.toNat = sy_pg a.2.2 j
  | .inr (.inr (.inl x)) => q = some x
  | .inr (.inr (.inr a)) => ∃ l, q = some (.inr (.inl (a.1, a.2, l)))
def sy_h (T : sy_H) (h : sx_H) : Prop := h.1 = h.2.2.length ∧ T.1 = h.1 ∧ T.2.1 = h.2.1 ∧ ∀ k c, sy_get T k = some c → sy_ce c (sx_get h k)
def sy_cx (ρ : Nat → Int32) (S : List Int32) (q : Nat) : Prop := (Nat.beq q 99 = false → S.length = q ∧ ∀ j, j < q → sx_lg 0 S j = ρ j) ∧ ρ 6 = ρ 0 &&& 31
def sy_to (ρ : Nat → Int32) (a : sy_O) (r : Option sx_O) : Prop := ∃ ls1 st1 h1, r = some (a.1, ls1, st1, h1) ∧ sy_ll ρ a.2.1 ls1 ∧ sy_ss ρ a.2.2.1 st1 ∧ sy_h a.2.2.2 h1
/-- an instruction of SF is right for one of SI -/
def sy_snd (S : List Int32) (q : Nat) (f : sy_I) (g : sx_I) : Prop := ∀ ρ E en ls st T ls' st' h a, sy_cx ρ S q → sy_e ρ E → sy_ll ρ ls ls' → sy_ss ρ st st' → sy_h T h → f en E ls st T = some a → sy_to ρ a (g en ls' st' h)
variable {ρ : Nat → Int32} {E : sy_E} {S : List Int32} {q : Nat}
theorem sy_c_ok (hE : sy_e ρ E) {a : sy_V} {x : Int32} {v : Value} (h : sy_c E a = some x) (hv : sy_v ρ a v) : v = .int x := by
  unfold sy_c at h
  split at h
  · cases h; exact hv
  · next k =>
    cases hb : (Nat.blt k 7 && Nat.beq (sy_of E k).1 (sy_of E k).2) with
    | false => rw [hb] at h; cases h
    | true =>
      rw [hb] at h
      rw [Bool.and_eq_true, Nat.blt_eq] at hb
      have e := Nat.eq_of_beq_eq_true hb.2
      have h1 : sy_u (sy_of E k).1 = x := Option.some.inj h
      obtain ⟨y, rfl, hy⟩ := hv
      have h2 := hE k
      have h3 : sy_b (ρ k) = (sy_of E k).1 := by omega
      rw [hy hb.1, ← h1, ← h3, sy_u_b]
  · cases h
theorem sy_isI_ok {a : sy_V} {v : Value} (h : sy_isI a = true) (hv : sy_v ρ a v) : ∃ x, v = .int x := by
  unfold sy_isI at h
  split at h
  · exact ⟨_, hv⟩
  · obtain ⟨x, hx, -⟩ := hv; exact ⟨x, hx⟩
  · cases h
theorem sy_iv_ok (hE : sy_e ρ E) {a : sy_V} {lo hi : Nat} {v : Value} (h : sy_iv E a = some (lo, hi)) (hv : sy_v ρ a v) : ∃ x, v = .int x ∧ lo ≤ sy_b x ∧ sy_b x ≤ hi := by
  unfold sy_iv at h
  split at h
  · next x =>
    obtain ⟨h1, h2⟩ := Prod.mk.inj (Option.some.inj h)
    exact ⟨x, hv, Nat.le_of_eq h1.symm, Nat.le_of_eq h2⟩
  · next k =>
    cases hb : Nat.blt k 7 with
    | false => rw [hb] at h; cases h
    | true =>
      rw [hb] at h
      have h1 : sy_of E k = (lo, hi) := Option.some.inj h
      obtain ⟨y, rfl, hy⟩ := hv
      have h2 := hE k
      rw [h1] at h2
      rw [Nat.blt_eq] at hb
      rw [hy hb]
      exact ⟨_, rfl, h2⟩
  · cases h
theorem sy_val_ok (hE : sy_e ρ E) {a : sy_V} {w v : Value} (h : sy_val E a = some w) (hv : sy_v ρ a v) : v = w := by
  unfold sy_val at h
  split at h
  · cases h; exact hv
  · next k =>
    split at h
    · next x hx => cases h; exact sy_c_ok hE hx hv
    · cases h
theorem sy_cat_ok {a : sy_V} {v : Value} (hv : sy_v ρ a v) : sy_cat a = v.category := by
  unfold sy_cat
  split
  · next w => rw [show v = w from hv]
  · obtain ⟨x, rfl, -⟩ := hv; rfl
theorem sy_cats_ok : ∀ {s : List sy_V} {t : List Value}, sy_ss ρ s t → (s.map sy_cat).sum = (t.map fun v => v.category).sum
  | [], t, h => by rw [show t = [] from h]; rfl
  | a :: s, t, h => by
    obtain ⟨v, r, rfl, hv, hr⟩ := h
    simp only [List.map_cons, List.sum_cons]
    rw [sy_cats_ok hr, sy_cat_ok hv]
theorem sy_lk_ok : ∀ {ls : sy_L} {ls' : sx_L} {i : Nat} {a : sy_V}, sy_ll ρ ls ls' → sy_lk ls i = some a → ∃ v, sx_lk ls' i = some v ∧ sy_v ρ a v
  | [], _, _, _, _, h => by cases h
  | p :: t, ls', i, a, hl, h => by
    obtain ⟨v, r, rfl, hv, hr⟩ := hl
    have e : sy_lk (p :: t) i = bif Nat.beq p.1 i then some p.2 else sy_lk t i := rfl
    have e1 : sx_lk ((p.1, v) :: r) i = bif Nat.beq p.1 i then some v else sx_lk r i := rfl
    rw [e] at h
    rw [e1]
    cases hb : Nat.beq p.1 i with
    | true => rw [hb] at h; cases h; exact ⟨v, rfl, hv⟩
    | false => rw [hb] at h; exact sy_lk_ok hr h
theorem sy_stf_ok : ∀ {ls : sy_L} {ls' : sx_L} (i : Nat), sy_ll ρ ls ls' → sy_ll ρ (sy_stf ls i) (sx_stf ls' i)
  | [], ls', i, hl => by rw [show ls' = [] from hl]; exact rfl
  | p :: t, ls', i, hl => by
    obtain ⟨v, r, rfl, hv, hr⟩ := hl
    have e : sy_stf (p :: t) i = bif Nat.beq p.1 i || Nat.beq (sy_cat p.2) 2 then sy_stf t i else p :: sy_stf t i := rfl
    have e1 : sx_stf ((p.1, v) :: r) i = bif Nat.beq p.1 i || Nat.beq v.category 2 then sx_stf r i else (p.1, v) :: sx_stf r i := rfl
    rw [e, e1, sy_cat_ok hv]
    cases hb : (Nat.beq p.1 i || Nat.beq v.category 2) with
    | true => exact sy_stf_ok i hr
    | false => exact ⟨v, _, rfl, hv, sy_stf_ok i hr⟩
theorem sy_st_ok {ls : sy_L} {ls' : sx_L} (i : Nat) {a : sy_V} {v : Value} (hl : sy_ll ρ ls ls') (hv : sy_v ρ a v) : sy_ll ρ (sy_st ls i a) (sx_st ls' i v) := ⟨v, _, rfl, hv, sy_stf_ok i hl⟩
theorem sy_sel_upd {α : Type} (t : sy_8 α) {i j : Nat} (hi : i < 8) (hj : j < 8) (x : α) : sy_sel (sy_upd t i x) j = if j = i then x else sy_sel t j := by
  obtain ⟨a0, a1, a2, a3, a4, a5, a6, a7⟩ := t
  have h1 : i = 0 ∨ i = 1 ∨ i = 2 ∨ i = 3 ∨ i = 4 ∨ i = 5 ∨ i = 6 ∨ i = 7 := by omega
  have h2 : j = 0 ∨ j = 1 ∨ j = 2 ∨ j = 3 ∨ j = 4 ∨ j = 5 ∨ j = 6 ∨ j = 7 := by omega
  rcases h1 with rfl | rfl | rfl | rfl | rfl | rfl | rfl | rfl <;> rcases h2 with rfl | rfl | rfl | rfl | rfl | rfl | rfl | rfl <;> rfl
theorem sy_get_lt {T : sy_H} {k : Nat} {c : sy_C} (h : sy_get T k = some c) : k < 4096 := by
  unfold sy_get at h
  cases hb : Nat.ble 4096 k with
  | true => rw [hb] at h; cases h
  | false =>
    have hb := Bool.eq_false_iff.mp hb
    rw [ne_eq, Nat.ble_eq] at hb
    omega
theorem sy_get_eq (T : sy_H) {k : Nat} (hk : k < 4096) : sy_get T k = sy_sel (sy_sel (sy_sel (sy_sel T.2.2 (k / 512)) (k / 64 % 8)) (k / 8 % 8)) (k % 8) := by
  unfold sy_get
  have hb : Nat.ble 4096 k = false := Bool.eq_false_iff.mpr (fun h => by rw [Nat.ble_eq] at h; omega)
  rw [hb]
  rfl
theorem sy_put_eq (l : sy_K) (k : Nat) (c : sy_C) : sy_put l k c = sy_upd l (k / 512) (sy_upd (sy_sel l (k / 512)) (k / 64 % 8) (sy_upd (sy_sel (sy_sel l (k / 512)) (k / 64 % 8)) (k / 8 % 8) (sy_upd (sy_sel (sy_sel (sy_sel l (k / 512)) (k / 64 % 8)) (k / 8 % 8)) (k % 8) (some c)))) := rfl
theorem sy_fd_eq (f : List (List Value)) (b : Nat) : sy_fd f b = sx_lo (sx_lg [] f (b / 8)) (b % 8) := rfl
theorem sy_fs_eq (f : List (List Value)) (b : Nat) (w : Value) : sy_fs f b w = sx_lset [] (sx_lset w w (sx_lg [] f (b / 8)) (b % 8)) f (b / 8) := rfl
theorem sy_get_put (l : sy_K) (a b : Nat) {k j : Nat} (hk : k < 4096) (hj : j < 4096) (c : sy_C) : sy_get (a, b, sy_put l k c) j = if j = k then some c else sy_get (a, b, l) j := by
  rw [sy_get_eq _ hj, sy_get_eq _ hj, sy_put_eq]
  show sy_sel (sy_sel (sy_sel (sy_sel (sy_upd _ _ _) _) _) _) _ = _
  rw [sy_sel_upd _ (by omega) (by omega)]
  by_cases h1 : j / 512 = k / 512
  · rw [if_pos h1, sy_sel_upd _ (by omega) (by omega)]
    by_cases h2 : j / 64 % 8 = k / 64 % 8
    · rw [if_pos h2, sy_sel_upd _ (by omega) (by omega)]
      by_cases h3 : j / 8 % 8 = k / 8 % 8
      · rw [if_pos h3, sy_sel_upd _ (by omega) (by omega)]
        by_cases h4 : j % 8 = k % 8
        · rw [if_pos h4, if_pos (by omega)]
        · rw [if_neg h4, if_neg (by omega), h1, h2, h3]
      · rw [if_neg h3, if_neg (by omega), h1, h2]
    · rw [if_neg h2, if_neg (by omega), h1]
  · rw [if_neg h1, if_neg (by omega)]
theorem sy_set_h {T : sy_H} {h : sx_H} (H : sy_h T h) {k : Nat} (hk : k < h.1 ∧ k < 4096) {c : sy_C} {x : sx_C} (hc : sy_ce c (some x)) : sy_h (sy_set T k c) (sx_set h k x) := by
  obtain ⟨h1, h2, h3, h4⟩ := H
  refine ⟨sx_set_len h1 hk.1 x, h2, h3, fun j d hd => ?_⟩
  have hd : sy_get (T.1, T.2.1, sy_put T.2.2 k c) j = some d := hd
  rw [sy_get_put _ _ _ hk.2 (sy_get_lt hd)] at hd
  rw [sx_get_set h1 hk.1]
  by_cases e : j = k
  · rw [if_pos e] at hd ⊢; cases hd; exact hc
  · rw [if_neg e] at hd ⊢; exact h4 j d hd
theorem sy_push_h {T : sy_H} {h : sx_H} (H : sy_h T h) (hT : T.1 < 4096) (n : Nat) {c : sy_C} {x : sx_C} (hc : sy_ce c (some x)) : sy_h (sy_push T n c) (sx_push h n x) := by
  obtain ⟨h1, h2, h3, h4⟩ := H
  refine ⟨?_, ?_, ?_, fun j d hd => ?_⟩
  · show h.1 + 1 = (x :: h.2.2).length
    rw [List.length_cons, h1]
  · show T.1 + 1 = h.1 + 1
    rw [h2]
  · show T.2.1 + n = h.2.1 + n
    rw [h3]
  · have hd : sy_get (T.1 + 1, T.2.1 + n, sy_put T.2.2 T.1 c) j = some d := hd
    rw [sy_get_put _ _ _ hT (sy_get_lt hd)] at hd
    rw [sx_get_push h1]
    rw [h2] at hd
    by_cases e : j = h.1
    · rw [if_pos e] at hd ⊢; cases hd; exact hc
    · rw [if_neg e] at hd ⊢; exact h4 j d hd
theorem sy_arr_ok {T : sy_H} {h : sx_H} (H : sy_h T h) {a : sy_V} {v : Value} {k : Nat} {c : sy_C} (ha : sy_arr T a = some (k, c)) (hv : sy_v ρ a v) : v = .ref (k + 1) ∧ (k < h.1 ∧ k < 4096) ∧ ∃ x, sx_arr h v = some (k, x) ∧ sy_ce c (some x) := by
  unfold sy_arr at ha
  split at ha
  · next k1 =>
    have hv : v = .ref (k1 + 1) := hv
    subst hv
    split at ha
    · next c1 hc1 =>
      cases ha
      have h4 := H.2.2.2 k c hc1
      have hx : ∃ x, sx_get h k = some x ∧ sy_ce c (some x) := by
        rcases c with y | y | y | y
        · obtain ⟨fs, hl, hf⟩ := h4; exact ⟨_, hl, fs, rfl, hf⟩
        · obtain ⟨l, hl, hf⟩ := h4; exact ⟨_, hl, l, rfl, hf⟩
        · exact ⟨y, h4, rfl⟩
        · obtain ⟨l, hl⟩ := h4; exact ⟨_, hl, l, rfl⟩
      obtain ⟨x, hx, hc⟩ := hx
      refine ⟨rfl, ⟨sx_get_lt hx, sy_get_lt hc1⟩, x, ?_, hc⟩
      show (match sx_get h k with | some c => some (k, c) | none => none) = _
      rw [hx]
    · cases ha
  · cases ha
/-- a store into an array of contents unknown -/
theorem sy_keep {T : sy_H} {h : sx_H} (H : sy_h T h) {a : sy_V} {k t n : Nat} {l : List (List Int32)} (ha : sy_arr T a = some (k, .inr (.inr (.inr (t, n))))) (hk : k < h.1 ∧ k < 4096) : sy_h T (sx_set h k (.inr (.inl (t, n, l)))) := by
  unfold sy_arr at ha
  split at ha
  · next k1 =>
    split at ha
    · next c1 hc1 =>
      cases ha
      obtain ⟨h1, h2, h3, h4⟩ := H
      refine ⟨sx_set_len h1 hk.1 _, h2, h3, fun j d hd => ?_⟩
      rw [sx_get_set h1 hk.1]
      by_cases e : j = k
      · rw [if_pos e]
        rw [e, hc1] at hd
        cases hd
        exact ⟨l, rfl⟩
      · rw [if_neg e]; exact h4 j d hd
    · cases ha
  · cases ha
theorem sy_new_ok {lim : Nat × Nat} {ls : sy_L} {ls' : sx_L} {st : List sy_V} {st' : List Value} {T : sy_H} {h : sx_H} {n : Nat} {c : sy_C} {x : sx_C} {a : sy_O} (hl : sy_ll ρ ls ls') (hs : sy_ss ρ st st') (H : sy_h T h) (hc : sy_ce c (some x)) (e : sy_new lim ls st T n c = some a) : sy_to ρ a (sx_new lim ls' st' h n x) := by
  unfold sy_new at e
  unfold sx_new
  rw [H.2.1, H.2.2.1] at e
  cases hb : (Nat.blt h.1 lim.1 && Nat.ble (h.2.1 + n) lim.2) with
  | false => rw [hb] at e; cases e
  | true =>
    rw [hb] at e
    cases hb2 : Nat.ble (h.1 + 1) 4096 with
    | false => rw [hb2] at e; cases e
    | true =>
      rw [hb2] at e
      cases e
      rw [Nat.ble_eq] at hb2
      exact ⟨_, _, _, rfl, hl, ⟨_, _, rfl, rfl, hs⟩, sy_push_h H (by rw [H.2.1]; omega) n hc⟩
theorem sy_pg_eq (A j : Nat) : sy_pg A j = A / 2 ^ (32 * j) % 4294967296 := by
  show (A >>> (32 * j)) % 4294967296 = _
  rw [Nat.shiftRight_eq_div_pow]
theorem sy_ps_eq (A j x : Nat) : sy_ps A j x = A + x * 2 ^ (32 * j) - sy_pg A j * 2 ^ (32 * j) := by
  show A + x <<< (32 * j) - sy_pg A j <<< (32 * j) = _
  rw [Nat.shiftLeft_eq, Nat.shiftLeft_eq]
/-- A number in three pieces -/
theorem sy_ps_pieces (A P x : Nat) (hP : 0 < P) : A + x * P - A / P % 4294967296 * P = (A / P / 4294967296 * 4294967296 + x) * P + A % P := by
  have h1 := Nat.div_add_mod A P
  have h2 := Nat.div_add_mod (A / P) 4294967296
  generalize A / P = B at *
  generalize A % P = r at *
  generalize B / 4294967296 = H at *
  generalize B % 4294967296 = o at *
  subst h2
  subst h1
  have e1 : P * (4294967296 * H + o) = 4294967296 * H * P + o * P := by rw [Nat.mul_comm, Nat.add_mul]
  have e2 : (H * 4294967296 + x) * P = 4294967296 * H * P + x * P := by rw [Nat.add_mul, Nat.mul_comm H]
  rw [e1, e2]
  omega
theorem sy_pg_ps {A x : Nat} (j i : Nat) (hx : x < 4294967296) : sy_pg (sy_ps A j x) i = if i = j then x else sy_pg A i := by
  rw [sy_ps_eq, sy_pg_eq A j, sy_ps_pieces _ _ _ (Nat.two_pow_pos _)]
  have hr : A % 2 ^ (32 * j) < 2 ^ (32 * j) := Nat.mod_lt _ (Nat.two_pow_pos _)
  have hA := Nat.div_add_mod A (2 ^ (32 * j))
  rw [sy_pg_eq, sy_pg_eq]
  rcases Nat.lt_trichotomy i j with h | h | h
  · rw [if_neg (by omega)]
    have e : 2 ^ (32 * j) = 2 ^ (32 * i) * (4294967296 * 2 ^ (32 * (j - i - 1))) := by
      rw [show (4294967296 : Nat) = 2 ^ 32 from rfl, ← Nat.pow_add, ← Nat.pow_add]
      congr 1
      omega
    generalize A % 2 ^ (32 * j) = r at *
    have key : ∀ B, (B * 2 ^ (32 * j) + r) / 2 ^ (32 * i) % 4294967296 = r / 2 ^ (32 * i) % 4294967296 := by
      intro B
      rw [e, show B * (2 ^ (32 * i) * (4294967296 * 2 ^ (32 * (j - i - 1)))) + r = r + 2 ^ (32 * i) * (B * (4294967296 * 2 ^ (32 * (j - i - 1)))) by rw [Nat.add_comm, Nat.mul_left_comm], Nat.add_mul_div_left _ _ (Nat.two_pow_pos _), show B * (4294967296 * 2 ^ (32 * (j - i - 1))) = 4294967296 * (B * 2 ^ (32 * (j - i - 1))) by rw [Nat.mul_left_comm], Nat.add_mul_mod_self_left]
    rw [key, ← hA, Nat.mul_comm (2 ^ (32 * j)), key]
  · subst h
    rw [if_pos rfl, Nat.add_comm, Nat.add_mul_div_right _ _ (Nat.two_pow_pos _), Nat.div_eq_of_lt hr, Nat.zero_add, Nat.add_comm, Nat.add_mul_mod_self_right, Nat.mod_eq_of_lt hx]
  · rw [if_neg (by omega)]
    have e : 2 ^ (32 * i) = 2 ^ (32 * j) * (4294967296 * 2 ^ (32 * (i - j - 1))) := by
      rw [show (4294967296 : Nat) = 2 ^ 32 from rfl, ← Nat.pow_add, ← Nat.pow_add]
      congr 1
      omega
    have key : ∀ y r, y < 4294967296 → r < 2 ^ (32 * j) → ((A / 2 ^ (32 * j) / 4294967296 * 4294967296 + y) * 2 ^ (32 * j) + r) / 2 ^ (32 * i) = A / 2 ^ (32 * j) / 4294967296 / 2 ^ (32 * (i - j - 1)) := by
      intro y r hy hr
      rw [e, ← Nat.div_div_eq_div_mul, Nat.add_comm, Nat.add_mul_div_right _ _ (Nat.two_pow_pos _), Nat.div_eq_of_lt hr, Nat.zero_add, ← Nat.div_div_eq_div_mul, Nat.add_comm, Nat.add_mul_div_right _ _ (by omega), Nat.div_eq_of_lt hy, Nat.zero_add]
    rw [key x _ hx hr]
    have hA2 : A = (A / 2 ^ (32 * j) / 4294967296 * 4294967296 + A / 2 ^ (32 * j) % 4294967296) * 2 ^ (32 * j) + A % 2 ^ (32 * j) := by
      have h2 := Nat.div_add_mod (A / 2 ^ (32 * j)) 4294967296
      rw [Nat.mul_comm] at h2
      rw [h2, Nat.mul_comm]
      exact hA.symm
    have k2 := key (A / 2 ^ (32 * j) % 4294967296) (A % 2 ^ (32 * j)) (Nat.mod_lt _ (by omega)) hr
    rw [← hA2] at k2
    rw [k2]
theorem sy_pg_zero (j : Nat) : sy_pg 0 j = 0 := by
  rw [sy_pg_eq, Nat.zero_div]
/-- relations of two ints -/
def sy_rel (r : Nat) (x y : Int32) : Bool := match r with
  | 0 => decide (x = y)
  | 1 => decide (¬ x = y)
  | 2 => decide (x < y)
  | 3 => decide (y ≤ x)
  | 4 => decide (y < x)
  | _ => decide (x ≤ y)
theorem sy_dec_ok {r a b c d : Nat} (hr : r < 6) {z : Bool} (h : sy_dec r a b c d = some z) {x y : Int32} (h1 : a ≤ sy_b x) (h2 : sy_b x ≤ b) (h3 : c ≤ sy_b y) (h4 : sy_b y ≤ d) : sy_rel r x y = z := by
  unfold sy_dec at h
  have hcases : r = 0 ∨ r = 1 ∨ r = 2 ∨ r = 3 ∨ r = 4 ∨ r = 5 := by omega
  have key : ∀ {p q : Bool} {s t u : Option Bool}, (bif p then s else bif q then t else u) = some z → (p = true ∧ s = some z) ∨ (q = true ∧ t = some z) ∨ (u = some z) := by
    intro p q s t u h
    cases p <;> cases q <;> simp at h <;> simp [h]
  rcases hcases with rfl | rfl | rfl | rfl | rfl | rfl
  · have h : (bif Nat.blt b c || Nat.blt d a then some false else bif Nat.beq a b && Nat.beq c d && Nat.beq a c then some true else none) = some z := h
    rcases key h with ⟨p, s⟩ | ⟨p, s⟩ | s
    · simp only [Bool.or_eq_true, Bool.and_eq_true, Nat.blt_eq, Nat.ble_eq, Nat.beq_eq] at p
      cases s
      show decide (x = y) = false
      rw [decide_eq_false_iff_not, sy_b_eq]; omega
    · simp only [Bool.or_eq_true, Bool.and_eq_true, Nat.blt_eq, Nat.ble_eq, Nat.beq_eq] at p
      cases s
      show decide (x = y) = true
      rw [decide_eq_true_eq, sy_b_eq]; omega
    · cases s
  · have h : (bif Nat.blt b c || Nat.blt d a then some true else bif Nat.beq a b && Nat.beq c d && Nat.beq a c then some false else none) = some z := h
    rcases key h with ⟨p, s⟩ | ⟨p, s⟩ | s
    · simp only [Bool.or_eq_true, Bool.and_eq_true, Nat.blt_eq, Nat.ble_eq, Nat.beq_eq] at p
      cases s
      show decide (¬ x = y) = true
      rw [decide_eq_true_eq, sy_b_eq]; omega
    · simp only [Bool.or_eq_true, Bool.and_eq_true, Nat.blt_eq, Nat.ble_eq, Nat.beq_eq] at p
      cases s
      show decide (¬ x = y) = false
      rw [decide_eq_false_iff_not, sy_b_eq]; omega
    · cases s
  · have h : (bif Nat.blt b c then some true else bif Nat.ble d a then some false else none) = some z := h
    rcases key h with ⟨p, s⟩ | ⟨p, s⟩ | s
    · simp only [Bool.or_eq_true, Bool.and_eq_true, Nat.blt_eq, Nat.ble_eq, Nat.beq_eq] at p
      cases s
      show decide (x < y) = true
      rw [decide_eq_true_eq, sy_b_lt]; omega
    · simp only [Bool.or_eq_true, Bool.and_eq_true, Nat.blt_eq, Nat.ble_eq, Nat.beq_eq] at p
      cases s
      show decide (x < y) = false
      rw [decide_eq_false_iff_not, sy_b_lt]; omega
    · cases s
  · have h : (bif Nat.blt b c then some false else bif Nat.ble d a then some true else none) = some z := h
    rcases key h with ⟨p, s⟩ | ⟨p, s⟩ | s
    · simp only [Bool.or_eq_true, Bool.and_eq_true, Nat.blt_eq, Nat.ble_eq, Nat.beq_eq] at p
      cases s
      show decide (y ≤ x) = false
      rw [decide_eq_false_iff_not, sy_b_le]; omega
    · simp only [Bool.or_eq_true, Bool.and_eq_true, Nat.blt_eq, Nat.ble_eq, Nat.beq_eq] at p
      cases s
      show decide (y ≤ x) = true
      rw [decide_eq_true_eq, sy_b_le]; omega
    · cases s
  · have h : (bif Nat.blt d a then some true else bif Nat.ble b c then some false else none) = some z := h
    rcases key h with ⟨p, s⟩ | ⟨p, s⟩ | s
    · simp only [Bool.or_eq_true, Bool.and_eq_true, Nat.blt_eq, Nat.ble_eq, Nat.beq_eq] at p
      cases s
      show decide (y < x) = true
      rw [decide_eq_true_eq, sy_b_lt]; omega
    · simp only [Bool.or_eq_true, Bool.and_eq_true, Nat.blt_eq, Nat.ble_eq, Nat.beq_eq] at p
      cases s
      show decide (y < x) = false
      rw [decide_eq_false_iff_not, sy_b_lt]; omega
    · cases s
  · have h : (bif Nat.blt d a then some false else bif Nat.ble b c then some true else none) = some z := h
    rcases key h with ⟨p, s⟩ | ⟨p, s⟩ | s
    · simp only [Bool.or_eq_true, Bool.and_eq_true, Nat.blt_eq, Nat.ble_eq, Nat.beq_eq] at p
      cases s
      show decide (x ≤ y) = false
      rw [decide_eq_false_iff_not, sy_b_le]; omega
    · simp only [Bool.or_eq_true, Bool.and_eq_true, Nat.blt_eq, Nat.ble_eq, Nat.beq_eq] at p
      cases s
      show decide (x ≤ y) = true
      rw [decide_eq_true_eq, sy_b_le]; omega
    · cases s
end
section
/-! ===== what SF computes, SI computes: instruction by instruction ===== -/
variable {S : List Int32} {q : Nat}
theorem sy_i0_s : sy_snd S q sy_i0 sx_i0 := by
  intro ρ E en ls st T ls' st' h a hc hE hl hs H e
  cases e
  exact ⟨_, _, _, rfl, hl, ⟨_, _, rfl, rfl, hs⟩, H⟩
theorem sy_i1_s : sy_snd S q sy_i1 sx_i1 := by
  intro ρ E en ls st T ls' st' h a hc hE hl hs H e
  unfold sy_i1 at e
  split at e
  · next x hx =>
    cases e
    obtain ⟨v, h1, h2⟩ := sy_lk_ok hl hx
    have h2 : v = .int x := h2
    subst h2
    exact ⟨ls', .int x :: st', h, by simp only [sx_i1, h1], hl, ⟨_, _, rfl, rfl, hs⟩, H⟩
  · next k hx =>
    cases e
    obtain ⟨v, h1, x, rfl, h2⟩ := sy_lk_ok hl hx
    exact ⟨ls', .int x :: st', h, by simp only [sx_i1, h1], hl, ⟨_, _, rfl, ⟨x, rfl, h2⟩, hs⟩, H⟩
  · cases e
theorem sy_i2_s : sy_snd S q sy_i2 sx_i2 := by
  intro ρ E en ls st T ls' st' h a hc hE hl hs H e
  unfold sy_i2 at e
  split at e
  · next x hx =>
    cases e
    obtain ⟨v, h1, h2⟩ := sy_lk_ok hl hx
    have h2 : v = .ref x := h2
    subst h2
    exact ⟨ls', .ref x :: st', h, by simp only [sx_i2, h1], hl, ⟨_, _, rfl, rfl, hs⟩, H⟩
  · cases e
theorem sy_i3_s : sy_snd S q sy_i3 sx_i3 := by
  intro ρ E en ls st T ls' st' h a hc hE hl hs H e
  unfold sy_i3 at e
  split at e
  · next x r =>
    cases e
    obtain ⟨v, r', rfl, hv, hr⟩ := hs
    have hv : v = .int x := hv
    subst hv
    exact ⟨_, _, h, rfl, sy_st_ok _ hl rfl, hr, H⟩
  · next k r =>
    cases e
    obtain ⟨v, r', rfl, ⟨x, rfl, hx⟩, hr⟩ := hs
    exact ⟨_, _, h, rfl, sy_st_ok _ hl ⟨x, rfl, hx⟩, hr, H⟩
  · cases e
theorem sy_i4_s : sy_snd S q sy_i4 sx_i4 := by
  intro ρ E en ls st T ls' st' h a hc hE hl hs H e
  unfold sy_i4 at e
  split at e
  · next x r =>
    cases e
    obtain ⟨v, r', rfl, hv, hr⟩ := hs
    have hv : v = .ref x := hv
    subst hv
    exact ⟨_, _, h, rfl, sy_st_ok _ hl rfl, hr, H⟩
  · cases e
theorem sy_i5_s : sy_snd S q sy_i5 sx_i5 := by
  intro ρ E en ls st T ls' st' h a hc hE hl hs H e
  unfold sy_i5 at e
  split at e
  · next w hw =>
    split at e
    · next x hx =>
      cases e
      obtain ⟨v, h1, h2⟩ := sy_lk_ok hl hw
      have h2 := sy_c_ok hE hx h2
      subst h2
      exact ⟨_, st', h, by simp only [sx_i5, h1], sy_st_ok _ hl rfl, hs, H⟩
    · cases e
  · cases e
theorem sy_i6_s : sy_snd S q sy_i6 sx_i6 := by
  intro ρ E en ls st T ls' st' h a hc hE hl hs H e
  unfold sy_i6 at e
  split at e
  · next w r =>
    obtain ⟨v, r', rfl, hv, hr⟩ := hs
    rw [sy_cat_ok hv] at e
    cases hb : Nat.beq v.category 1 with
    | false => rw [hb] at e; cases e
    | true =>
      rw [hb] at e
      cases e
      exact ⟨_, _, h, by simp only [sx_i6, hb, cond_true], hl, hr, H⟩
  · cases e
theorem sy_i7_s : sy_snd S q sy_i7 sx_i7 := by
  intro ρ E en ls st T ls' st' h a hc hE hl hs H e
  unfold sy_i7 at e
  split at e
  · next w r =>
    obtain ⟨v, r', rfl, hv, hr⟩ := hs
    rw [sy_cat_ok hv] at e
    cases hb : Nat.beq v.category 1 with
    | false => rw [hb] at e; cases e
    | true =>
      rw [hb] at e
      cases e
      exact ⟨_, _, h, by simp only [sx_i7, hb, cond_true], hl, ⟨_, _, rfl, hv, _, _, rfl, hv, hr⟩, H⟩
  · cases e
theorem sy_i8_s : sy_snd S q sy_i8 sx_i8 := by
  intro ρ E en ls st T ls' st' h a hc hE hl hs H e
  unfold sy_i8 at e
  split at e
  · next w1 w2 r =>
    obtain ⟨v1, r1, rfl, hv1, v2, r2, rfl, hv2, hr⟩ := hs
    rw [sy_cat_ok hv1, sy_cat_ok hv2] at e
    cases hb : (Nat.beq v1.category 1 && Nat.beq v2.category 1) with
    | false => rw [hb] at e; cases e
    | true =>
      rw [hb] at e
      cases e
      exact ⟨_, _, h, by simp only [sx_i8, hb, cond_true], hl, ⟨_, _, rfl, hv1, _, _, rfl, hv2, _, _, rfl, hv1, _, _, rfl, hv2, hr⟩, H⟩
  · cases e
theorem sy_bin_s (f : Int32 → Int32 → Int32) : sy_snd S q (sy_bin f) (sx_bin f) := by
  intro ρ E en ls st T ls' st' h a hc hE hl hs H e
  unfold sy_bin at e
  split at e
  · next y x r =>
    obtain ⟨vy, r1, rfl, hy, vx, r2, rfl, hx, hr⟩ := hs
    split at e
    · next x1 y1 ex ey =>
      cases e
      have e1 := sy_c_ok hE ex hx
      have e2 := sy_c_ok hE ey hy
      subst e1 e2
      exact ⟨_, _, h, rfl, hl, ⟨_, _, rfl, rfl, hr⟩, H⟩
    · cases hb : (sy_isI x && sy_isI y) with
      | false => rw [hb] at e; cases e
      | true =>
        rw [hb] at e
        cases e
        rw [Bool.and_eq_true] at hb
        obtain ⟨x1, rfl⟩ := sy_isI_ok hb.1 hx
        obtain ⟨y1, rfl⟩ := sy_isI_ok hb.2 hy
        exact ⟨_, _, h, rfl, hl, ⟨_, _, rfl, ⟨_, rfl, fun h9 => by omega⟩, hr⟩, H⟩
  · cases e
theorem sy_and_s : sy_snd S q sy_and (sx_bin (fun x y => x &&& y)) := by
  intro ρ E en ls st T ls' st' h a hc hE hl hs H e
  unfold sy_and at e
  split at e
  · next c r =>
    obtain ⟨vy, r1, rfl, hy, vx, r2, rfl, ⟨x, rfl, hx⟩, hr⟩ := hs
    have hy : vy = .int c := hy
    subst hy
    cases hb : decide (c = 31) with
    | false => rw [hb] at e; cases e
    | true =>
      rw [hb] at e
      cases e
      have hb := of_decide_eq_true hb
      subst hb
      exact ⟨_, _, h, rfl, hl, ⟨_, _, rfl, ⟨_, rfl, fun _ => by rw [hx (by omega), hc.2]⟩, hr⟩, H⟩
  · exact sy_bin_s _ ρ E en ls st T ls' st' h a hc hE hl hs H e
theorem sy_div_s (f : Int32 → Int32 → Int32) : sy_snd S q (sy_div f) (sx_div f) := by
  intro ρ E en ls st T ls' st' h a hc hE hl hs H e
  unfold sy_div at e
  split at e
  · next y x r =>
    obtain ⟨vy, r1, rfl, hy, vx, r2, rfl, hx, hr⟩ := hs
    split at e
    · next x1 y1 ex ey =>
      have e1 := sy_c_ok hE ex hx
      have e2 := sy_c_ok hE ey hy
      subst e1 e2
      by_cases h0 : y1 = 0
      · rw [if_pos h0] at e; cases e
      · rw [if_neg h0] at e
        cases e
        exact ⟨_, _, h, by simp only [sx_div, if_neg h0], hl, ⟨_, _, rfl, rfl, hr⟩, H⟩
    · cases e
  · cases e
theorem sy_i20_s : sy_snd S q sy_i20 sx_i20 := by
  intro ρ E en ls st T ls' st' h a hc hE hl hs H e
  unfold sy_i20 at e
  split at e
  · next x r =>
    obtain ⟨vx, r1, rfl, hx, hr⟩ := hs
    split at e
    · next x1 ex =>
      cases e
      have e1 := sy_c_ok hE ex hx
      subst e1
      exact ⟨_, _, h, rfl, hl, ⟨_, _, rfl, rfl, hr⟩, H⟩
    · cases e
  · cases e
theorem sy_i21_s : sy_snd S q sy_i21 sx_i21 := by
  intro ρ E en ls st T ls' st' h a hc hE hl hs H e
  unfold sy_i21 at e
  split at e
  · next x r =>
    obtain ⟨vx, r1, rfl, hx, hr⟩ := hs
    split at e
    · next x1 ex =>
      cases e
      have e1 := sy_c_ok hE ex hx
      subst e1
      exact ⟨_, _, h, rfl, hl, ⟨_, _, rfl, rfl, hr⟩, H⟩
    · cases hb : sy_isI x with
      | false => rw [hb] at e; cases e
      | true =>
        rw [hb] at e
        cases e
        obtain ⟨x1, rfl⟩ := sy_isI_ok hb hx
        exact ⟨_, _, h, rfl, hl, ⟨_, _, rfl, ⟨_, rfl, fun h9 => by omega⟩, hr⟩, H⟩
  · cases e
theorem sy_i22_s : sy_snd S q sy_i22 sx_i22 := by
  intro ρ E en ls st T ls' st' h a hc hE hl hs H e
  unfold sy_i22 at e
  split at e
  · next y x r =>
    cases e
    obtain ⟨vy, r1, rfl, hy, vx, r2, rfl, hx, hr⟩ := hs
    have hy : vy = .long y := hy
    have hx : vx = .long x := hx
    subst hx hy
    exact ⟨_, _, h, rfl, hl, ⟨_, _, rfl, rfl, hr⟩, H⟩
  · cases e
theorem sy_if1_s (r : Nat) (hr : r < 6) (f : Int32 → Bool) (hf : ∀ x, f x = sy_rel r x 0) : sy_snd S q (sy_if1 r) (sx_if1 f) := by
  intro ρ E en ls st T ls' st' h a hc hE hl hs H e
  unfold sy_if1 at e
  split at e
  · next x s =>
    obtain ⟨vx, r1, rfl, hx, hs⟩ := hs
    split at e
    · next lo hi ei =>
      obtain ⟨x1, rfl, h1, h2⟩ := sy_iv_ok hE ei hx
      split at e
      · next z ez =>
        cases e
        have hz := sy_dec_ok hr ez h1 h2 (y := 0) (by decide) (by decide)
        rw [← hf] at hz
        exact ⟨_, _, h, by simp only [sx_if1, hz], hl, hs, H⟩
      · cases e
    · cases e
  · cases e
theorem sy_if2_s (r : Nat) (hr : r < 6) (f : Int32 → Int32 → Bool) (hf : ∀ x y, f x y = sy_rel r x y) : sy_snd S q (sy_if2 r) (sx_if2 f) := by
  intro ρ E en ls st T ls' st' h a hc hE hl hs H e
  unfold sy_if2 at e
  split at e
  · next y x s =>
    obtain ⟨vy, r1, rfl, hy, vx, r2, rfl, hx, hs⟩ := hs
    split at e
    · next a1 b1 c1 d1 ei ej =>
      obtain ⟨x1, rfl, h1, h2⟩ := sy_iv_ok hE ei hx
      obtain ⟨y1, rfl, h3, h4⟩ := sy_iv_ok hE ej hy
      split at e
      · next z ez =>
        cases e
        have hz := sy_dec_ok hr ez h1 h2 h3 h4
        rw [← hf] at hz
        exact ⟨_, _, h, by simp only [sx_if2, hz], hl, hs, H⟩
      · cases e
    · cases e
  · cases e
theorem sy_i35_s : sy_snd S q sy_i35 sx_i35 := by
  intro ρ E en ls st T ls' st' h a hc hE hl hs H e
  cases e
  exact ⟨_, _, _, rfl, hl, hs, H⟩
theorem sy_i36_s (cd : List (List sx_N)) : sy_snd S q (sy_i36 cd) (sx_i36 cd) := by
  intro ρ E en ls st T ls' st' h a hc hE hl hs H e
  unfold sy_i36 at e
  split at e
  · next d lo hi offs x r ei =>
    obtain ⟨vx, r1, rfl, hx, hr⟩ := hs
    split at e
    · next x1 ex =>
      have e1 := sy_c_ok hE ex hx
      subst e1
      split at e
      · next t et =>
        cases e
        exact ⟨_, _, h, by simp only [sx_i36, ei, et], hl, hr, H⟩
      · cases e
    · split at e
      · next lo1 hi1 ev =>
        obtain ⟨x1, rfl, h1, h2⟩ := sy_iv_ok hE ev hx
        cases hb : (Nat.blt hi1 (lo + 2147483648).toNat || Nat.blt (hi + 2147483648).toNat lo1) with
        | false => rw [hb] at e; cases e
        | true =>
          rw [hb] at e
          rw [Bool.or_eq_true, Nat.blt_eq, Nat.blt_eq] at hb
          have hout : x1.toInt < lo ∨ hi < x1.toInt := by
            rw [sy_toInt]
            omega
          have e : (match sx_to cd ((en.2.2.2.1 : Int) + d) with
            | some t => some (some t, ls, r, T)
            | none => none) = some a := e
          split at e
          · next t et =>
            cases e
            exact ⟨_, _, h, by simp only [sx_i36, ei, sx_sw, if_pos hout, et], hl, hr, H⟩
          · cases e
      · cases e
  · cases e
end
section
/-! ===== what SF computes, SI computes: the heap's instructions ===== -/
variable {S : List Int32} {q : Nat}
theorem sy_ix_ok {ρ : Nat → Int32} {E : sy_E} (hE : sy_e ρ E) {a : sy_V} {v : Value} {n j : Nat} (h : sy_ix E a n = some j) (hv : sy_v ρ a v) : ∃ x, v = .int x ∧ sx_ix x n = some j := by
  unfold sy_ix at h
  split at h
  · next x hx => exact ⟨x, sy_c_ok hE hx hv, h⟩
  · cases h
theorem sy_ce_l {x y : sx_C} (h : sy_ce (.inr (.inr (.inl x))) (some y)) : y = x := Option.some.inj h
theorem sy_ce_r {t n : Nat} {y : sx_C} (h : sy_ce (.inr (.inr (.inr (t, n)))) (some y)) : ∃ l, y = .inr (.inl (t, n, l)) := by
  obtain ⟨l, hl⟩ := h
  exact ⟨l, Option.some.inj hl⟩
theorem sy_ce_p {t n A : Nat} {y : sx_C} (h : sy_ce (.inr (.inl (t, n, A))) (some y)) : ∃ l, y = .inr (.inl (t, n, l)) ∧ ∀ j, (sx_ag 0 l j).toBitVec.toNat = sy_pg A j := by
  obtain ⟨l, hl, hf⟩ := h
  exact ⟨l, Option.some.inj hl, hf⟩
theorem sy_ofNat_toNat (x : Int32) : Int32.ofNat x.toBitVec.toNat = x := by
  apply Int32.toBitVec_inj.mp
  apply BitVec.eq_of_toNat_eq
  have h := x.toBitVec.isLt
  rw [Int32.toBitVec_ofNat', BitVec.toNat_ofNat]
  omega
theorem sy_pg_v {l : List (List Int32)} {A : Nat} (hf : ∀ j, (sx_ag 0 l j).toBitVec.toNat = sy_pg A j) (j : Nat) : Value.int (sx_ag 0 l j) = .int (Int32.ofNat (sy_pg A j)) := by
  rw [← hf, sy_ofNat_toNat]
theorem sy_ast_ok {l : List (List Int32)} {A : Nat} (hf : ∀ j, (sx_ag 0 l j).toBitVec.toNat = sy_pg A j) (t n j : Nat) (x : Int32) : sy_ce (.inr (.inl (t, n, sy_ps A j x.toBitVec.toNat))) (some (.inr (.inl (t, n, sx_as 0 l j x)))) := by
  refine ⟨_, rfl, fun i => ?_⟩
  rw [sx_ag_as, sy_pg_ps j i x.toBitVec.isLt]
  by_cases e : i = j
  · rw [if_pos e, if_pos e]
  · rw [if_neg e, if_neg e, hf]
theorem sy_pc_ok {l g : List (List Int32)} {F G : Nat} (hF : ∀ j, (sx_ag 0 l j).toBitVec.toNat = sy_pg F j) (hG : ∀ j, (sx_ag 0 g j).toBitVec.toNat = sy_pg G j) (sp dp : Nat) : ∀ m j, (sx_ag 0 (sx_cpy l g sp dp m) j).toBitVec.toNat = sy_pg (sy_pc F G sp dp m) j
  | 0, j => hG j
  | m + 1, j => by
    have e1 : sx_cpy l g sp dp (m + 1) = sx_as 0 (sx_cpy l g sp dp m) (dp + m) (sx_ag 0 l (sp + m)) := rfl
    have e2 : sy_pc F G sp dp (m + 1) = sy_ps (sy_pc F G sp dp m) (dp + m) (sy_pg F (sp + m)) := rfl
    have hlt : sy_pg F (sp + m) < 4294967296 := Nat.mod_lt _ (by omega)
    rw [e1, e2, sx_ag_as, sy_pg_ps _ _ hlt]
    by_cases e : j = dp + m
    · rw [if_pos e, if_pos e, hF]
    · rw [if_neg e, if_neg e, sy_pc_ok hF hG sp dp m]
theorem sy_i37_s : sy_snd S q (sy_i37 q) (sx_i37 S) := by
  intro ρ E en ls st T ls' st' h a hc hE hl hs H e
  unfold sy_i37 at e
  split at e
  · next r =>
    obtain ⟨v, r1, rfl, hv, hr⟩ := hs
    have hv : v = .ref 0 := hv
    subst hv
    cases hb : Nat.beq q 99 with
    | true => rw [hb] at e; cases e
    | false =>
      rw [hb] at e
      cases e
      exact ⟨_, .int (Int32.ofNat S.length) :: r1, h, by simp only [sx_i37], hl, ⟨_, _, rfl, (show Value.int (Int32.ofNat S.length) = .int (Int32.ofNat q) by rw [(hc.1 hb).1]), hr⟩, H⟩
  · next v r hne =>
    obtain ⟨w, r1, rfl, hv, hr⟩ := hs
    split at e
    · next k a1 ha =>
      cases e
      obtain ⟨rfl, hk, x, h1, h2⟩ := sy_arr_ok H ha hv
      obtain ⟨l, rfl, -⟩ := sy_ce_p (t := a1.1) (n := a1.2.1) (A := a1.2.2) h2
      exact ⟨_, _, h, by simp only [sx_i37, h1], hl, ⟨_, _, rfl, rfl, hr⟩, H⟩
    · next k a1 ha =>
      cases e
      obtain ⟨rfl, hk, x, h1, h2⟩ := sy_arr_ok H ha hv
      have h2 := sy_ce_l h2
      subst h2
      exact ⟨_, _, h, by simp only [sx_i37, h1], hl, ⟨_, _, rfl, rfl, hr⟩, H⟩
    · next k a1 ha =>
      cases e
      obtain ⟨rfl, hk, x, h1, h2⟩ := sy_arr_ok H ha hv
      obtain ⟨l, rfl⟩ := sy_ce_r (t := a1.1) (n := a1.2) h2
      exact ⟨_, _, h, by simp only [sx_i37, h1], hl, ⟨_, _, rfl, rfl, hr⟩, H⟩
    · cases e
  · cases e
theorem sy_i38_s : sy_snd S q (sy_i38 q) (sx_i38 S) := by
  intro ρ E en ls st T ls' st' h a hc hE hl hs H e
  unfold sy_i38 at e
  split at e
  · next i r =>
    obtain ⟨vi, r1, rfl, hi, v, r2, rfl, hv, hr⟩ := hs
    have hv : v = .ref 0 := hv
    subst hv
    cases hb : Nat.beq q 99 with
    | true => rw [hb] at e; cases e
    | false =>
      rw [hb] at e
      have e : (match sy_ix E i q with
        | some j => some (none, ls, .inr j :: r, T)
        | none => none) = some a := e
      split at e
      · next j ej =>
        cases e
        obtain ⟨x, rfl, hx⟩ := sy_ix_ok hE ej hi
        have hq : sx_ix x S.length = some j := by rw [(hc.1 hb).1]; exact hx
        refine ⟨_, _, h, by simp only [sx_i38, hq], hl, ⟨_, _, rfl, ⟨_, rfl, fun _ => (hc.1 hb).2 j (sx_ix_eq hx).1⟩, hr⟩, H⟩
      · cases e
  · next i w r hne =>
    obtain ⟨vi, r1, rfl, hi, v, r2, rfl, hv, hr⟩ := hs
    generalize ho : sy_arr T w = o at e
    unfold sy_ald at e
    split at e
    · next k n A =>
      unfold sy_ald1 at e
      split at e
      · next j ej =>
        cases e
        obtain ⟨x, rfl, hx⟩ := sy_ix_ok hE ej hi
        obtain ⟨rfl, hk, y, h1, h2⟩ := sy_arr_ok H ho hv
        obtain ⟨l, rfl, hf⟩ := sy_ce_p h2
        exact ⟨_, _, h, by simp only [sx_i38, h1, hx], hl, ⟨_, _, rfl, sy_pg_v hf j, hr⟩, H⟩
      · cases e
    · next k n =>
      unfold sy_ald2 at e
      split at e
      · next j ej =>
        cases e
        obtain ⟨x, rfl, hx⟩ := sy_ix_ok hE ej hi
        obtain ⟨rfl, hk, y, h1, h2⟩ := sy_arr_ok H ho hv
        obtain ⟨l, rfl⟩ := sy_ce_r h2
        exact ⟨_, _, h, by simp only [sx_i38, h1, hx]; rfl, hl, ⟨_, _, rfl, ⟨_, rfl, fun h9 => by omega⟩, hr⟩, H⟩
      · cases e
    · cases e
  · cases e
theorem sy_i39_s : sy_snd S q sy_i39 sx_i39 := by
  intro ρ E en ls st T ls' st' h a hc hE hl hs H e
  unfold sy_i39 at e
  split at e
  · next i w r =>
    obtain ⟨vi, r1, rfl, hi, v, r2, rfl, hv, hr⟩ := hs
    split at e
    · next k n A ha =>
      unfold sy_ald1 at e
      split at e
      · next j ej =>
        cases e
        obtain ⟨x, rfl, hx⟩ := sy_ix_ok hE ej hi
        obtain ⟨rfl, hk, y, h1, h2⟩ := sy_arr_ok H ha hv
        obtain ⟨l, rfl, hf⟩ := sy_ce_p h2
        exact ⟨_, _, h, by simp only [sx_i39, h1, hx], hl, ⟨_, _, rfl, sy_pg_v hf j, hr⟩, H⟩
      · cases e
    · next k n A ha =>
      unfold sy_ald1 at e
      split at e
      · next j ej =>
        cases e
        obtain ⟨x, rfl, hx⟩ := sy_ix_ok hE ej hi
        obtain ⟨rfl, hk, y, h1, h2⟩ := sy_arr_ok H ha hv
        obtain ⟨l, rfl, hf⟩ := sy_ce_p h2
        exact ⟨_, _, h, by simp only [sx_i39, h1, hx], hl, ⟨_, _, rfl, sy_pg_v hf j, hr⟩, H⟩
      · cases e
    · cases e
  · cases e
theorem sy_i40_s : sy_snd S q sy_i40 sx_i40 := by
  intro ρ E en ls st T ls' st' h a hc hE hl hs H e
  unfold sy_i40 at e
  split at e
  · next i w r =>
    obtain ⟨vi, r1, rfl, hi, v, r2, rfl, hv, hr⟩ := hs
    split at e
    · next k n l ha =>
      split at e
      · next j ej =>
        cases e
        obtain ⟨x, rfl, hx⟩ := sy_ix_ok hE ej hi
        obtain ⟨rfl, hk, y, h1, h2⟩ := sy_arr_ok H ha hv
        have h2 := sy_ce_l h2
        subst h2
        exact ⟨_, _, h, by simp only [sx_i40, h1, hx], hl, ⟨_, _, rfl, rfl, hr⟩, H⟩
      · cases e
    · cases e
  · cases e
theorem sy_i41_s : sy_snd S q sy_i41 sx_i41 := by
  intro ρ E en ls st T ls' st' h a hc hE hl hs H e
  unfold sy_i41 at e
  split at e
  · next i w r =>
    obtain ⟨vi, r1, rfl, hi, v, r2, rfl, hv, hr⟩ := hs
    split at e
    · next k ci n l ha =>
      split at e
      · next j ej =>
        cases e
        obtain ⟨x, rfl, hx⟩ := sy_ix_ok hE ej hi
        obtain ⟨rfl, hk, y, h1, h2⟩ := sy_arr_ok H ha hv
        have h2 := sy_ce_l h2
        subst h2
        exact ⟨_, _, h, by simp only [sx_i41, h1, hx], hl, ⟨_, _, rfl, rfl, hr⟩, H⟩
      · cases e
    · cases e
  · cases e
theorem sy_i42_s : sy_snd S q sy_i42 sx_i42 := by
  intro ρ E en ls st T ls' st' h a hc hE hl hs H e
  unfold sy_i42 at e
  split at e
  · next x i w r =>
    obtain ⟨vx, r0, rfl, hx, vi, r1, rfl, hi, v, r2, rfl, hv, hr⟩ := hs
    split at e
    · next k n A ha =>
      split at e
      · next j ej =>
        obtain ⟨i1, rfl, hi1⟩ := sy_ix_ok hE ej hi
        obtain ⟨rfl, hk, y, h1, h2⟩ := sy_arr_ok H ha hv
        obtain ⟨l, rfl, hf⟩ := sy_ce_p h2
        split at e
        · next x1 ex =>
          unfold sy_ast at e
          cases e
          have e1 := sy_c_ok hE ex hx
          subst e1
          exact ⟨_, _, _, by simp only [sx_i42, h1, hi1, sx_frc_eq], hl, hr, sy_set_h H hk (sy_ast_ok hf _ _ _ _)⟩
        · cases hb : sy_isI x with
          | false => rw [hb] at e; cases e
          | true =>
            rw [hb] at e
            cases e
            obtain ⟨x1, rfl⟩ := sy_isI_ok hb hx
            exact ⟨_, _, _, by simp only [sx_i42, h1, hi1, sx_frc_eq]; rfl, hl, hr, sy_set_h H hk ⟨_, rfl⟩⟩
      · cases e
    · next k n ha =>
      split at e
      · next j ej =>
        obtain ⟨i1, rfl, hi1⟩ := sy_ix_ok hE ej hi
        obtain ⟨rfl, hk, y, h1, h2⟩ := sy_arr_ok H ha hv
        obtain ⟨l, rfl⟩ := sy_ce_r h2
        cases hb : sy_isI x with
        | false => rw [hb] at e; cases e
        | true =>
          rw [hb] at e
          cases e
          obtain ⟨x1, rfl⟩ := sy_isI_ok hb hx
          exact ⟨_, _, _, by simp only [sx_i42, h1, hi1, sx_frc_eq]; rfl, hl, hr, sy_keep H ha hk⟩
      · cases e
    · cases e
  · cases e
theorem sy_i43_s : sy_snd S q sy_i43 sx_i43 := by
  intro ρ E en ls st T ls' st' h a hc hE hl hs H e
  unfold sy_i43 at e
  split at e
  · next x i w r =>
    obtain ⟨vx, r0, rfl, hx, vi, r1, rfl, hi, v, r2, rfl, hv, hr⟩ := hs
    split at e
    · next k n A ha =>
      split at e
      · next j ej =>
        obtain ⟨i1, rfl, hi1⟩ := sy_ix_ok hE ej hi
        obtain ⟨rfl, hk, y, h1, h2⟩ := sy_arr_ok H ha hv
        obtain ⟨l, rfl, hf⟩ := sy_ce_p h2
        split at e
        · next x1 ex =>
          unfold sy_ast at e
          cases e
          have e1 := sy_c_ok hE ex hx
          subst e1
          exact ⟨_, _, _, by simp only [sx_i43, h1, hi1, sx_frc_eq], hl, hr, sy_set_h H hk (sy_ast_ok hf _ _ _ _)⟩
        · cases e
      · cases e
    · next k n A ha =>
      split at e
      · next j ej =>
        obtain ⟨i1, rfl, hi1⟩ := sy_ix_ok hE ej hi
        obtain ⟨rfl, hk, y, h1, h2⟩ := sy_arr_ok H ha hv
        obtain ⟨l, rfl, hf⟩ := sy_ce_p h2
        split at e
        · next x1 ex =>
          unfold sy_ast at e
          cases e
          have e1 := sy_c_ok hE ex hx
          subst e1
          exact ⟨_, _, _, by simp only [sx_i43, h1, hi1, sx_frc_eq], hl, hr, sy_set_h H hk (sy_ast_ok hf _ _ _ _)⟩
        · cases hb : sy_isI x with
          | false => rw [hb] at e; cases e
          | true =>
            rw [hb] at e
            cases e
            obtain ⟨x1, rfl⟩ := sy_isI_ok hb hx
            exact ⟨_, _, _, by simp only [sx_i43, h1, hi1, sx_frc_eq]; rfl, hl, hr, sy_set_h H hk ⟨_, rfl⟩⟩
      · cases e
    · next k n ha =>
      split at e
      · next j ej =>
        obtain ⟨i1, rfl, hi1⟩ := sy_ix_ok hE ej hi
        obtain ⟨rfl, hk, y, h1, h2⟩ := sy_arr_ok H ha hv
        obtain ⟨l, rfl⟩ := sy_ce_r h2
        cases hb : sy_isI x with
        | false => rw [hb] at e; cases e
        | true =>
          rw [hb] at e
          cases e
          obtain ⟨x1, rfl⟩ := sy_isI_ok hb hx
          exact ⟨_, _, _, by simp only [sx_i43, h1, hi1, sx_frc_eq]; rfl, hl, hr, sy_keep H ha hk⟩
      · cases e
    · cases e
  · cases e
theorem sy_i44_s : sy_snd S q sy_i44 sx_i44 := by
  intro ρ E en ls st T ls' st' h a hc hE hl hs H e
  unfold sy_i44 at e
  split at e
  · next x i w r =>
    obtain ⟨vx, r0, rfl, hx, vi, r1, rfl, hi, v, r2, rfl, hv, hr⟩ := hs
    have hx : vx = .long x := hx
    subst hx
    split at e
    · next k n l ha =>
      split at e
      · next j ej =>
        cases e
        obtain ⟨i1, rfl, hi1⟩ := sy_ix_ok hE ej hi
        obtain ⟨rfl, hk, y, h1, h2⟩ := sy_arr_ok H ha hv
        have h2 := sy_ce_l h2
        subst h2
        exact ⟨_, _, _, by simp only [sx_i44, h1, hi1], hl, hr, sy_set_h H hk rfl⟩
      · cases e
    · cases e
  · cases e
theorem sy_i45_s : sy_snd S q sy_i45 sx_i45 := by
  intro ρ E en ls st T ls' st' h a hc hE hl hs H e
  unfold sy_i45 at e
  split at e
  · next p i w r =>
    obtain ⟨vx, r0, rfl, hx, vi, r1, rfl, hi, v, r2, rfl, hv, hr⟩ := hs
    have hx : vx = .ref (p + 1) := hx
    subst hx
    split at e
    · next k ci n l o ha ho =>
      cases hb : Nat.beq o.1 ci with
      | false => rw [hb] at e; cases e
      | true =>
        rw [hb] at e
        have e : (match sy_ix E i n with
          | some j => some (none, ls, r, sy_set T k (.inr (.inr (.inl (.inr (.inr (.inr (ci, n, sx_as none l j (some (p + 1))))))))))
          | none => none) = some a := e
        split at e
        · next j ej =>
          cases e
          obtain ⟨i1, rfl, hi1⟩ := sy_ix_ok hE ej hi
          obtain ⟨rfl, hk, y, h1, h2⟩ := sy_arr_ok H ha hv
          have h2 := sy_ce_l h2
          subst h2
          obtain ⟨fs, h3, -⟩ := H.2.2.2 p _ ho
          exact ⟨_, _, _, by simp only [sx_i45, h1, h3, hi1, hb, cond_true], hl, hr, sy_set_h H hk rfl⟩
        · cases e
    · cases e
  · cases e
theorem sy_i46_s : sy_snd S q sy_i46 sx_i46 := by
  intro ρ E en ls st T ls' st' h a hc hE hl hs H e
  unfold sy_i46 at e
  split at e
  · next w r =>
    obtain ⟨v, r2, rfl, hv, hr⟩ := hs
    split at e
    · next k ci f ha =>
      obtain ⟨rfl, hk, y, h1, h2⟩ := sy_arr_ok H ha hv
      obtain ⟨fs, h2, h3⟩ := h2
      have h2 := Option.some.inj h2
      subst h2
      cases hb : Nat.beq ci en.2.1 with
      | false => rw [hb] at e; cases e
      | true =>
        rw [hb] at e
        have e : (match sy_fd f en.2.2.1 with
          | some w => some (none, ls, .inl w :: r, T)
          | none => none) = some a := e
        split at e
        · next z ez =>
          cases e
          have ez1 : sx_lo fs en.2.2.1 = some z := (h3 _).trans ez
          exact ⟨_, _, h, by simp only [sx_i46, h1, hb, ez1, cond_true], hl, ⟨_, _, rfl, rfl, hr⟩, H⟩
        · cases e
    · cases e
  · cases e
theorem sy_fs_ok {fs : List Value} {f : List (List Value)} (h : ∀ b, sx_lo fs b = sy_fd f b) {k : Nat} {z w : Value} (hz : sy_fd f k = some z) : k < fs.length ∧ ∀ b, sx_lo (sx_lset w w fs k) b = sy_fd (sy_fs f k w) b := by
  have h1 : fs[k]? = some z := by rw [← sx_lo_eq, h, hz]
  have hlt : k < fs.length := (List.getElem?_eq_some_iff.mp h1).1
  have h2 : (sx_lg [] f (k / 8))[k % 8]? = some z := by rw [← sx_lo_eq]; exact hz
  have hlt2 : k % 8 < (sx_lg [] f (k / 8)).length := (List.getElem?_eq_some_iff.mp h2).1
  refine ⟨hlt, fun b => ?_⟩
  rw [sx_lo_eq, sx_lset_at w w fs k hlt]
  rw [sy_fd_eq, sy_fs_eq, sx_lg_lset]
  by_cases e1 : b / 8 = k / 8
  · rw [if_pos e1, sx_lo_eq, sx_lset_at _ _ _ _ hlt2]
    by_cases e2 : b % 8 = k % 8
    · rw [if_pos e2, if_pos (by omega)]
    · rw [if_neg e2, if_neg (by omega), ← sx_lo_eq, h, ← sx_lo_eq, ← e1]
      rfl
  · rw [if_neg e1, if_neg (by omega), ← sx_lo_eq, h]
    rfl
theorem sy_i47_s : sy_snd S q sy_i47 sx_i47 := by
  intro ρ E en ls st T ls' st' h a hc hE hl hs H e
  unfold sy_i47 at e
  split at e
  · next z w r =>
    obtain ⟨vz, r1, rfl, hz, v, r2, rfl, hv, hr⟩ := hs
    split at e
    · next k ci f w1 ha hw =>
      obtain ⟨rfl, hk, y, h1, h2⟩ := sy_arr_ok H ha hv
      obtain ⟨fs, h2, h3⟩ := h2
      have h2 := Option.some.inj h2
      subst h2
      have e1 := sy_val_ok hE hw hz
      subst e1
      cases hb : (Nat.beq ci en.2.1 && sx_pv (en.2.2.1 / 1000) vz) with
      | false => rw [hb] at e; cases e
      | true =>
        rw [hb] at e
        have e : (match sy_fd f (en.2.2.1 % 1000) with
          | some _ => some (none, ls, r, sy_set T k (.inl (ci, sy_fs f (en.2.2.1 % 1000) vz)))
          | none => none) = some a := e
        split at e
        · next z0 ez =>
          cases e
          obtain ⟨k1, k2⟩ := sy_fs_ok (w := vz) h3 ez
          rw [Bool.and_eq_true] at hb
          have hb2 : Nat.blt (en.2.2.1 % 1000) fs.length = true := by rw [Nat.blt_eq]; exact k1
          exact ⟨_, _, _, by simp only [sx_i47, h1, hb.1, hb2, hb.2, Bool.and_self, cond_true], hl, hr, sy_set_h H hk ⟨_, rfl, k2⟩⟩
        · cases e
    · cases e
  · cases e
/-- what new objects hold, in rows -/
def sy_Dok (D : Nat → List Value) (Dn : Nat → Nat × List (List Value)) : Prop := ∀ c, (Dn c).1 = (D c).length ∧ ∀ b, sx_lo (D c) b = sy_fd (Dn c).2 b
theorem sy_i48_s (lim : Nat × Nat) {D : Nat → List Value} {Dn : Nat → Nat × List (List Value)} (hD : sy_Dok D Dn) : sy_snd S q (sy_i48 lim Dn) (sx_i48 lim D) := by
  intro ρ E en ls st T ls' st' h a hc hE hl hs H e
  unfold sy_i48 at e
  rw [(hD en.2.1).1] at e
  exact sy_new_ok (c := .inl (en.2.1, (Dn en.2.1).2)) (x := .inl (en.2.1, D en.2.1)) hl hs H ⟨_, rfl, (hD en.2.1).2⟩ e
theorem sy_nar_s (lim : Nat × Nat) (t : Nat) : sy_snd S q (sy_nar lim t) (sx_nar lim t) := by
  intro ρ E en ls st T ls' st' h a hc hE hl hs H e
  unfold sy_nar at e
  split at e
  · next x r =>
    obtain ⟨v, r2, rfl, hv, hr⟩ := hs
    split at e
    · next n en1 =>
      obtain ⟨x1, rfl, hx⟩ := sy_ix_ok hE en1 hv
      have h9 := sy_new_ok (c := .inr (.inl (t, n, 0))) (x := .inr (.inl (t, n, []))) hl hr H ⟨[], rfl, fun j => by rw [sy_pg_zero]; rfl⟩ e
      simp only [sx_nar, hx]
      exact h9
    · cases e
  · cases e
theorem sy_i52_s (lim : Nat × Nat) : sy_snd S q (sy_i52 lim) (sx_i52 lim) := by
  intro ρ E en ls st T ls' st' h a hc hE hl hs H e
  unfold sy_i52 at e
  split at e
  · next x r =>
    obtain ⟨v, r2, rfl, hv, hr⟩ := hs
    split at e
    · next n en1 =>
      obtain ⟨x1, rfl, hx⟩ := sy_ix_ok hE en1 hv
      have h9 := sy_new_ok (c := .inr (.inr (.inl (.inr (.inr (.inl (n, []))))))) (x := .inr (.inr (.inl (n, [])))) hl hr H rfl e
      simp only [sx_i52, hx]
      exact h9
    · cases e
  · cases e
theorem sy_i53_s (lim : Nat × Nat) : sy_snd S q (sy_i53 lim) (sx_i53 lim) := by
  intro ρ E en ls st T ls' st' h a hc hE hl hs H e
  unfold sy_i53 at e
  split at e
  · next x r =>
    obtain ⟨v, r2, rfl, hv, hr⟩ := hs
    split at e
    · next n en1 =>
      obtain ⟨x1, rfl, hx⟩ := sy_ix_ok hE en1 hv
      have h9 := sy_new_ok (c := .inr (.inr (.inl (.inr (.inr (.inr (en.2.1, n, []))))))) (x := .inr (.inr (.inr (en.2.1, n, [])))) hl hr H rfl e
      simp only [sx_i53, hx]
      exact h9
    · cases e
  · cases e
theorem sy_i54_s : sy_snd S q sy_i54 sx_i54 := by
  intro ρ E en ls st T ls' st' h a hc hE hl hs H e
  unfold sy_i54 at e
  split at e
  · next x r =>
    obtain ⟨v, r2, rfl, hv, hr⟩ := hs
    have hv : v = .ref x := hv
    subst hv
    rw [sy_cats_ok hr] at e
    cases hb : Nat.ble (r2.map fun v => v.category).sum 8 with
    | false => rw [hb] at e; cases e
    | true =>
      rw [hb] at e
      cases e
      exact ⟨_, _, h, by simp only [sx_i54, hb, cond_true], hl, hr, H⟩
  · cases e
theorem sy_i55_s : sy_snd S q sy_i55 sx_i55 := by
  intro ρ E en ls st T ls' st' h a hc hE hl hs H e
  unfold sy_i55 at e
  split at e
  · next n dp w sp v r =>
    obtain ⟨vn, r0, rfl, hn, vd, r1, rfl, hd, vw, r2, rfl, hw, vs, r3, rfl, hsp, vv, r4, rfl, hv, hr⟩ := hs
    split at e
    · next k0 n0 f k n1 g hf hg =>
      obtain ⟨rfl, hk0, y0, a1, a2⟩ := sy_arr_ok H hf hv
      obtain ⟨lf, rfl, hf0⟩ := sy_ce_p a2
      obtain ⟨rfl, hk, y, b1, b2⟩ := sy_arr_ok H hg hw
      obtain ⟨lg, rfl, hg0⟩ := sy_ce_p b2
      split at e
      · next s1 d1 m1 es ed em =>
        obtain ⟨x1, rfl, c1⟩ := sy_ix_ok hE es hsp
        obtain ⟨x2, rfl, c2⟩ := sy_ix_ok hE ed hd
        obtain ⟨x3, rfl, c3⟩ := sy_ix_ok hE em hn
        rw [sy_cats_ok hr] at e
        cases hb : (Nat.ble (s1 + m1) n0 && Nat.ble (d1 + m1) n1 && Nat.ble (r4.map fun v => v.category).sum 8) with
        | false => rw [hb] at e; cases e
        | true =>
          rw [hb] at e
          cases e
          exact ⟨_, _, _, by simp only [sx_i55, a1, b1, c1, c2, c3, hb, cond_true], hl, hr, sy_set_h H hk ⟨_, rfl, sy_pc_ok hf0 hg0 _ _ _⟩⟩
      · cases e
    · cases e
  · cases e
theorem sy_no_s : sy_snd S q sy_no sx_no := by
  intro ρ E en ls st T ls' st' h a hc hE hl hs H e
  cases e
/-- the same, the instruction's place and itself left out -/
def sy_sndF (S : List Int32) (q : Nat) (f : sy_I) (g : sx_I) : Prop := ∀ ρ E o a b pc ln ins ls st T ls' st' h r, sy_cx ρ S q → sy_e ρ E → sy_ll ρ ls ls' → sy_ss ρ st st' → sy_h T h → f (o, a, b, 0, 0, .nop) E ls st T = some r → sy_to ρ r (g (o, a, b, pc, ln, ins) ls' st' h)
theorem sy_F_of {f : sy_I} {g : sx_I} (h : sy_snd S q f g) (hl : ∀ o a b pc ln ins, f (o, a, b, 0, 0, .nop) = f (o, a, b, pc, ln, ins)) : sy_sndF S q f g := by
  intro ρ E o a b pc ln ins ls st T ls' st' h9 r h1 h2 h3 h4 h5 e
  rw [hl o a b pc ln ins] at e
  exact h ρ E _ ls st T ls' st' h9 r h1 h2 h3 h4 h5 e
theorem sy_no_F {g : sx_I} : sy_sndF S q sy_no g := by
  intro ρ E o a b pc ln ins ls st T ls' st' h9 r h1 h2 h3 h4 h5 e
  cases e
theorem sy_bif_s (b : Bool) {f f' : sy_I} {g g' : sx_I} (h : sy_sndF S q f g) (h' : sy_sndF S q f' g') : sy_sndF S q (bif b then f else f') (bif b then g else g') := by
  cases b
  · exact h'
  · exact h
theorem sy_g0_s (lim : Nat × Nat) {D : Nat → List Value} {Dn : Nat → Nat × List (List Value)} (hD : sy_Dok D Dn) (cd : List (List sx_N)) (o : Nat) : sy_sndF S q (sy_g0 lim Dn q o) (sx_g0 lim D S cd o) := (sy_bif_s _ (sy_bif_s _ (sy_bif_s _ (sy_F_of sy_i0_s (fun _ _ _ _ _ _ => rfl)) (sy_F_of sy_i1_s (fun _ _ _ _ _ _ => rfl))) (sy_bif_s _ (sy_F_of sy_i2_s (fun _ _ _ _ _ _ => rfl)) (sy_F_of sy_i3_s (fun _ _ _ _ _ _ => rfl)))) (sy_bif_s _ (sy_bif_s _ (sy_F_of sy_i4_s (fun _ _ _ _ _ _ => rfl)) (sy_F_of sy_i5_s (fun _ _ _ _ _ _ => rfl))) (sy_bif_s _ (sy_F_of sy_i6_s (fun _ _ _ _ _ _ => rfl)) (sy_F_of sy_i7_s (fun _ _ _ _ _ _ => rfl)))))
theorem sy_g1_s (lim : Nat × Nat) {D : Nat → List Value} {Dn : Nat → Nat × List (List Value)} (hD : sy_Dok D Dn) (cd : List (List sx_N)) (o : Nat) : sy_sndF S q (sy_g1 lim Dn q o) (sx_g1 lim D S cd o) := (sy_bif_s _ (sy_bif_s _ (sy_bif_s _ (sy_F_of sy_i8_s (fun _ _ _ _ _ _ => rfl)) (sy_F_of (sy_bin_s _) (fun _ _ _ _ _ _ => rfl))) (sy_bif_s _ (sy_F_of (sy_bin_s _) (fun _ _ _ _ _ _ => rfl)) (sy_F_of (sy_bin_s _) (fun _ _ _ _ _ _ => rfl)))) (sy_bif_s _ (sy_bif_s _ (sy_F_of sy_and_s (fun _ _ _ _ _ _ => rfl)) (sy_F_of (sy_bin_s _) (fun _ _ _ _ _ _ => rfl))) (sy_bif_s _ (sy_F_of (sy_bin_s _) (fun _ _ _ _ _ _ => rfl)) (sy_F_of (sy_bin_s _) (fun _ _ _ _ _ _ => rfl)))))
theorem sy_g2_s (lim : Nat × Nat) {D : Nat → List Value} {Dn : Nat → Nat × List (List Value)} (hD : sy_Dok D Dn) (cd : List (List sx_N)) (o : Nat) : sy_sndF S q (sy_g2 lim Dn q o) (sx_g2 lim D S cd o) := (sy_bif_s _ (sy_bif_s _ (sy_bif_s _ (sy_F_of (sy_bin_s _) (fun _ _ _ _ _ _ => rfl)) (sy_F_of (sy_bin_s _) (fun _ _ _ _ _ _ => rfl))) (sy_bif_s _ (sy_F_of (sy_div_s _) (fun _ _ _ _ _ _ => rfl)) (sy_F_of (sy_div_s _) (fun _ _ _ _ _ _ => rfl)))) (sy_bif_s _ (sy_bif_s _ (sy_F_of sy_i20_s (fun _ _ _ _ _ _ => rfl)) (sy_F_of sy_i21_s (fun _ _ _ _ _ _ => rfl))) (sy_bif_s _ (sy_F_of sy_i22_s (fun _ _ _ _ _ _ => rfl)) (sy_F_of (sy_if1_s 0 (by omega) _ (fun _ => rfl)) (fun _ _ _ _ _ _ => rfl)))))
theorem sy_g3_s (lim : Nat × Nat) {D : Nat → List Value} {Dn : Nat → Nat × List (List Value)} (hD : sy_Dok D Dn) (cd : List (List sx_N)) (o : Nat) : sy_sndF S q (sy_g3 lim Dn q o) (sx_g3 lim D S cd o) := (sy_bif_s _ (sy_bif_s _ (sy_bif_s _ (sy_F_of (sy_if1_s 1 (by omega) _ (fun _ => rfl)) (fun _ _ _ _ _ _ => rfl)) (sy_F_of (sy_if1_s 2 (by omega) _ (fun _ => rfl)) (fun _ _ _ _ _ _ => rfl))) (sy_bif_s _ (sy_F_of (sy_if1_s 3 (by omega) _ (fun _ => rfl)) (fun _ _ _ _ _ _ => rfl)) (sy_F_of (sy_if1_s 4 (by omega) _ (fun _ => rfl)) (fun _ _ _ _ _ _ => rfl)))) (sy_bif_s _ (sy_bif_s _ (sy_F_of (sy_if1_s 5 (by omega) _ (fun _ => rfl)) (fun _ _ _ _ _ _ => rfl)) (sy_F_of (sy_if2_s 0 (by omega) _ (fun _ _ => rfl)) (fun _ _ _ _ _ _ => rfl))) (sy_bif_s _ (sy_F_of (sy_if2_s 1 (by omega) _ (fun _ _ => rfl)) (fun _ _ _ _ _ _ => rfl)) (sy_F_of (sy_if2_s 2 (by omega) _ (fun _ _ => rfl)) (fun _ _ _ _ _ _ => rfl)))))
theorem sy_g4_s (lim : Nat × Nat) {D : Nat → List Value} {Dn : Nat → Nat × List (List Value)} (hD : sy_Dok D Dn) (cd : List (List sx_N)) (o : Nat) : sy_sndF S q (sy_g4 lim Dn q o) (sx_g4 lim D S cd o) := (sy_bif_s _ (sy_bif_s _ (sy_bif_s _ (sy_F_of (sy_if2_s 3 (by omega) _ (fun _ _ => rfl)) (fun _ _ _ _ _ _ => rfl)) (sy_F_of (sy_if2_s 4 (by omega) _ (fun _ _ => rfl)) (fun _ _ _ _ _ _ => rfl))) (sy_bif_s _ (sy_F_of (sy_if2_s 5 (by omega) _ (fun _ _ => rfl)) (fun _ _ _ _ _ _ => rfl)) (sy_F_of sy_i35_s (fun _ _ _ _ _ _ => rfl)))) (sy_bif_s _ (sy_bif_s _ sy_no_F (sy_F_of sy_i37_s (fun _ _ _ _ _ _ => rfl))) (sy_bif_s _ (sy_F_of sy_i38_s (fun _ _ _ _ _ _ => rfl)) (sy_F_of sy_i39_s (fun _ _ _ _ _ _ => rfl)))))
theorem sy_g5_s (lim : Nat × Nat) {D : Nat → List Value} {Dn : Nat → Nat × List (List Value)} (hD : sy_Dok D Dn) (cd : List (List sx_N)) (o : Nat) : sy_sndF S q (sy_g5 lim Dn q o) (sx_g5 lim D S cd o) := (sy_bif_s _ (sy_bif_s _ (sy_bif_s _ (sy_F_of sy_i40_s (fun _ _ _ _ _ _ => rfl)) (sy_F_of sy_i41_s (fun _ _ _ _ _ _ => rfl))) (sy_bif_s _ (sy_F_of sy_i42_s (fun _ _ _ _ _ _ => rfl)) (sy_F_of sy_i43_s (fun _ _ _ _ _ _ => rfl)))) (sy_bif_s _ (sy_bif_s _ (sy_F_of sy_i44_s (fun _ _ _ _ _ _ => rfl)) (sy_F_of sy_i45_s (fun _ _ _ _ _ _ => rfl))) (sy_bif_s _ (sy_F_of sy_i46_s (fun _ _ _ _ _ _ => rfl)) (sy_F_of sy_i47_s (fun _ _ _ _ _ _ => rfl)))))
theorem sy_g6_s (lim : Nat × Nat) {D : Nat → List Value} {Dn : Nat → Nat × List (List Value)} (hD : sy_Dok D Dn) (cd : List (List sx_N)) (o : Nat) : sy_sndF S q (sy_g6 lim Dn q o) (sx_g6 lim D S cd o) := (sy_bif_s _ (sy_bif_s _ (sy_bif_s _ (sy_F_of (sy_i48_s lim hD) (fun _ _ _ _ _ _ => rfl)) (sy_F_of (sy_nar_s lim 0) (fun _ _ _ _ _ _ => rfl))) (sy_bif_s _ (sy_F_of (sy_nar_s lim 1) (fun _ _ _ _ _ _ => rfl)) (sy_F_of (sy_nar_s lim 2) (fun _ _ _ _ _ _ => rfl)))) (sy_bif_s _ (sy_bif_s _ (sy_F_of (sy_i52_s lim) (fun _ _ _ _ _ _ => rfl)) (sy_F_of (sy_i53_s lim) (fun _ _ _ _ _ _ => rfl))) (sy_bif_s _ (sy_F_of sy_i54_s (fun _ _ _ _ _ _ => rfl)) (sy_F_of sy_i55_s (fun _ _ _ _ _ _ => rfl)))))
theorem sy_step_s (lim : Nat × Nat) {D : Nat → List Value} {Dn : Nat → Nat × List (List Value)} (hD : sy_Dok D Dn) (cd : List (List sx_N)) (o : Nat) : sy_sndF S q (sy_step lim Dn q o) (sx_step lim D S cd o) := (sy_bif_s _ (sy_bif_s _ (sy_bif_s _ (sy_g0_s lim hD cd o) (sy_g1_s lim hD cd o)) (sy_bif_s _ (sy_g2_s lim hD cd o) (sy_g3_s lim hD cd o))) (sy_bif_s _ (sy_bif_s _ (sy_g4_s lim hD cd o) (sy_g5_s lim hD cd o)) (sy_bif_s _ (sy_g6_s lim hD cd o) sy_no_F)))
end
section
/-! ===== what SF computes, SI computes: runs ===== -/
variable {lim : Nat × Nat} {P : Nat → Option sx_Mt} {D : Nat → List Value} {S : List Int32} {q : Nat} {ρ : Nat → Int32}
theorem sx_mono_thrown {go go' : sx_F} (hg : ∀ j i ls st h r, go j i ls st h = some r → go' j i ls st h = some r) {j : Nat} {M : sx_Mt} {en : sx_N} {ls : sx_L} {x : Nat} {h1 : sx_H} {r : sx_R} (e : sx_thrown go j M en ls x h1 = some r) : sx_thrown go' j M en ls x h1 = some r := by
  unfold sx_thrown at e ⊢
  cases hm : M.2.2.2.1 with
  | nil => simp only [hm] at e ⊢; exact e
  | cons z t9 =>
    simp only [hm] at e ⊢
    split at e
    · next o ho =>
      split at e
      · next t ht => first | exact hg _ _ _ _ _ _ e | (simp only [ho]; simp only [ht]; exact hg _ _ _ _ _ _ e)
      · cases e
    · cases e
theorem sx_mono_body {go go' : sx_F} (hg : ∀ j i ls st h r, go j i ls st h = some r → go' j i ls st h = some r) {j i : Nat} {ls : sx_L} {st : List Value} {h : sx_H} {r : sx_R} (e : sx_body lim P D S go j i ls st h = some r) : sx_body lim P D S go' j i ls st h = some r := by
  unfold sx_body at e ⊢
  cases hP : P j with
  | none => simp only [hP] at e; cases e
  | some M =>
    simp only [hP] at e ⊢
    cases ha : sx_at M.2.2.2.2 i with
    | none => simp only [ha] at e; cases e
    | some en =>
      simp only [ha] at e ⊢
      cases hb : Nat.blt en.1 56 with
      | true =>
        simp only [hb, cond_true] at e ⊢
        unfold sx_plain at e ⊢
        cases he : sx_step lim D S M.2.2.2.2 en.1 en ls st h with
        | none => simp only [he] at e; cases e
        | some a => simp only [he] at e ⊢; exact hg _ _ _ _ _ _ e
      | false =>
        simp only [hb, cond_false] at e ⊢
        unfold sx_special at e ⊢
        cases h59 : Nat.blt en.1 59 with
        | false => simp only [h59, cond_false] at e ⊢; exact e
        | true =>
          simp only [h59, cond_true] at e ⊢
          unfold sx_call at e ⊢
          cases has : sx_args en.2.2.1 st [] with
          | none => simp only [has] at e; cases e
          | some asr =>
          obtain ⟨as, rest⟩ := asr
          cases hN : P en.2.1 with
          | none => simp only [has, hN] at e; cases e
          | some N =>
            simp only [has, hN] at e ⊢
            cases hc : (Nat.ble (rest.map fun v => v.category).sum 8 && as.all (fun v => Nat.beq v.category 1) && sx_recv en.1 N.2.1 h as && (Nat.ble h.1 lim.1 && Nat.ble h.2.1 lim.2)) with
            | false => simp only [hc, cond_false] at e; cases e
            | true =>
              simp only [hc, cond_true] at e ⊢
              split at e
              · next v h1 hgo => simp only [hg _ _ _ _ _ _ hgo]; exact hg _ _ _ _ _ _ e
              · next x h1 hgo => simp only [hg _ _ _ _ _ _ hgo]; exact sx_mono_thrown hg e
              · cases e
theorem sx_mono : ∀ (n : Nat) (j i : Nat) (ls : sx_L) (st : List Value) (h : sx_H) (r : sx_R), sx_exec lim P D S n j i ls st h = some r → sx_exec lim P D S (n + 1) j i ls st h = some r
  | 0, _, _, _, _, _, _, e => by cases e
  | n + 1, j, i, ls, st, h, r, e => by
    rw [sx_exec_succ] at e ⊢
    exact sx_mono_body (sx_mono n) e
theorem sx_mono_le {n m : Nat} (hnm : n ≤ m) {j i : Nat} {ls : sx_L} {st : List Value} {h : sx_H} {r : sx_R} (e : sx_exec lim P D S n j i ls st h = some r) : sx_exec lim P D S m j i ls st h = some r := by
  induction hnm with
  | refl => exact e
  | step _ ih => exact sx_mono _ _ _ _ _ _ _ ih
def sy_rr (ρ : Nat → Int32) (a : sy_R) (b : Option Value ⊕ Nat) : Prop := match a with
  | .inl none => b = .inl none
  | .inl (some v) => ∃ w, b = .inl (some w) ∧ sy_v ρ v w
  | .inr x => b = .inr x
def sy_lf (ρ : Nat → Int32) (a : sy_Lf) (r : Option sx_R) : Prop := sy_e ρ a.1 ∧ ∃ b h1, r = some (b, h1) ∧ sy_rr ρ a.2.1 b ∧ sy_h a.2.2 h1
def sy_in (ρ : Nat → Int32) (L : List sy_Lf) (r : Option sx_R) : Prop := ∃ a, a ∈ L ∧ sy_lf ρ a r
theorem sy_in_sub {L L1 : List sy_Lf} {r : Option sx_R} (h : ∀ x, x ∈ L → x ∈ L1) : sy_in ρ L r → sy_in ρ L1 r := fun ⟨a, h1, h2⟩ => ⟨a, h a h1, h2⟩
theorem sy_two_ok {a b : Option (List sy_Lf)} {L : List sy_Lf} (h : sy_two a b = some L) : ∃ x y, a = some x ∧ b = some y ∧ L = x ++ y := by
  unfold sy_two at h
  split at h
  · next x y => cases h; exact ⟨x, y, rfl, rfl, rfl⟩
  · cases h
theorem sy_seq_ok (f : sy_Lf → Option (List sy_Lf)) : ∀ (L0 L : List sy_Lf), sy_seq f L0 = some L → ∀ a, a ∈ L0 → ∃ La, f a = some La ∧ ∀ x, x ∈ La → x ∈ L
  | [], _, _, a, ha => by cases ha
  | b :: [], L, h, a, ha => by
    have h : f b = some L := h
    rcases List.mem_cons.mp ha with e | h9
    · subst e; exact ⟨L, h, fun _ h => h⟩
    · cases h9
  | b :: c :: t, L, h, a, ha => by
    have h : sy_two (f b) (sy_seq f (c :: t)) = some L := h
    obtain ⟨x, y, h1, h2, rfl⟩ := sy_two_ok h
    rcases List.mem_cons.mp ha with e | h9
    · subst e; exact ⟨x, h1, fun z hz => List.mem_append_left _ hz⟩
    · obtain ⟨La, h3, h4⟩ := sy_seq_ok f (c :: t) y h2 a h9
      exact ⟨La, h3, fun z hz => List.mem_append_right _ (h4 z hz)⟩
theorem sy_args_ok : ∀ (n : Nat) {st acc : List sy_V} {st' acc' : List Value} {as rest : List sy_V}, sy_ss ρ st st' → sy_ss ρ acc acc' → sy_args n st acc = some (as, rest) → ∃ as' rest', sx_args n st' acc' = some (as', rest') ∧ sy_ss ρ as as' ∧ sy_ss ρ rest rest'
  | 0, st, acc, st', acc', as, rest, h1, h2, e => by
    have e : some (acc, st) = some (as, rest) := e
    cases e
    exact ⟨acc', st', rfl, h2, h1⟩
  | n + 1, [], acc, st', acc', as, rest, h1, h2, e => by cases e
  | n + 1, a :: s, acc, st', acc', as, rest, h1, h2, e => by
    obtain ⟨v, r, rfl, hv, hr⟩ := h1
    have e : sy_args n s (a :: acc) = some (as, rest) := e
    have h9 := sy_args_ok n (acc := a :: acc) (acc' := v :: acc') hr ⟨v, acc', rfl, hv, h2⟩ e
    exact h9
theorem sy_locs_ok : ∀ {as : List sy_V} {as' : List Value} (i : Nat), sy_ss ρ as as' → sy_ll ρ (sy_locs as i) (sx_locs as' i)
  | [], as', i, h => by rw [show as' = [] from h]; exact rfl
  | a :: s, as', i, h => by
    obtain ⟨v, r, rfl, hv, hr⟩ := h
    exact ⟨v, _, rfl, hv, sy_locs_ok (i + 1) hr⟩
theorem sy_all_ok : ∀ {as : List sy_V} {as' : List Value}, sy_ss ρ as as' → as.all (fun v => Nat.beq (sy_cat v) 1) = as'.all (fun v => Nat.beq v.category 1)
  | [], as', h => by rw [show as' = [] from h]; rfl
  | a :: s, as', h => by
    obtain ⟨v, r, rfl, hv, hr⟩ := h
    rw [List.all_cons, List.all_cons, sy_all_ok hr, sy_cat_ok hv]
theorem sy_recv_ok {o ci : Nat} {T : sy_H} {h : sx_H} (H : sy_h T h) {as : List sy_V} {as' : List Value} (hs : sy_ss ρ as as') (e : sy_recv o ci T as = true) : sx_recv o ci h as' = true := by
  unfold sy_recv at e
  unfold sx_recv
  cases hb : Nat.beq o 58 with
  | true => rfl
  | false =>
    simp only [hb, cond_false] at e ⊢
    split at e
    · next v r =>
      obtain ⟨w, r1, rfl, hv, hr⟩ := hs
      split at e
      · next k o1 ho =>
        obtain ⟨rfl, hk, y, h1, h2⟩ := sy_arr_ok H ho hv
        obtain ⟨fs, h2, -⟩ := h2
        have h2 := Option.some.inj h2
        subst h2
        simp only [h1]
        exact e
      · cases e
    · cases e
theorem sy_app_ok {a : Option sy_V} {b : Option Value} {rest : List sy_V} {rest' : List Value} (h : sy_rr ρ (.inl a) (.inl b)) (hr : sy_ss ρ rest rest') : sy_ss ρ (a.toList ++ rest) (b.toList ++ rest') := by
  cases a with
  | none =>
    have h : (Sum.inl b : Option Value ⊕ Nat) = .inl none := h
    cases h
    exact hr
  | some v =>
    obtain ⟨w, hw, hv⟩ := h
    cases hw
    exact ⟨w, rest', rfl, hv, hr⟩
theorem sy_e_cut {E : sy_E} (hE : sy_e ρ E) (k : Nat) {a b : Nat} (h : a ≤ sy_b (ρ k) ∧ sy_b (ρ k) ≤ b) : sy_e ρ (sx_lset (0, 4294967295) (a, b) E k) := by
  intro j
  unfold sy_of
  rw [sx_lg_lset]
  by_cases e : j = k
  · rw [if_pos e, e]; exact h
  · rw [if_neg e]; exact hE j
theorem sy_ends_ok {E : sy_E} {T : sy_H} {h : sx_H} (hE : sy_e ρ E) (H : sy_h T h) {v : Option (Option sy_V)} {w : Option (Option Value)} {L : List sy_Lf} (hv : ∀ a, v = some a → ∃ b, w = some b ∧ sy_rr ρ (.inl a) (.inl b)) (e : sy_ends E T v = some L) : sy_in ρ L (sx_ends h w) := by
  unfold sy_ends at e
  split at e
  · next a =>
    cases e
    obtain ⟨b, rfl, hb⟩ := hv a rfl
    exact ⟨_, List.mem_singleton.mpr rfl, hE, _, _, rfl, hb, H⟩
  · cases e
theorem sy_r0_ok {rk : Nat} {st : List sy_V} {st' : List Value} (hs : sy_ss ρ st st') (a : Option sy_V) (e : sy_r0 rk st = some a) : ∃ b, sx_r0 rk st' = some b ∧ sy_rr ρ (.inl a) (.inl b) := by
  unfold sy_r0 at e
  split at e
  · have hs : st' = [] := hs
    subst hs
    cases hb : Nat.beq rk 0 with
    | false => rw [hb] at e; cases e
    | true =>
      rw [hb] at e
      cases e
      exact ⟨none, by simp only [sx_r0, hb, cond_true], rfl⟩
  · cases e
theorem sy_r1_ok {E : sy_E} (hE : sy_e ρ E) {rk : Nat} {st : List sy_V} {st' : List Value} (hs : sy_ss ρ st st') (a : Option sy_V) (e : sy_r1 E rk st = some a) : ∃ b, sx_r1 rk st' = some b ∧ sy_rr ρ (.inl a) (.inl b) := by
  unfold sy_r1 at e
  split at e
  · next x =>
    obtain ⟨v, r, rfl, hv, hr⟩ := hs
    have hr : r = [] := hr
    subst hr
    cases hb : Nat.beq rk 1 with
    | true =>
      simp only [hb, cond_true] at e
      cases hi : sy_isI x with
      | false => rw [hi] at e; cases e
      | true =>
        rw [hi] at e
        cases e
        obtain ⟨y, rfl⟩ := sy_isI_ok hi hv
        exact ⟨_, by simp only [sx_r1, hb, cond_true], _, rfl, hv⟩
    | false =>
      simp only [hb, cond_false] at e
      split at e
      · next x1 ex =>
        have e1 := sy_c_ok hE ex hv
        subst e1
        cases hd : (Nat.beq rk 2 && (decide (x1 = 0) || decide (x1 = 1))) with
        | false => rw [hd] at e; cases e
        | true =>
          rw [hd] at e
          cases e
          exact ⟨_, by simp only [sx_r1, hb, hd, cond_true, cond_false], _, rfl, rfl⟩
      · cases e
  · cases e
theorem sy_r2_ok {rk : Nat} {st : List sy_V} {st' : List Value} (hs : sy_ss ρ st st') (a : Option sy_V) (e : sy_r2 rk st = some a) : ∃ b, sx_r2 rk st' = some b ∧ sy_rr ρ (.inl a) (.inl b) := by
  unfold sy_r2 at e
  split at e
  · next x =>
    obtain ⟨v, r, rfl, hv, hr⟩ := hs
    have hr : r = [] := hr
    subst hr
    have hv : v = .ref x := hv
    subst hv
    cases hb : Nat.beq rk 3 with
    | false => rw [hb] at e; cases e
    | true =>
      rw [hb] at e
      cases e
      exact ⟨_, by simp only [sx_r2, hb, cond_true], _, rfl, rfl⟩
  · cases e
/-- the packed codes are right -/
def sy_Kok (P : Nat → Option sx_Mt) (Kc : Nat → Nat) : Prop := (∀ j i, Nat.beq (Nat.mod (sy_x (Kc j) i) 256) 0 = false → ∃ M pc ln ins, P j = some M ∧ sx_at M.2.2.2.2 i = some ((sy_en (sy_x (Kc j) i)).1, (sy_en (sy_x (Kc j) i)).2.1, (sy_en (sy_x (Kc j) i)).2.2.1, pc, ln, ins)) ∧ ∀ j M, P j = some M → Kc j % 256 = M.2.2.1 ∧ Kc j / 256 % 65536 = M.2.1
variable {Kc : Nat → Nat} {Dn : Nat → Nat × List (List Value)}
theorem sy_runs (hK : sy_Kok P Kc) : ∀ {n j i : Nat} {E : sy_E} {ls : sy_L} {st : List sy_V} {T : sy_H} {L : List sy_Lf}, sy_exec lim P Kc Dn q n j (Kc j) i E ls st T = some L → ∃ M, P j = some M
  | 0, _, _, _, _, _, _, _, e => by cases e
  | n + 1, j, i, E, ls, st, T, L, e => by
    rw [sy_exec_succ] at e
    unfold sy_body at e
    cases hb : Nat.beq (Nat.mod (sy_x (Kc j) i) 256) 0 with
    | true => rw [hb] at e; cases e
    | false =>
      obtain ⟨M, -, -, -, h1, -⟩ := hK.1 j i hb
      exact ⟨M, h1⟩
theorem sy_sound (hK : sy_Kok P Kc) (hD : sy_Dok D Dn) (hc : sy_cx ρ S q) : ∀ (n j i : Nat) (E : sy_E) (ls : sy_L) (st : List sy_V) (T : sy_H) (L : List sy_Lf) (ls' : sx_L) (st' : List Value) (h : sx_H), sy_exec lim P Kc Dn q n j (Kc j) i E ls st T = some L → sy_e ρ E → sy_ll ρ ls ls' → sy_ss ρ st st' → sy_h T h → sy_in ρ L (sx_exec lim P D S n j i ls' st' h)
  | 0, _, _, _, _, _, _, _, _, _, _, e, _, _, _, _ => by cases e
  | n + 1, j, i, E, ls, st, T, L, ls', st', h, e, hE, hl, hs, H => by
    have ih := sy_sound hK hD hc n
    have hmono : ∀ {L1 : List sy_Lf}, sy_in ρ L1 (sx_exec lim P D S n j i ls' st' h) → sy_in ρ L1 (sx_exec lim P D S (n + 1) j i ls' st' h) := by
      rintro L1 ⟨a, h1, h2, b, h3, h4, h5⟩
      exact ⟨a, h1, h2, b, h3, sx_mono _ _ _ _ _ _ _ h4, h5⟩
    have hcuts : ∀ {k c : Nat}, sy_cuts (sy_exec lim P Kc Dn q n) j (Kc j) i E ls st T k c = some L → sy_in ρ L (sx_exec lim P D S (n + 1) j i ls' st' h) := by
      intro k c e
      obtain ⟨x, y, h1, h2, rfl⟩ := sy_two_ok e
      have hk := hE k
      by_cases hlt : sy_b (ρ k) < c
      · exact hmono (sy_in_sub (fun z hz => List.mem_append_left _ hz) (ih _ _ _ _ _ _ _ _ _ _ h1 (sy_e_cut hE k ⟨hk.1, by omega⟩) hl hs H))
      · exact hmono (sy_in_sub (fun z hz => List.mem_append_right _ hz) (ih _ _ _ _ _ _ _ _ _ _ h2 (sy_e_cut hE k ⟨by omega, hk.2⟩) hl hs H))
    rw [sy_exec_succ] at e
    unfold sy_body at e
    cases h0 : Nat.beq (Nat.mod (sy_x (Kc j) i) 256) 0 with
    | true => rw [h0] at e; cases e
    | false =>
    rw [h0] at e
    obtain ⟨M, pc, ln, ins, hP, ha⟩ := hK.1 j i h0
    have e : sy_body1 lim P Kc Dn q (sy_exec lim P Kc Dn q n) j (Kc j) i E ls st T (sy_en (sy_x (Kc j) i)) = some L := e
    have hen : sy_en (sy_x (Kc j) i) = ((sy_en (sy_x (Kc j) i)).1, (sy_en (sy_x (Kc j) i)).2.1, (sy_en (sy_x (Kc j) i)).2.2.1, 0, 0, .nop) := rfl
    generalize (sy_en (sy_x (Kc j) i)).1 = o at ha hen
    generalize (sy_en (sy_x (Kc j) i)).2.1 = oa at ha hen
    generalize (sy_en (sy_x (Kc j) i)).2.2.1 = ob at ha hen
    rw [hen] at e
    clear hen h0
    unfold sy_body1 at e
    simp only at e
    cases h36 : Nat.beq o 36 with
    | true =>
      simp only [h36, cond_true] at e
      unfold sy_b36 at e
      split at e
      · exact hcuts e
      · unfold sy_swi at e
        simp only [hP, ha] at e
        cases he : sy_i36 M.2.2.2.2 (o, oa, ob, pc, ln, ins) E ls st T with
        | none => simp only [he] at e; cases e
        | some r9 =>
          obtain ⟨t, ls1, st1, T1⟩ := r9
          simp only [he] at e
          obtain ⟨ls2, st2, h2, k1, k2, k3, k4⟩ := sy_i36_s M.2.2.2.2 ρ E _ ls st T ls' st' h _ hc hE hl hs H he
          have ho := Nat.eq_of_beq_eq_true h36
          subst ho
          rw [sx_exec_succ]
          unfold sx_body
          simp only [hP, ha]
          show sy_in ρ L (sx_plain lim D S _ j i M _ ls' st' h)
          unfold sx_plain
          have k1 : sx_step lim D S M.2.2.2.2 36 (36, oa, ob, pc, ln, ins) ls' st' h = some (t, ls2, st2, h2) := k1
          simp only [k1]
          exact ih _ _ _ _ _ _ _ _ _ _ e hE k2 k3 k4
    | false =>
      simp only [h36, cond_false] at e
      unfold sy_bw at e
      split at e
      · exact hcuts e
      · unfold sy_bn at e
        rw [sx_exec_succ]
        unfold sx_body
        simp only [hP, ha]
        have hbb : Nat.ble 56 o = !Nat.blt o 56 := by
          cases hq : Nat.blt o 56 with
          | true => rw [Nat.blt_eq] at hq; exact Bool.eq_false_iff.mpr (fun h9 => by rw [Nat.ble_eq] at h9; omega)
          | false =>
            have hq := Bool.eq_false_iff.mp hq
            rw [ne_eq, Nat.blt_eq] at hq
            exact Nat.ble_eq.mpr (by omega)
        rw [hbb] at e
        cases hb : Nat.blt o 56 with
        | true =>
          simp only [hb, cond_true, cond_false, Bool.not_true] at e ⊢
          unfold sy_plain at e
          unfold sx_plain
          cases he : sy_step lim Dn q o (o, oa, ob, 0, 0, .nop) E ls st T with
          | none => simp only [he] at e; cases e
          | some r9 =>
            obtain ⟨t, ls1, st1, T1⟩ := r9
            simp only [he] at e
            obtain ⟨ls2, st2, h2, k1, k2, k3, k4⟩ := sy_step_s lim hD M.2.2.2.2 o ρ E o oa ob pc ln ins ls st T ls' st' h _ hc hE hl hs H he
            simp only [k1]
            exact ih _ _ _ _ _ _ _ _ _ _ e hE k2 k3 k4
        | false =>
          simp only [hb, cond_false, cond_true, Bool.not_false] at e ⊢
          unfold sy_special at e
          unfold sx_special
          cases h59 : Nat.blt o 59 with
          | true =>
            simp only [h59, cond_true] at e ⊢
            unfold sy_call at e
            unfold sx_call
            cases has : sy_args ob st [] with
            | none => simp only [has] at e; cases e
            | some asr =>
              obtain ⟨as, rest⟩ := asr
              simp only [has] at e
              obtain ⟨as', rest', k1, k2, k3⟩ := sy_args_ok _ hs (show sy_ss ρ [] [] from rfl) has
              cases hcd : (Nat.ble (rest.map sy_cat).sum 8 && as.all (fun v => Nat.beq (sy_cat v) 1) && sy_recv o (Kc oa / 256 % 65536) T as && (Nat.ble T.1 lim.1 && Nat.ble T.2.1 lim.2)) with
              | false => simp only [hcd, cond_false] at e; cases e
              | true =>
                simp only [hcd, cond_true] at e
                cases hL0 : sy_exec lim P Kc Dn q n oa (Kc oa) 0 E (sy_locs as 0) [] T with
                | none => simp only [hL0] at e; cases e
                | some L0 =>
                  simp only [hL0] at e
                  obtain ⟨N, hN⟩ := sy_runs hK hL0
                  have hcd' : (Nat.ble (rest'.map fun v => v.category).sum 8 && as'.all (fun v => Nat.beq v.category 1) && sx_recv o N.2.1 h as' && (Nat.ble h.1 lim.1 && Nat.ble h.2.1 lim.2)) = true := by
                    rw [sy_cats_ok k3, sy_all_ok k2, H.2.1, H.2.2.1, (hK.2 oa N hN).2] at hcd
                    simp only [Bool.and_eq_true] at hcd ⊢
                    exact ⟨⟨hcd.1.1, sy_recv_ok H k2 hcd.1.2⟩, hcd.2⟩
                  simp only [k1, hN, hcd', cond_true]
                  obtain ⟨a, m1, m2, b, h1, m3, m4, m5⟩ := ih _ _ _ _ _ _ _ _ _ _ hL0 hE (sy_locs_ok 0 k2) (show sy_ss ρ [] [] from rfl) H
                  obtain ⟨La, p1, p2⟩ := sy_seq_ok _ _ _ e a m1
                  refine sy_in_sub p2 ?_
                  simp only [m3]
                  unfold sy_aft at p1
                  split at p1
                  · next v hv =>
                    rw [hv] at m4
                    cases b with
                    | inr y =>
                      cases v with
                      | none => cases m4
                      | some v => obtain ⟨w, hw, -⟩ := m4; cases hw
                    | inl b => exact ih _ _ _ _ _ _ _ _ _ _ p1 m2 hl (sy_app_ok m4 k3) m5
                  · next x hx =>
                    rw [hx] at m4
                    have m4 : b = .inr x := m4
                    subst m4
                    unfold sy_thrown at p1
                    simp only [hP] at p1
                    show sy_in ρ La (sx_thrown _ j M _ ls' x h1)
                    unfold sx_thrown
                    cases hm : M.2.2.2.1 with
                    | nil =>
                      simp only [hm] at p1 ⊢
                      cases p1
                      exact ⟨_, List.mem_singleton.mpr rfl, m2, _, _, rfl, rfl, m5⟩
                    | cons z9 t9 =>
                      simp only [hm, ha] at p1 ⊢
                      cases ho : sy_get a.2.2 x with
                      | none => simp only [ho] at p1; cases p1
                      | some c9 =>
                        rcases c9 with o9 | c9
                        · obtain ⟨fs, ho', -⟩ := m5.2.2.2 x _ ho
                          simp only [ho] at p1
                          cases ht : sx_hand (z9 :: t9) pc o9.1 with
                          | none => simp only [ht] at p1; cases p1
                          | some t =>
                            simp only [ht] at p1
                            simp only [ho', ht]
                            exact ih _ _ _ _ _ _ _ _ _ _ p1 m2 hl ⟨_, _, rfl, rfl, rfl⟩ m5
                        · simp only [ho] at p1; cases p1
          | false =>
            simp only [h59, cond_false] at e ⊢
            have hrk := (hK.2 j M hP).1
            rw [hrk] at e
            cases h61 : Nat.blt o 61 with
            | true =>
              simp only [h61, cond_true] at e ⊢
              cases h5 : Nat.beq o 59 with
              | true =>
                simp only [h5, cond_true] at e ⊢
                exact sy_ends_ok hE H (sy_r0_ok hs) e
              | false =>
                simp only [h5, cond_false] at e ⊢
                exact sy_ends_ok hE H (sy_r1_ok hE hs) e
            | false =>
              simp only [h61, cond_false] at e ⊢
              cases h6 : Nat.beq o 61 with
              | true =>
                simp only [h6, cond_true] at e ⊢
                exact sy_ends_ok hE H (sy_r2_ok hs) e
              | false =>
                simp only [h6, cond_false] at e ⊢
                cases h62 : Nat.beq o 62 with
                | false => simp only [h62, cond_false] at e; cases e
                | true =>
                  simp only [h62, cond_true] at e ⊢
                  rw [sy_cats_ok hs, H.2.1, H.2.2.1] at e
                  cases hcd : (Nat.blt h.1 lim.1 && Nat.ble (h.2.1 + 6) lim.2 && Nat.ble (st'.map fun v => v.category).sum 8) with
                  | false => rw [hcd] at e; cases e
                  | true =>
                    rw [hcd] at e
                    simp only [hcd, cond_true, Bool.true_and] at e ⊢
                    cases hb2 : Nat.ble (h.1 + 1) 4096 with
                    | false => rw [hb2] at e; cases e
                    | true =>
                      rw [hb2] at e
                      cases e
                      rw [Nat.ble_eq] at hb2
                      exact ⟨_, List.mem_singleton.mpr rfl, hE, _, _, rfl, rfl, sy_push_h H (by rw [H.2.1]; omega) 6 ⟨[], rfl, fun b => rfl⟩⟩
end
section
/-! ===== SF once more, what it makes written out at once: no thunk is left in what goes on ===== -/
noncomputable def sy_fn {β : Type} (n : Nat) (K : Nat → β) : β := Nat.rec (K 0) (fun m _ => K (Nat.succ m)) n
theorem sy_fn_eq {β : Type} (n : Nat) (K : Nat → β) : sy_fn n K = K n := by cases n <;> rfl
noncomputable def sy_fi {β : Type} (x : Int32) (K : Int32 → β) : β := sy_fn x.toBitVec.toNat (fun n => K (Int32.ofNat n))
theorem sy_fi_eq {β : Type} (x : Int32) (K : Int32 → β) : sy_fi x K = K x := by
  unfold sy_fi
  rw [sy_fn_eq, sy_ofNat_toNat]
noncomputable def sy_lgk {α β : Type} (d : α) (l : List α) : Nat → (α → β) → β := List.rec (fun _ K => K d) (fun a _ ih n K => Nat.casesOn n (K a) (fun m => ih m K)) l
theorem sy_lgk_eq {α β : Type} (d : α) : ∀ (l : List α) (n : Nat) (K : α → β), sy_lgk d l n K = K (sx_lg d l n)
  | [], _, _ => rfl
  | _ :: _, 0, _ => rfl
  | _ :: l, n + 1, K => sy_lgk_eq d l n K
noncomputable def sy_lsk {α β : Type} (d x : α) (l : List α) : Nat → (List α → β) → β := List.rec (fun n K => Nat.casesOn n (K [x]) (fun m => K (sx_lset d x [] (m + 1)))) (fun a t ih n K => Nat.casesOn n (K (x :: t)) (fun m => ih m (fun t' => K (a :: t')))) l
theorem sy_lsk_eq {α β : Type} (d x : α) : ∀ (l : List α) (n : Nat) (K : List α → β), sy_lsk d x l n K = K (sx_lset d x l n)
  | [], 0, _ => rfl
  | [], _ + 1, _ => rfl
  | _ :: _, 0, _ => rfl
  | a :: l, n + 1, K => sy_lsk_eq d x l n (fun t' => K (a :: t'))
noncomputable def sy_agk {α β : Type} (d : α) (l : List (List α)) (j : Nat) (K : α → β) : β := sy_lgk [] l (Nat.div j 32) (fun r => sy_lgk d r (Nat.mod j 32) K)
theorem sy_agk_eq {α β : Type} (d : α) (l : List (List α)) (j : Nat) (K : α → β) : sy_agk d l j K = K (sx_ag d l j) := by
  unfold sy_agk
  rw [sy_lgk_eq, sy_lgk_eq]
  rfl
noncomputable def sy_ask {α β : Type} (d : α) (l : List (List α)) (j : Nat) (x : α) (K : List (List α) → β) : β := sy_lgk [] l (Nat.div j 32) (fun r => sy_lsk d x r (Nat.mod j 32) (fun r' => sy_lsk [] r' l (Nat.div j 32) K))
theorem sy_ask_eq {α β : Type} (d : α) (l : List (List α)) (j : Nat) (x : α) (K : List (List α) → β) : sy_ask d l j x K = K (sx_as d l j x) := by
  unfold sy_ask
  rw [sy_lgk_eq, sy_lsk_eq, sy_lsk_eq]
  rfl
noncomputable def sy_fsk {β : Type} (f : List (List Value)) (b : Nat) (w : Value) (K : List (List Value) → β) : β := sy_lgk [] f (Nat.div b 8) (fun r => sy_lsk w w r (Nat.mod b 8) (fun r' => sy_lsk [] r' f (Nat.div b 8) K))
theorem sy_fsk_eq {β : Type} (f : List (List Value)) (b : Nat) (w : Value) (K : List (List Value) → β) : sy_fsk f b w K = K (sy_fs f b w) := by
  unfold sy_fsk
  rw [sy_lgk_eq, sy_lsk_eq, sy_lsk_eq]
  rfl
def sy_selk {α β : Type} (t : sy_8 α) (i : Nat) (K : α → β) : β := match t with
  | (a0, a1, a2, a3, a4, a5, a6, a7) => (bif Nat.ble 4 i then (bif Nat.ble 6 i then (bif Nat.ble 7 i then K a7 else K a6) else (bif Nat.ble 5 i then K a5 else K a4)) else (bif Nat.ble 2 i then (bif Nat.ble 3 i then K a3 else K a2) else (bif Nat.ble 1 i then K a1 else K a0)))
theorem sy_selk_eq {α β : Type} (t : sy_8 α) (i : Nat) (K : α → β) : sy_selk t i K = K (sy_sel t i) := by
  obtain ⟨a0, a1, a2, a3, a4, a5, a6, a7⟩ := t
  unfold sy_selk sy_sel
  cases Nat.ble 4 i <;> cases Nat.ble 6 i <;> cases Nat.ble 7 i <;> cases Nat.ble 5 i <;> cases Nat.ble 2 i <;> cases Nat.ble 3 i <;> cases Nat.ble 1 i <;> rfl
def sy_updk {α β : Type} (t : sy_8 α) (i : Nat) (x : α) (K : sy_8 α → β) : β := match t with
  | (a0, a1, a2, a3, a4, a5, a6, a7) => (bif Nat.ble 4 i then (bif Nat.ble 6 i then (bif Nat.ble 7 i then K (a0, a1, a2, a3, a4, a5, a6, x) else K (a0, a1, a2, a3, a4, a5, x, a7)) else (bif Nat.ble 5 i then K (a0, a1, a2, a3, a4, x, a6, a7) else K (a0, a1, a2, a3, x, a5, a6, a7))) else (bif Nat.ble 2 i then (bif Nat.ble 3 i then K (a0, a1, a2, x, a4, a5, a6, a7) else K (a0, a1, x, a3, a4, a5, a6, a7)) else (bif Nat.ble 1 i then K (a0, x, a2, a3, a4, a5, a6, a7) else K (x, a1, a2, a3, a4, a5, a6, a7))))
theorem sy_updk_eq {α β : Type} (t : sy_8 α) (i : Nat) (x : α) (K : sy_8 α → β) : sy_updk t i x K = K (sy_upd t i x) := by
  obtain ⟨a0, a1, a2, a3, a4, a5, a6, a7⟩ := t
  unfold sy_updk sy_upd
  cases Nat.ble 4 i <;> cases Nat.ble 6 i <;> cases Nat.ble 7 i <;> cases Nat.ble 5 i <;> cases Nat.ble 2 i <;> cases Nat.ble 3 i <;> cases Nat.ble 1 i <;> rfl
def sy_putk {β : Type} (l : sy_K) (k : Nat) (c : sy_C) (K : sy_K → β) : β := sy_selk l (Nat.div k 512) (fun r3 => sy_selk r3 (Nat.mod (Nat.div k 64) 8) (fun r2 => sy_selk r2 (Nat.mod (Nat.div k 8) 8) (fun r1 => sy_updk r1 (Nat.mod k 8) (some c) (fun s1 => sy_updk r2 (Nat.mod (Nat.div k 8) 8) s1 (fun s2 => sy_updk r3 (Nat.mod (Nat.div k 64) 8) s2 (fun s3 => sy_updk l (Nat.div k 512) s3 K))))))
theorem sy_putk_eq {β : Type} (l : sy_K) (k : Nat) (c : sy_C) (K : sy_K → β) : sy_putk l k c K = K (sy_put l k c) := by
  unfold sy_putk
  rw [sy_selk_eq, sy_selk_eq, sy_selk_eq, sy_updk_eq, sy_updk_eq, sy_updk_eq, sy_updk_eq]
  rfl
def sy_setk {β : Type} (T : sy_H) (k : Nat) (c : sy_C) (K : sy_H → β) : β := match T with
  | (a, b, l) => sy_putk l k c (fun l' => K (a, b, l'))
theorem sy_setk_eq {β : Type} (T : sy_H) (k : Nat) (c : sy_C) (K : sy_H → β) : sy_setk T k c K = K (sy_set T k c) := by
  obtain ⟨a, b, l⟩ := T
  unfold sy_setk
  simp only [sy_putk_eq]
  rfl
noncomputable def sy_pushk {β : Type} (T : sy_H) (n : Nat) (c : sy_C) (K : sy_H → β) : β := match T with
  | (a, b, l) => sy_putk l a c (fun l' => sy_fn (Nat.succ a) (fun a' => sy_fn (Nat.add b n) (fun b' => K (a', b', l'))))
theorem sy_pushk_eq {β : Type} (T : sy_H) (n : Nat) (c : sy_C) (K : sy_H → β) : sy_pushk T n c K = K (sy_push T n c) := by
  obtain ⟨a, b, l⟩ := T
  unfold sy_pushk
  simp only [sy_putk_eq, sy_fn_eq]
  rfl
noncomputable def sy_stfk {β : Type} (ls : sy_L) (i : Nat) : (sy_L → β) → β := List.rec (fun K => K []) (fun p _ ih K => bif Nat.beq p.1 i || Nat.beq (sy_cat p.2) 2 then ih K else ih (fun t' => K (p :: t'))) ls
theorem sy_stfk_eq {β : Type} (i : Nat) : ∀ (ls : sy_L) (K : sy_L → β), sy_stfk ls i K = K (sy_stf ls i)
  | [], _ => rfl
  | p :: t, K => by
    have e : sy_stf (p :: t) i = bif Nat.beq p.1 i || Nat.beq (sy_cat p.2) 2 then sy_stf t i else p :: sy_stf t i := rfl
    have e1 : sy_stfk (p :: t) i K = bif Nat.beq p.1 i || Nat.beq (sy_cat p.2) 2 then sy_stfk t i K else sy_stfk t i (fun t' => K (p :: t')) := rfl
    rw [e, e1, sy_stfk_eq i t, sy_stfk_eq i t]
    cases (Nat.beq p.1 i || Nat.beq (sy_cat p.2) 2) <;> rfl
noncomputable def sy_stk {β : Type} (ls : sy_L) (i : Nat) (v : sy_V) (K : sy_L → β) : β := sy_stfk ls i (fun t => K ((i, v) :: t))
theorem sy_stk_eq {β : Type} (ls : sy_L) (i : Nat) (v : sy_V) (K : sy_L → β) : sy_stk ls i v K = K (sy_st ls i v) := by
  unfold sy_stk
  rw [sy_stfk_eq]
  rfl
noncomputable def sy_newk (lim : Nat × Nat) (ls : sy_L) (st : List sy_V) (T : sy_H) (n : Nat) (c : sy_C) : Option sy_O := bif Nat.blt T.1 lim.1 && Nat.ble (Nat.add T.2.1 n) lim.2 && Nat.ble (Nat.succ T.1) 4096 then sy_fn (Nat.succ T.1) (fun a => sy_pushk T n c (fun T' => some (none, ls, .inl (.ref a) :: st, T'))) else none
theorem sy_newk_eq (lim : Nat × Nat) (ls : sy_L) (st : List sy_V) (T : sy_H) (n : Nat) (c : sy_C) : sy_newk lim ls st T n c = sy_new lim ls st T n c := by
  unfold sy_newk sy_new
  simp only [sy_fn_eq, sy_pushk_eq]
  rfl
noncomputable def sy_j3 : sy_I := fun en _ ls st T => match st with
  | .inl (.int x) :: r => sy_stk ls en.2.1 (.inl (.int x)) (fun l => some (none, l, r, T))
  | .inr k :: r => sy_stk ls en.2.1 (.inr k) (fun l => some (none, l, r, T))
  | _ => none
theorem sy_j3_eq : sy_j3 = sy_i3 := by
  funext en E ls st T
  unfold sy_j3 sy_i3
  simp only [sy_stk_eq] <;> rfl
noncomputable def sy_j4 : sy_I := fun en _ ls st T => match st with
  | .inl (.ref x) :: r => sy_stk ls en.2.1 (.inl (.ref x)) (fun l => some (none, l, r, T))
  | _ => none
theorem sy_j4_eq : sy_j4 = sy_i4 := by
  funext en E ls st T
  unfold sy_j4 sy_i4
  simp only [sy_stk_eq] <;> rfl
noncomputable def sy_j5 : sy_I := fun en E ls st T => match sy_lk ls en.2.1 with
  | some v => match sy_c E v with
    | some x => sy_fi (x + Int32.ofNat en.2.2.1) (fun y => sy_stk ls en.2.1 (.inl (.int y)) (fun l => some (none, l, st, T)))
    | none => none
  | none => none
theorem sy_j5_eq : sy_j5 = sy_i5 := by
  funext en E ls st T
  unfold sy_j5 sy_i5
  simp only [sy_stk_eq, sy_fi_eq] <;> rfl
noncomputable def sy_jbin (f : Int32 → Int32 → Int32) : sy_I := fun _ E ls st T => match st with
  | y :: x :: r => match sy_c E x, sy_c E y with
    | some x1, some y1 => sy_fi (f x1 y1) (fun z => some (none, ls, .inl (.int z) :: r, T))
    | _, _ => bif sy_isI x && sy_isI y then some (none, ls, .inr 9 :: r, T) else none
  | _ => none
theorem sy_jbin_eq (f : Int32 → Int32 → Int32) : sy_jbin f = sy_bin f := by
  funext en E ls st T
  unfold sy_jbin sy_bin
  simp only [sy_fi_eq] <;> rfl
noncomputable def sy_jand : sy_I := fun en E ls st T => match st with
  | .inl (.int c) :: .inr 0 :: r => bif decide (c = 31) then some (none, ls, .inr 6 :: r, T) else none
  | _ => sy_jbin (fun x y => x &&& y) en E ls st T
theorem sy_jand_eq : sy_jand = sy_and := by
  funext en E ls st T
  unfold sy_jand sy_and
  simp only [sy_jbin_eq] <;> rfl
noncomputable def sy_jdiv (f : Int32 → Int32 → Int32) : sy_I := fun _ E ls st T => match st with
  | y :: x :: r => match sy_c E x, sy_c E y with
    | some x1, some y1 => if y1 = 0 then none else sy_fi (f x1 y1) (fun z => some (none, ls, .inl (.int z) :: r, T))
    | _, _ => none
  | _ => none
theorem sy_jdiv_eq (f : Int32 → Int32 → Int32) : sy_jdiv f = sy_div f := by
  funext en E ls st T
  unfold sy_jdiv sy_div
  simp only [sy_fi_eq] <;> rfl
noncomputable def sy_j21 : sy_I := fun _ E ls st T => match st with
  | x :: r => match sy_c E x with
    | some x1 => sy_fi x1.toInt8.toInt32 (fun z => some (none, ls, .inl (.int z) :: r, T))
    | none => bif sy_isI x then some (none, ls, .inr 9 :: r, T) else none
  | _ => none
theorem sy_j21_eq : sy_j21 = sy_i21 := by
  funext en E ls st T
  unfold sy_j21 sy_i21
  simp only [sy_fi_eq] <;> rfl
noncomputable def sy_jld1 (ls : sy_L) (r : List sy_V) (T : sy_H) (A : Nat) (o : Option Nat) : Option sy_O := match o with
  | some j => sy_fn (sy_pg A j) (fun x => some (none, ls, .inl (.int (Int32.ofNat x)) :: r, T))
  | none => none
theorem sy_jld1_eq (ls : sy_L) (r : List sy_V) (T : sy_H) (A : Nat) (o : Option Nat) : sy_jld1 ls r T A o = sy_ald1 ls r T A o := by
  unfold sy_jld1 sy_ald1
  simp only [sy_fn_eq] <;> rfl
noncomputable def sy_jld (E : sy_E) (i : sy_V) (ls : sy_L) (r : List sy_V) (T : sy_H) (o : Option (Nat × sy_C)) : Option sy_O := match o with
  | some (_, .inr (.inl (0, n, A))) => sy_jld1 ls r T A (sy_ix E i n)
  | some (_, .inr (.inr (.inr (0, n)))) => sy_ald2 ls r T (sy_ix E i n)
  | _ => none
theorem sy_jld_eq (E : sy_E) (i : sy_V) (ls : sy_L) (r : List sy_V) (T : sy_H) (o : Option (Nat × sy_C)) : sy_jld E i ls r T o = sy_ald E i ls r T o := by
  unfold sy_jld sy_ald
  simp only [sy_jld1_eq] <;> rfl
noncomputable def sy_j38 (q : Nat) : sy_I := fun _ E ls st T => match st with
  | i :: .inl (.ref 0) :: r => bif Nat.beq q 99 then none else (match sy_ix E i q with
    | some j => some (none, ls, .inr j :: r, T)
    | none => none)
  | i :: v :: r => sy_jld E i ls r T (sy_arr T v)
  | _ => none
theorem sy_j38_eq (q : Nat) : sy_j38 q = sy_i38 q := by
  funext en E ls st T
  unfold sy_j38 sy_i38
  simp only [sy_jld_eq] <;> rfl
noncomputable def sy_j39 : sy_I := fun _ E ls st T => match st with
  | i :: v :: r => match sy_arr T v with
    | some (_, .inr (.inl (1, n, A))) => sy_jld1 ls r T A (sy_ix E i n)
    | some (_, .inr (.inl (2, n, A))) => sy_jld1 ls r T A (sy_ix E i n)
    | _ => none
  | _ => none
theorem sy_j39_eq : sy_j39 = sy_i39 := by
  funext en E ls st T
  unfold sy_j39 sy_i39
  simp only [sy_jld1_eq] <;> rfl
noncomputable def sy_j41 : sy_I := fun _ E ls st T => match st with
  | i :: v :: r => match sy_arr T v with
    | some (_, .inr (.inr (.inl (.inr (.inr (.inr (_, n, l))))))) => match sy_ix E i n with
      | some j => sy_agk none l j (fun x => some (none, ls, .inl (va_rf x) :: r, T))
      | none => none
    | _ => none
  | _ => none
theorem sy_j41_eq : sy_j41 = sy_i41 := by
  funext en E ls st T
  unfold sy_j41 sy_i41
  simp only [sy_agk_eq] <;> rfl
noncomputable def sy_sto (ls : sy_L) (r : List sy_V) (T : sy_H) (k t n A j : Nat) (x : Int32) : Option sy_O := sy_fn (sy_ps A j x.toBitVec.toNat) (fun A' => sy_setk T k (.inr (.inl (t, n, A'))) (fun T' => some (none, ls, r, T')))
theorem sy_sto_eq (ls : sy_L) (r : List sy_V) (T : sy_H) (k t n A j : Nat) (x : Int32) : sy_sto ls r T k t n A j x = sy_ast ls r T k t n A j x := by
  unfold sy_sto sy_ast
  rw [sy_fn_eq, sy_setk_eq]
noncomputable def sy_j42 : sy_I := fun _ E ls st T => match st with
  | x :: i :: v :: r => match sy_arr T v with
    | some (k, .inr (.inl (0, n, A))) => match sy_ix E i n with
      | some j => match sy_c E x with
        | some x1 => sy_sto ls r T k 0 n A j x1
        | none => bif sy_isI x then sy_setk T k (.inr (.inr (.inr (0, n)))) (fun T' => some (none, ls, r, T')) else none
      | none => none
    | some (_, .inr (.inr (.inr (0, n)))) => match sy_ix E i n with
      | some _ => bif sy_isI x then some (none, ls, r, T) else none
      | none => none
    | _ => none
  | _ => none
theorem sy_j42_eq : sy_j42 = sy_i42 := by
  funext en E ls st T
  unfold sy_j42 sy_i42
  simp only [sy_sto_eq, sy_setk_eq] <;> rfl
noncomputable def sy_j43 : sy_I := fun _ E ls st T => match st with
  | x :: i :: v :: r => match sy_arr T v with
    | some (k, .inr (.inl (1, n, A))) => match sy_ix E i n with
      | some j => match sy_c E x with
        | some x1 => sy_sto ls r T k 1 n A j (vp_nar .boolean x1)
        | none => none
      | none => none
    | some (k, .inr (.inl (2, n, A))) => match sy_ix E i n with
      | some j => match sy_c E x with
        | some x1 => sy_sto ls r T k 2 n A j (vp_nar .byte x1)
        | none => bif sy_isI x then sy_setk T k (.inr (.inr (.inr (2, n)))) (fun T' => some (none, ls, r, T')) else none
      | none => none
    | some (_, .inr (.inr (.inr (2, n)))) => match sy_ix E i n with
      | some _ => bif sy_isI x then some (none, ls, r, T) else none
      | none => none
    | _ => none
  | _ => none
theorem sy_j43_eq : sy_j43 = sy_i43 := by
  funext en E ls st T
  unfold sy_j43 sy_i43
  simp only [sy_sto_eq, sy_setk_eq] <;> rfl
noncomputable def sy_j44 : sy_I := fun _ E ls st T => match st with
  | .inl (.long x) :: i :: v :: r => match sy_arr T v with
    | some (k, .inr (.inr (.inl (.inr (.inr (.inl (n, l))))))) => match sy_ix E i n with
      | some j => sy_ask 0 l j x (fun l' => sy_setk T k (.inr (.inr (.inl (.inr (.inr (.inl (n, l'))))))) (fun T' => some (none, ls, r, T')))
      | none => none
    | _ => none
  | _ => none
theorem sy_j44_eq : sy_j44 = sy_i44 := by
  funext en E ls st T
  unfold sy_j44 sy_i44
  simp only [sy_ask_eq, sy_setk_eq] <;> rfl
noncomputable def sy_j45 : sy_I := fun _ E ls st T => match st with
  | .inl (.ref (q + 1)) :: i :: v :: r => match sy_arr T v, sy_get T q with
    | some (k, .inr (.inr (.inl (.inr (.inr (.inr (ci, n, l))))))), some (.inl o) => bif Nat.beq o.1 ci then (match sy_ix E i n with
      | some j => sy_fn (Nat.succ q) (fun q1 => sy_ask none l j (some q1) (fun l' => sy_setk T k (.inr (.inr (.inl (.inr (.inr (.inr (ci, n, l'))))))) (fun T' => some (none, ls, r, T'))))
      | none => none) else none
    | _, _ => none
  | _ => none
theorem sy_j45_eq : sy_j45 = sy_i45 := by
  funext en E ls st T
  unfold sy_j45 sy_i45
  simp only [sy_fn_eq, sy_ask_eq, sy_setk_eq]
  rfl
noncomputable def sy_j47 : sy_I := fun en E ls st T => match st with
  | w :: v :: r => match sy_arr T v, sy_val E w with
    | some (k, .inl (ci, fs)), some w1 => bif Nat.beq ci en.2.1 && sx_pv (en.2.2.1 / 1000) w1 then (match sy_fd fs (en.2.2.1 % 1000) with
      | some _ => sy_fsk fs (en.2.2.1 % 1000) w1 (fun f' => sy_setk T k (.inl (ci, f')) (fun T' => some (none, ls, r, T')))
      | none => none) else none
    | _, _ => none
  | _ => none
theorem sy_j47_eq : sy_j47 = sy_i47 := by
  funext en E ls st T
  unfold sy_j47 sy_i47
  simp only [sy_fsk_eq, sy_setk_eq] <;> rfl
noncomputable def sy_j48 (lim : Nat × Nat) (D : Nat → Nat × List (List Value)) : sy_I := fun en _ ls st T => match D en.2.1 with
  | (n, f) => sy_newk lim ls st T n (.inl (en.2.1, f))
theorem sy_j48_eq (lim : Nat × Nat) (D : Nat → Nat × List (List Value)) : sy_j48 lim D = sy_i48 lim D := by
  funext en E ls st T
  unfold sy_j48 sy_i48
  simp only [sy_newk_eq] <;> rfl
noncomputable def sy_jnar (lim : Nat × Nat) (t : Nat) : sy_I := fun _ E ls st T => match st with
  | x :: r => match sy_ix E x 134217729 with
    | some n => sy_fn n (fun n => sy_newk lim ls r T n (.inr (.inl (t, n, 0))))
    | none => none
  | _ => none
theorem sy_jnar_eq (lim : Nat × Nat) (t : Nat) : sy_jnar lim t = sy_nar lim t := by
  funext en E ls st T
  unfold sy_jnar sy_nar
  simp only [sy_fn_eq, sy_newk_eq] <;> rfl
noncomputable def sy_j53 (lim : Nat × Nat) : sy_I := fun en E ls st T => match st with
  | x :: r => match sy_ix E x 134217729 with
    | some n => sy_fn n (fun n => sy_newk lim ls r T n (.inr (.inr (.inl (.inr (.inr (.inr (en.2.1, n, []))))))))
    | none => none
  | _ => none
theorem sy_j53_eq (lim : Nat × Nat) : sy_j53 lim = sy_i53 lim := by
  funext en E ls st T
  unfold sy_j53 sy_i53
  simp only [sy_fn_eq, sy_newk_eq] <;> rfl
noncomputable def sy_j55 : sy_I := fun _ E ls st T => match st with
  | n :: dp :: w :: sp :: v :: r => match sy_arr T v, sy_arr T w with
    | some (_, .inr (.inl (0, n0, f))), some (k, .inr (.inl (0, n1, g))) => match sy_ix E sp 134217729, sy_ix E dp 134217729, sy_ix E n 134217729 with
      | some s1, some d1, some m1 => bif Nat.ble (s1 + m1) n0 && Nat.ble (d1 + m1) n1 && Nat.ble (r.map sy_cat).sum 8 then sy_fn (sy_pc f g s1 d1 m1) (fun l => sy_setk T k (.inr (.inl (0, n1, l))) (fun T' => some (none, ls, r, T'))) else none
      | _, _, _ => none
    | _, _ => none
  | _ => none
theorem sy_j55_eq : sy_j55 = sy_i55 := by
  funext en E ls st T
  unfold sy_j55 sy_i55
  simp only [sy_fn_eq, sy_setk_eq] <;> rfl
noncomputable def sy_h_0 (lim : Nat × Nat) (D : Nat → Nat × List (List Value)) (q : Nat) (o : Nat) : sy_I := (bif Nat.blt o 4 then (bif Nat.blt o 2 then (bif Nat.blt o 1 then sy_i0 else sy_i1) else (bif Nat.blt o 3 then sy_i2 else sy_j3)) else (bif Nat.blt o 6 then (bif Nat.blt o 5 then sy_j4 else sy_j5) else (bif Nat.blt o 7 then sy_i6 else sy_i7)))
theorem sy_h_0_eq (lim : Nat × Nat) (D : Nat → Nat × List (List Value)) (q o : Nat) : sy_h_0 lim D q o = sy_g0 lim D q o := by
  unfold sy_h_0 sy_g0
  simp only [sy_j21_eq, sy_j38_eq, sy_j39_eq, sy_j3_eq, sy_j41_eq, sy_j42_eq, sy_j43_eq, sy_j44_eq, sy_j45_eq, sy_j47_eq, sy_j48_eq, sy_j4_eq, sy_j53_eq, sy_j55_eq, sy_j5_eq, sy_jand_eq, sy_jbin_eq, sy_jdiv_eq, sy_jnar_eq] <;> rfl
noncomputable def sy_h_1 (lim : Nat × Nat) (D : Nat → Nat × List (List Value)) (q : Nat) (o : Nat) : sy_I := (bif Nat.blt o 12 then (bif Nat.blt o 10 then (bif Nat.blt o 9 then sy_i8 else sy_jbin (fun x y => x + y)) else (bif Nat.blt o 11 then sy_jbin (fun x y => x - y) else sy_jbin (fun x y => x * y))) else (bif Nat.blt o 14 then (bif Nat.blt o 13 then sy_jand else sy_jbin (fun x y => x ||| y)) else (bif Nat.blt o 15 then sy_jbin (fun x y => x ^^^ y) else sy_jbin (fun x y => x <<< (y &&& 31)))))
theorem sy_h_1_eq (lim : Nat × Nat) (D : Nat → Nat × List (List Value)) (q o : Nat) : sy_h_1 lim D q o = sy_g1 lim D q o := by
  unfold sy_h_1 sy_g1
  simp only [sy_j21_eq, sy_j38_eq, sy_j39_eq, sy_j3_eq, sy_j41_eq, sy_j42_eq, sy_j43_eq, sy_j44_eq, sy_j45_eq, sy_j47_eq, sy_j48_eq, sy_j4_eq, sy_j53_eq, sy_j55_eq, sy_j5_eq, sy_jand_eq, sy_jbin_eq, sy_jdiv_eq, sy_jnar_eq] <;> rfl
noncomputable def sy_h_2 (lim : Nat × Nat) (D : Nat → Nat × List (List Value)) (q : Nat) (o : Nat) : sy_I := (bif Nat.blt o 20 then (bif Nat.blt o 18 then (bif Nat.blt o 17 then sy_jbin (fun x y => x >>> (y &&& 31)) else sy_jbin (fun x y => (x.toUInt32 >>> (y.toUInt32 &&& Int32.toUInt32 31)).toInt32)) else (bif Nat.blt o 19 then sy_jdiv (fun x y => x / y) else sy_jdiv (fun x y => x - x / y * y))) else (bif Nat.blt o 22 then (bif Nat.blt o 21 then sy_i20 else sy_j21) else (bif Nat.blt o 23 then sy_i22 else sy_if1 0)))
theorem sy_h_2_eq (lim : Nat × Nat) (D : Nat → Nat × List (List Value)) (q o : Nat) : sy_h_2 lim D q o = sy_g2 lim D q o := by
  unfold sy_h_2 sy_g2
  simp only [sy_j21_eq, sy_j38_eq, sy_j39_eq, sy_j3_eq, sy_j41_eq, sy_j42_eq, sy_j43_eq, sy_j44_eq, sy_j45_eq, sy_j47_eq, sy_j48_eq, sy_j4_eq, sy_j53_eq, sy_j55_eq, sy_j5_eq, sy_jand_eq, sy_jbin_eq, sy_jdiv_eq, sy_jnar_eq] <;> rfl
noncomputable def sy_h_3 (lim : Nat × Nat) (D : Nat → Nat × List (List Value)) (q : Nat) (o : Nat) : sy_I := (bif Nat.blt o 28 then (bif Nat.blt o 26 then (bif Nat.blt o 25 then sy_if1 1 else sy_if1 2) else (bif Nat.blt o 27 then sy_if1 3 else sy_if1 4)) else (bif Nat.blt o 30 then (bif Nat.blt o 29 then sy_if1 5 else sy_if2 0) else (bif Nat.blt o 31 then sy_if2 1 else sy_if2 2)))
theorem sy_h_3_eq (lim : Nat × Nat) (D : Nat → Nat × List (List Value)) (q o : Nat) : sy_h_3 lim D q o = sy_g3 lim D q o := by
  unfold sy_h_3 sy_g3
  simp only [sy_j21_eq, sy_j38_eq, sy_j39_eq, sy_j3_eq, sy_j41_eq, sy_j42_eq, sy_j43_eq, sy_j44_eq, sy_j45_eq, sy_j47_eq, sy_j48_eq, sy_j4_eq, sy_j53_eq, sy_j55_eq, sy_j5_eq, sy_jand_eq, sy_jbin_eq, sy_jdiv_eq, sy_jnar_eq] <;> rfl
noncomputable def sy_h_4 (lim : Nat × Nat) (D : Nat → Nat × List (List Value)) (q : Nat) (o : Nat) : sy_I := (bif Nat.blt o 36 then (bif Nat.blt o 34 then (bif Nat.blt o 33 then sy_if2 3 else sy_if2 4) else (bif Nat.blt o 35 then sy_if2 5 else sy_i35)) else (bif Nat.blt o 38 then (bif Nat.blt o 37 then sy_no else sy_i37 q) else (bif Nat.blt o 39 then sy_j38 q else sy_j39)))
theorem sy_h_4_eq (lim : Nat × Nat) (D : Nat → Nat × List (List Value)) (q o : Nat) : sy_h_4 lim D q o = sy_g4 lim D q o := by
  unfold sy_h_4 sy_g4
  simp only [sy_j21_eq, sy_j38_eq, sy_j39_eq, sy_j3_eq, sy_j41_eq, sy_j42_eq, sy_j43_eq, sy_j44_eq, sy_j45_eq, sy_j47_eq, sy_j48_eq, sy_j4_eq, sy_j53_eq, sy_j55_eq, sy_j5_eq, sy_jand_eq, sy_jbin_eq, sy_jdiv_eq, sy_jnar_eq] <;> rfl
noncomputable def sy_h_5 (lim : Nat × Nat) (D : Nat → Nat × List (List Value)) (q : Nat) (o : Nat) : sy_I := (bif Nat.blt o 44 then (bif Nat.blt o 42 then (bif Nat.blt o 41 then sy_i40 else sy_j41) else (bif Nat.blt o 43 then sy_j42 else sy_j43)) else (bif Nat.blt o 46 then (bif Nat.blt o 45 then sy_j44 else sy_j45) else (bif Nat.blt o 47 then sy_i46 else sy_j47)))
theorem sy_h_5_eq (lim : Nat × Nat) (D : Nat → Nat × List (List Value)) (q o : Nat) : sy_h_5 lim D q o = sy_g5 lim D q o := by
  unfold sy_h_5 sy_g5
  simp only [sy_j21_eq, sy_j38_eq, sy_j39_eq, sy_j3_eq, sy_j41_eq, sy_j42_eq, sy_j43_eq, sy_j44_eq, sy_j45_eq, sy_j47_eq, sy_j48_eq, sy_j4_eq, sy_j53_eq, sy_j55_eq, sy_j5_eq, sy_jand_eq, sy_jbin_eq, sy_jdiv_eq, sy_jnar_eq] <;> rfl
noncomputable def sy_h_6 (lim : Nat × Nat) (D : Nat → Nat × List (List Value)) (q : Nat) (o : Nat) : sy_I := (bif Nat.blt o 52 then (bif Nat.blt o 50 then (bif Nat.blt o 49 then sy_j48 lim D else sy_jnar lim 0) else (bif Nat.blt o 51 then sy_jnar lim 1 else sy_jnar lim 2)) else (bif Nat.blt o 54 then (bif Nat.blt o 53 then sy_i52 lim else sy_j53 lim) else (bif Nat.blt o 55 then sy_i54 else sy_j55)))
theorem sy_h_6_eq (lim : Nat × Nat) (D : Nat → Nat × List (List Value)) (q o : Nat) : sy_h_6 lim D q o = sy_g6 lim D q o := by
  unfold sy_h_6 sy_g6
  simp only [sy_j21_eq, sy_j38_eq, sy_j39_eq, sy_j3_eq, sy_j41_eq, sy_j42_eq, sy_j43_eq, sy_j44_eq, sy_j45_eq, sy_j47_eq, sy_j48_eq, sy_j4_eq, sy_j53_eq, sy_j55_eq, sy_j5_eq, sy_jand_eq, sy_jbin_eq, sy_jdiv_eq, sy_jnar_eq] <;> rfl
noncomputable def sy_stepk (lim : Nat × Nat) (D : Nat → Nat × List (List Value)) (q : Nat) (o : Nat) : sy_I := (bif Nat.blt o 32 then (bif Nat.blt o 16 then (bif Nat.blt o 8 then sy_h_0 lim D q o else sy_h_1 lim D q o) else (bif Nat.blt o 24 then sy_h_2 lim D q o else sy_h_3 lim D q o)) else (bif Nat.blt o 48 then (bif Nat.blt o 40 then sy_h_4 lim D q o else sy_h_5 lim D q o) else (bif Nat.blt o 56 then sy_h_6 lim D q o else sy_no)))
theorem sy_stepk_eq (lim : Nat × Nat) (D : Nat → Nat × List (List Value)) (q o : Nat) : sy_stepk lim D q o = sy_step lim D q o := by
  unfold sy_stepk sy_step
  simp only [sy_h_0_eq, sy_h_1_eq, sy_h_2_eq, sy_h_3_eq, sy_h_4_eq, sy_h_5_eq, sy_h_6_eq, sy_j21_eq, sy_j38_eq, sy_j39_eq, sy_j3_eq, sy_j41_eq, sy_j42_eq, sy_j43_eq, sy_j44_eq, sy_j45_eq, sy_j47_eq, sy_j48_eq, sy_j4_eq, sy_j53_eq, sy_j55_eq, sy_j5_eq, sy_jand_eq, sy_jbin_eq, sy_jdiv_eq, sy_jnar_eq] <;> rfl
noncomputable def sy_goto (go : sy_F) (j K i : Nat) (E : sy_E) (o : Option sy_O) : Option (List sy_Lf) := match o with
  | none => none
  | some (t, ls1, st1, T1) => sy_fn (t.getD (Nat.succ i)) (fun t => go j K t E ls1 st1 T1)
noncomputable def sy_plaink (lim : Nat × Nat) (D : Nat → Nat × List (List Value)) (q : Nat) (go : sy_F) (j K i : Nat) (en : sx_N) (E : sy_E) (ls : sy_L) (st : List sy_V) (T : sy_H) : Option (List sy_Lf) := sy_goto go j K i E (sy_stepk lim D q en.1 en E ls st T)
theorem sy_plaink_eq (lim : Nat × Nat) (D : Nat → Nat × List (List Value)) (q : Nat) (go : sy_F) (j K i : Nat) (en : sx_N) (E : sy_E) (ls : sy_L) (st : List sy_V) (T : sy_H) : sy_plaink lim D q go j K i en E ls st T = sy_plain lim D q go j K i en E ls st T := by
  unfold sy_plaink sy_plain sy_goto
  simp only [sy_stepk_eq, sy_fn_eq]
  rfl
noncomputable def sy_aftk (P : Nat → Option sx_Mt) (go : sy_F) (j K i : Nat) (ls : sy_L) (rest : List sy_V) (a : sy_Lf) : Option (List sy_Lf) := match a with
  | (E, .inl (some v), T) => sy_fn (Nat.succ i) (fun i => go j K i E ls (v :: rest) T)
  | (E, .inl none, T) => sy_fn (Nat.succ i) (fun i => go j K i E ls rest T)
  | (E, .inr x, T) => sy_thrown P go j K i E ls x T
theorem sy_aftk_eq (P : Nat → Option sx_Mt) (go : sy_F) (j K i : Nat) (ls : sy_L) (rest : List sy_V) (a : sy_Lf) : sy_aftk P go j K i ls rest a = sy_aft P go j K i ls rest a := by
  unfold sy_aftk sy_aft
  obtain ⟨E, v, T⟩ := a
  rcases v with (v | v) | x
  · simp only [sy_fn_eq]; rfl
  · simp only [sy_fn_eq]; rfl
  · rfl
noncomputable def sy_callk (lim : Nat × Nat) (P : Nat → Option sx_Mt) (Kc : Nat → Nat) (go : sy_F) (j K i : Nat) (en : sx_N) (E : sy_E) (ls : sy_L) (st : List sy_V) (T : sy_H) : Option (List sy_Lf) := match sy_args en.2.2.1 st [] with
  | some (as, rest) => sy_fn (Kc en.2.1) (fun K1 => bif Nat.ble (rest.map sy_cat).sum 8 && as.all (fun v => Nat.beq (sy_cat v) 1) && sy_recv en.1 (K1 / 256 % 65536) T as && (Nat.ble T.1 lim.1 && Nat.ble T.2.1 lim.2) then (match go en.2.1 K1 0 E (sy_locs as 0) [] T with
    | some L => sy_seq (sy_aftk P go j K i ls rest) L
    | none => none) else none)
  | _ => none
theorem sy_callk_eq (lim : Nat × Nat) (P : Nat → Option sx_Mt) (Kc : Nat → Nat) (go : sy_F) (j K i : Nat) (en : sx_N) (E : sy_E) (ls : sy_L) (st : List sy_V) (T : sy_H) : sy_callk lim P Kc go j K i en E ls st T = sy_call lim P Kc go j K i en E ls st T := by
  unfold sy_callk sy_call
  have e : sy_aftk P go j K i ls = sy_aft P go j K i ls := by funext rest a; exact sy_aftk_eq P go j K i ls rest a
  cases has : sy_args en.2.2.1 st [] with
  | none => rfl
  | some asr =>
    obtain ⟨as, rest⟩ := asr
    simp only [sy_fn_eq, e] <;> rfl
noncomputable def sy_speck (lim : Nat × Nat) (P : Nat → Option sx_Mt) (Kc : Nat → Nat) (go : sy_F) (j K i : Nat) (en : sx_N) (E : sy_E) (ls : sy_L) (st : List sy_V) (T : sy_H) : Option (List sy_Lf) :=
  bif Nat.blt en.1 59 then sy_callk lim P Kc go j K i en E ls st T else sy_special lim P Kc go j K i en E ls st T
theorem sy_speck_eq (lim : Nat × Nat) (P : Nat → Option sx_Mt) (Kc : Nat → Nat) (go : sy_F) (j K i : Nat) (en : sx_N) (E : sy_E) (ls : sy_L) (st : List sy_V) (T : sy_H) : sy_speck lim P Kc go j K i en E ls st T = sy_special lim P Kc go j K i en E ls st T := by
  unfold sy_speck
  cases h : Nat.blt en.1 59 with
  | true =>
    rw [sy_callk_eq]
    unfold sy_special
    simp only [h, cond_true]
  | false => rfl
noncomputable def sy_bnk (lim : Nat × Nat) (P : Nat → Option sx_Mt) (Kc : Nat → Nat) (D : Nat → Nat × List (List Value)) (q : Nat) (go : sy_F) (j K i : Nat) (E : sy_E) (ls : sy_L) (st : List sy_V) (T : sy_H) (en : sx_N) : Option (List sy_Lf) := bif Nat.ble 56 en.1 then sy_speck lim P Kc go j K i en E ls st T else sy_plaink lim D q go j K i en E ls st T
noncomputable def sy_bwk (lim : Nat × Nat) (P : Nat → Option sx_Mt) (Kc : Nat → Nat) (D : Nat → Nat × List (List Value)) (q : Nat) (go : sy_F) (j K i : Nat) (E : sy_E) (ls : sy_L) (st : List sy_V) (T : sy_H) (en : sx_N) (w : Option (Nat × Nat)) : Option (List sy_Lf) := match w with
  | some (k, c) => sy_cuts go j K i E ls st T k c
  | none => sy_bnk lim P Kc D q go j K i E ls st T en
noncomputable def sy_body1k (lim : Nat × Nat) (P : Nat → Option sx_Mt) (Kc : Nat → Nat) (D : Nat → Nat × List (List Value)) (q : Nat) (go : sy_F) (j K i : Nat) (E : sy_E) (ls : sy_L) (st : List sy_V) (T : sy_H) (en : sx_N) : Option (List sy_Lf) :=
  bif Nat.beq en.1 36 then sy_b36 P go j K i E ls st T (sy_want36 P j i E st) else sy_bwk lim P Kc D q go j K i E ls st T en (sy_want en.1 E st)
theorem sy_body1k_eq (lim : Nat × Nat) (P : Nat → Option sx_Mt) (Kc : Nat → Nat) (D : Nat → Nat × List (List Value)) (q : Nat) (go : sy_F) (j K i : Nat) (E : sy_E) (ls : sy_L) (st : List sy_V) (T : sy_H) (en : sx_N) : sy_body1k lim P Kc D q go j K i E ls st T en = sy_body1 lim P Kc D q go j K i E ls st T en := by
  unfold sy_body1k sy_body1 sy_bwk sy_bw sy_bnk sy_bn
  simp only [sy_speck_eq, sy_plaink_eq] <;> rfl
noncomputable def sy_deck {β : Type} (x : Nat) (k : sx_N → β) : β := sy_fn (Nat.sub (Nat.mod x 256) 1) (fun o => sy_fn (Nat.mod (Nat.div x 256) 4294967296) (fun a => sy_fn (Nat.mod (Nat.div x 1099511627776) 4294967296) (fun b => k (o, a, b, 0, 0, .nop))))
noncomputable def sy_bodyk (lim : Nat × Nat) (P : Nat → Option sx_Mt) (Kc : Nat → Nat) (D : Nat → Nat × List (List Value)) (q : Nat) (go : sy_F) : sy_F := fun j K i E ls st T => bif Nat.beq (Nat.mod (sy_x K i) 256) 0 then none else sy_deck (sy_x K i) (sy_body1k lim P Kc D q go j K i E ls st T)
theorem sy_bodyk_eq (lim : Nat × Nat) (P : Nat → Option sx_Mt) (Kc : Nat → Nat) (D : Nat → Nat × List (List Value)) (q : Nat) (go : sy_F) : sy_bodyk lim P Kc D q go = sy_body lim P Kc D q go := by
  funext j K i E ls st T
  unfold sy_bodyk sy_body sy_deck
  simp only [sy_fn_eq, sy_body1k_eq]
  rfl
noncomputable def sy_execk (lim : Nat × Nat) (P : Nat → Option sx_Mt) (Kc : Nat → Nat) (D : Nat → Nat × List (List Value)) (q n : Nat) : sy_F := Nat.rec (fun _ _ _ _ _ _ _ => none) (fun _ go => sy_bodyk lim P Kc D q go) n
theorem sy_execk_eq (lim : Nat × Nat) (P : Nat → Option sx_Mt) (Kc : Nat → Nat) (D : Nat → Nat × List (List Value)) (q : Nat) : ∀ n, sy_execk lim P Kc D q n = sy_exec lim P Kc D q n
  | 0 => rfl
  | n + 1 => by
    have e : sy_execk lim P Kc D q (n + 1) = sy_bodyk lim P Kc D q (sy_execk lim P Kc D q n) := rfl
    rw [e, sy_bodyk_eq, sy_execk_eq lim P Kc D q n]
    rfl
end
section
theorem i_vc : Claimed_1_1 ∧ Claimed_1_2 := sorry
end
