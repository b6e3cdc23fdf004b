/-! ===== SI: a small interpreter over lists. A cell: an object (number of its class, fields), an array of ints, booleans or bytes (0, 1, 2; length; contents in rows of 32, 0 behind their end), of longs, of references (class, length, contents). A heap: how many cells, how many slots, the cells, the newest first. The value 'ref 0' is the script, 'ref (k + 1)' the cell k. ===== -/
abbrev sx_C : Type := (Nat × List Value) ⊕ ((Nat × Nat × List (List Int32)) ⊕ ((Nat × List (List Int64)) ⊕ (Nat × Nat × List (List (Option Nat)))))
abbrev sx_H : Type := Nat × Nat × List sx_C
abbrev sx_L : Type := List (Nat × Value)
/-- an instruction: a number for what it does, two numbers more (constant, local, target, class, field, method, how many arguments ..), its pc, its length, itself -/
abbrev sx_N : Type := Nat × Nat × Nat × Nat × Nat × Instr
/-- a method: its locals, its class, what it answers (0 nothing, 1 int, 2 boolean, 3 a reference), its handlers (from, to, where, class), its code, in rows of 16 -/
abbrev sx_Mt : Type := Nat × Nat × Nat × List (Nat × Nat × Nat × Nat) × List (List sx_N)
/-- place n of a list, or d -/
noncomputable def sx_lg {α : Type} (d : α) (l : List α) : Nat → α := List.rec (fun _ => d) (fun a _ ih n => Nat.casesOn n a ih) l
/-- place n of a list -/
noncomputable def sx_lo {α : Type} (l : List α) : Nat → Option α := List.rec (fun _ => none) (fun a _ ih n => Nat.casesOn n (some a) ih) l
/-- x at place n; d between the list's end and there -/
noncomputable def sx_lset {α : Type} (d x : α) (l : List α) : Nat → List α := List.rec (fun n => Nat.rec [x] (fun _ r => d :: r) n) (fun a t ih n => Nat.casesOn n (x :: t) (fun m => a :: ih m)) l
/-- arrays lie in rows of 32 -/
noncomputable def sx_ag {α : Type} (d : α) (l : List (List α)) (j : Nat) : α := sx_lg d (sx_lg [] l (j / 32)) (j % 32)
noncomputable def sx_as {α : Type} (d : α) (l : List (List α)) (j : Nat) (x : α) : List (List α) := sx_lset [] (sx_lset d x (sx_lg [] l (j / 32)) (j % 32)) l (j / 32)
noncomputable def sx_get (h : sx_H) (k : Nat) : Option sx_C := bif Nat.blt k h.1 then sx_lo h.2.2 (h.1 - 1 - k) else none
noncomputable def sx_set (h : sx_H) (k : Nat) (c : sx_C) : sx_H := (h.1, h.2.1, sx_lset c c h.2.2 (h.1 - 1 - k))
def sx_push (h : sx_H) (n : Nat) (c : sx_C) : sx_H := (h.1 + 1, h.2.1 + n, c :: h.2.2)
/-- a new cell of n slots, within the room, on the stack -/
def sx_new (lim : Nat × Nat) (ls : sx_L) (st : List Value) (h : sx_H) (n : Nat) (c : sx_C) : Option (Option Nat × sx_L × List Value × sx_H) := bif Nat.blt h.1 lim.1 && Nat.ble (h.2.1 + n) lim.2 then some (none, ls, .ref (h.1 + 1) :: st, sx_push h n c) else none
/-- y, behind a look at x: what lies on the way to x is computed then -/
def sx_frc {α : Type} (x : Int32) (y : Option α) : Option α := bif Nat.beq x.toBitVec.toNat 4294967296 then none else y
noncomputable def sx_lk (l : sx_L) (i : Nat) : Option Value := List.rec none (fun q _ ih => bif Nat.beq q.1 i then some q.2 else ih) l
/-- the locals behind a store: none of the code has a long one -/
noncomputable def sx_st (ls : sx_L) (i : Nat) (v : Value) : sx_L := (i, v) :: List.rec [] (fun q _ ih => bif Nat.beq q.1 i || Nat.beq q.2.category 2 then ih else q :: ih) ls
/-- an index below n -/
def sx_ix (i : Int32) (n : Nat) : Option Nat := bif Nat.blt i.toBitVec.toNat n && Nat.blt i.toBitVec.toNat 2147483648 then some i.toBitVec.toNat else none
noncomputable def sx_at (cd : List (List sx_N)) (i : Nat) : Option sx_N := sx_lo (sx_lg [] cd (i / 16)) (i % 16)
/-- the place of a pc -/
noncomputable def sx_find (cd : List (List sx_N)) (pc : Nat) : Nat → Option Nat := List.rec (fun _ => none) (fun r _ ih i => (List.rec (fun _ => ih (i + 16)) (fun q _ ih2 k => bif Nat.beq q.2.2.2.1 pc then some k else ih2 (k + 1)) r : Nat → Option Nat) i) cd
noncomputable def sx_to (cd : List (List sx_N)) (q : Int) : Option Nat := if 0 ≤ q then sx_find cd q.toNat 0 else none
noncomputable def sx_sw (cd : List (List sx_N)) (pc : Nat) (d lo hi : Int) (offs : Array Int) (x : Int32) : Option Nat :=
  if x.toInt < lo ∨ hi < x.toInt then sx_to cd ((pc : Int) + d) else match offs[(x.toInt - lo).toNat]? with
    | some o => sx_to cd ((pc : Int) + o)
    | none => none
/-- what comes of an instruction that is no call, no return, no throw: where next (none: behind it), locals, stack, heap -/
abbrev sx_O : Type := Option Nat × sx_L × List Value × sx_H
abbrev sx_I : Type := sx_N → sx_L → List Value → sx_H → Option sx_O
def sx_i0 : sx_I := fun en ls st h => some (none, ls, .int (Int32.ofNat en.2.1) :: st, h)
noncomputable def sx_i1 : sx_I := fun en ls st h => match sx_lk ls en.2.1 with
  | some (.int x) => some (none, ls, .int x :: st, h)
  | _ => none
noncomputable def sx_i2 : sx_I := fun en ls st h => match sx_lk ls en.2.1 with
  | some (.ref x) => some (none, ls, .ref x :: st, h)
  | _ => none
noncomputable def sx_i3 : sx_I := fun en ls st h => match st with
  | .int x :: r => some (none, sx_st ls en.2.1 (.int x), r, h)
  | _ => none
noncomputable def sx_i4 : sx_I := fun en ls st h => match st with
  | .ref x :: r => some (none, sx_st ls en.2.1 (.ref x), r, h)
  | _ => none
noncomputable def sx_i5 : sx_I := fun en ls st h => match sx_lk ls en.2.1 with
  | some (.int x) => some (none, sx_st ls en.2.1 (.int (x + Int32.ofNat en.2.2.1)), st, h)
  | _ => none
def sx_i6 : sx_I := fun _ ls st h => match st with
  | v :: r => bif Nat.beq v.category 1 then some (none, ls, r, h) else none
  | _ => none
def sx_i7 : sx_I := fun _ ls st h => match st with
  | v :: r => bif Nat.beq v.category 1 then some (none, ls, v :: v :: r, h) else none
  | _ => none
def sx_i8 : sx_I := fun _ ls st h => match st with
  | v :: w :: r => bif Nat.beq v.category 1 && Nat.beq w.category 1 then some (none, ls, v :: w :: v :: w :: r, h) else none
  | _ => none
def sx_bin (f : Int32 → Int32 → Int32) : sx_I := fun _ ls st h => match st with
  | .int y :: .int x :: r => some (none, ls, .int (f x y) :: r, h)
  | _ => none
def sx_div (f : Int32 → Int32 → Int32) : sx_I := fun _ ls st h => match st with
  | .int y :: .int x :: r => if y = 0 then none else some (none, ls, .int (f x y) :: r, h)
  | _ => none
def sx_i20 : sx_I := fun _ ls st h => match st with
  | .int x :: r => some (none, ls, .long x.toInt64 :: r, h)
  | _ => none
def sx_i21 : sx_I := fun _ ls st h => match st with
  | .int x :: r => some (none, ls, .int x.toInt8.toInt32 :: r, h)
  | _ => none
def sx_i22 : sx_I := fun _ ls st h => match st with
  | .long y :: .long x :: r => some (none, ls, .int (lg_cmp x y) :: r, h)
  | _ => none
def sx_if1 (f : Int32 → Bool) : sx_I := fun en ls st h => match st with
  | .int x :: r => some (bif f x then some en.2.1 else none, ls, r, h)
  | _ => none
def sx_if2 (f : Int32 → Int32 → Bool) : sx_I := fun en ls st h => match st with
  | .int y :: .int x :: r => some (bif f x y then some en.2.1 else none, ls, r, h)
  | _ => none
def sx_i35 : sx_I := fun en ls st h => some (some en.2.1, ls, st, h)
noncomputable def sx_i36 (cd : List (List sx_N)) : sx_I := fun en ls st h => match en.2.2.2.2.2, st with
  | .tableswitch d lo hi offs, .int x :: r => match sx_sw cd en.2.2.2.1 d lo hi offs x with
    | some t => some (some t, ls, r, h)
    | none => none
  | _, _ => none
noncomputable def sx_arr (h : sx_H) (v : Value) : Option (Nat × sx_C) := match v with
  | .ref (k + 1) => match sx_get h k with
    | some c => some (k, c)
    | none => none
  | _ => none
noncomputable def sx_i37 (S : List Int32) : sx_I := fun _ ls st h => match st with
  | .ref 0 :: r => some (none, ls, .int (Int32.ofNat S.length) :: r, h)
  | v :: r => match sx_arr h v with
    | some (_, .inr (.inl a)) => some (none, ls, .int (Int32.ofNat a.2.1) :: r, h)
    | some (_, .inr (.inr (.inr a))) => some (none, ls, .int (Int32.ofNat a.2.1) :: r, h)
    | _ => none
  | _ => none
noncomputable def sx_i38 (S : List Int32) : sx_I := fun _ ls st h => match st with
  | .int i :: .ref 0 :: r => match sx_ix i S.length with
    | some j => some (none, ls, .int (sx_lg 0 S j) :: r, h)
    | none => none
  | .int i :: v :: r => match sx_arr h v with
    | some (_, .inr (.inl (0, n, l))) => match sx_ix i n with
      | some j => some (none, ls, .int (sx_ag 0 l j) :: r, h)
      | none => none
    | _ => none
  | _ => none
noncomputable def sx_i39 : sx_I := fun _ ls st h => match st with
  | .int i :: v :: r => match sx_arr h v with
    | some (_, .inr (.inl (1, n, l))) => match sx_ix i n with
      | some j => some (none, ls, .int (sx_ag 0 l j) :: r, h)
      | none => none
    | some (_, .inr (.inl (2, n, l))) => match sx_ix i n with
      | some j => some (none, ls, .int (sx_ag 0 l j) :: r, h)
      | none => none
    | _ => none
  | _ => none
noncomputable def sx_i40 : sx_I := fun _ ls st h => match st with
  | .int i :: v :: r => match sx_arr h v with
    | some (_, .inr (.inr (.inl (n, l)))) => match sx_ix i n with
      | some j => some (none, ls, .long (sx_ag 0 l j) :: r, h)
      | none => none
    | _ => none
  | _ => none
noncomputable def sx_i41 : sx_I := fun _ ls st h => match st with
  | .int i :: v :: r => match sx_arr h v with
    | some (_, .inr (.inr (.inr (_, n, l)))) => match sx_ix i n with
      | some j => some (none, ls, va_rf (sx_ag none l j) :: r, h)
      | none => none
    | _ => none
  | _ => none
noncomputable def sx_i42 : sx_I := fun _ ls st h => match st with
  | .int x :: .int i :: v :: r => match sx_arr h v with
    | some (k, .inr (.inl (0, n, l))) => match sx_ix i n with
      | some j => sx_frc (sx_ag 0 l j) (some (none, ls, r, sx_set h k (.inr (.inl (0, n, sx_as 0 l j x)))))
      | none => none
    | _ => none
  | _ => none
noncomputable def sx_i43 : sx_I := fun _ ls st h => match st with
  | .int x :: .int i :: v :: r => match sx_arr h v with
    | some (k, .inr (.inl (1, n, l))) => match sx_ix i n with
      | some j => sx_frc (sx_ag 0 l j) (some (none, ls, r, sx_set h k (.inr (.inl (1, n, sx_as 0 l j (vp_nar .boolean x))))))
      | none => none
    | some (k, .inr (.inl (2, n, l))) => match sx_ix i n with
      | some j => sx_frc (sx_ag 0 l j) (some (none, ls, r, sx_set h k (.inr (.inl (2, n, sx_as 0 l j (vp_nar .byte x))))))
      | none => none
    | _ => none
  | _ => none
noncomputable def sx_i44 : sx_I := fun _ ls st h => match st with
  | .long x :: .int i :: v :: r => match sx_arr h v with
    | some (k, .inr (.inr (.inl (n, l)))) => match sx_ix i n with
      | some j => some (none, ls, r, sx_set h k (.inr (.inr (.inl (n, sx_as 0 l j x)))))
      | none => none
    | _ => none
  | _ => none
noncomputable def sx_i45 : sx_I := fun _ ls st h => match st with
  | .ref (q + 1) :: .int i :: v :: r => match sx_arr h v, sx_get h q with
    | some (k, .inr (.inr (.inr (ci, n, l)))), some (.inl o) => bif Nat.beq o.1 ci then (match sx_ix i n with
      | some j => some (none, ls, r, sx_set h k (.inr (.inr (.inr (ci, n, sx_as none l j (some (q + 1)))))))
      | none => none) else none
    | _, _ => none
  | _ => none
noncomputable def sx_i46 : sx_I := fun en ls st h => match st with
  | v :: r => match sx_arr h v with
    | some (_, .inl (ci, fs)) => bif Nat.beq ci en.2.1 then (match sx_lo fs en.2.2.1 with
      | some w => some (none, ls, w :: r, h)
      | none => none) else none
    | _ => none
  | _ => none
/-- whether a value may stand in a field: of ints (0), booleans (1), references (2) -/
def sx_pv (f : Nat) (v : Value) : Bool := match v with
  | .int x => bif Nat.beq f 0 then true else Nat.beq f 1 && (decide (x = 0) || decide (x = 1))
  | .ref _ => Nat.beq f 2
  | _ => false
noncomputable def sx_i47 : sx_I := fun en ls st h => match st with
  | w :: v :: r => match sx_arr h v with
    | some (k, .inl (ci, fs)) => bif Nat.beq ci en.2.1 && Nat.blt (en.2.2.1 % 1000) fs.length && sx_pv (en.2.2.1 / 1000) w then some (none, ls, r, sx_set h k (.inl (ci, sx_lset w w fs (en.2.2.1 % 1000)))) else none
    | _ => none
  | _ => none
def sx_i48 (lim : Nat × Nat) (D : Nat → List Value) : sx_I := fun en ls st h => sx_new lim ls st h (D en.2.1).length (.inl (en.2.1, D en.2.1))
/-- a new array of ints (0), booleans (1), bytes (2) -/
def sx_nar (lim : Nat × Nat) (t : Nat) : sx_I := fun _ ls st h => match st with
  | .int x :: r => match sx_ix x 134217729 with
    | some n => sx_new lim ls r h n (.inr (.inl (t, n, [])))
    | none => none
  | _ => none
def sx_i52 (lim : Nat × Nat) : sx_I := fun _ ls st h => match st with
  | .int x :: r => match sx_ix x 67108865 with
    | some n => sx_new lim ls r h n (.inr (.inr (.inl (n, []))))
    | none => none
  | _ => none
def sx_i53 (lim : Nat × Nat) : sx_I := fun en ls st h => match st with
  | .int x :: r => match sx_ix x 134217729 with
    | some n => sx_new lim ls r h n (.inr (.inr (.inr (en.2.1, n, []))))
    | none => none
  | _ => none
def sx_i54 : sx_I := fun _ ls st h => match st with
  | .ref _ :: r => bif Nat.ble (r.map fun v => v.category).sum 8 then some (none, ls, r, h) else none
  | _ => none
/-- the first m of f behind sp, laid over g at dp -/
noncomputable def sx_cpy (f g : List (List Int32)) (sp dp m : Nat) : List (List Int32) := Nat.rec g (fun k r => sx_as 0 r (dp + k) (sx_ag 0 f (sp + k))) m
noncomputable def sx_i55 : sx_I := fun _ ls st h => match st with
  | .int n :: .int dp :: w :: .int sp :: v :: r => match sx_arr h v, sx_arr h w with
    | some (_, .inr (.inl (0, n0, f))), some (k, .inr (.inl (0, n1, g))) => match sx_ix sp 134217729, sx_ix dp 134217729, sx_ix n 134217729 with
      | some s1, some d1, some m1 => bif Nat.ble (s1 + m1) n0 && Nat.ble (d1 + m1) n1 && Nat.ble (r.map fun v => v.category).sum 8 then some (none, ls, r, sx_set h k (.inr (.inl (0, n1, sx_cpy f g s1 d1 m1)))) else none
      | _, _, _ => none
    | _, _ => none
  | _ => none
def sx_no : sx_I := fun _ _ _ _ => none
noncomputable def sx_g0 (lim : Nat × Nat) (D : Nat → List Value) (S : List Int32) (cd : List (List sx_N)) (o : Nat) : sx_I := (bif Nat.blt o 4 then (bif Nat.blt o 2 then (bif Nat.blt o 1 then sx_i0 else sx_i1) else (bif Nat.blt o 3 then sx_i2 else sx_i3)) else (bif Nat.blt o 6 then (bif Nat.blt o 5 then sx_i4 else sx_i5) else (bif Nat.blt o 7 then sx_i6 else sx_i7)))
noncomputable def sx_g1 (lim : Nat × Nat) (D : Nat → List Value) (S : List Int32) (cd : List (List sx_N)) (o : Nat) : sx_I := (bif Nat.blt o 12 then (bif Nat.blt o 10 then (bif Nat.blt o 9 then sx_i8 else sx_bin (fun x y => x + y)) else (bif Nat.blt o 11 then sx_bin (fun x y => x - y) else sx_bin (fun x y => x * y))) else (bif Nat.blt o 14 then (bif Nat.blt o 13 then sx_bin (fun x y => x &&& y) else sx_bin (fun x y => x ||| y)) else (bif Nat.blt o 15 then sx_bin (fun x y => x ^^^ y) else sx_bin (fun x y => x <<< (y &&& 31)))))
noncomputable def sx_g2 (lim : Nat × Nat) (D : Nat → List Value) (S : List Int32) (cd : List (List sx_N)) (o : Nat) : sx_I := (bif Nat.blt o 20 then (bif Nat.blt o 18 then (bif Nat.blt o 17 then sx_bin (fun x y => x >>> (y &&& 31)) else sx_bin (fun x y => (x.toUInt32 >>> (y.toUInt32 &&& Int32.toUInt32 31)).toInt32)) else (bif Nat.blt o 19 then sx_div (fun x y => x / y) else sx_div (fun x y => x - x / y * y))) else (bif Nat.blt o 22 then (bif Nat.blt o 21 then sx_i20 else sx_i21) else (bif Nat.blt o 23 then sx_i22 else sx_if1 (fun x => decide (x = 0)))))
noncomputable def sx_g3 (lim : Nat × Nat) (D : Nat → List Value) (S : List Int32) (cd : List (List sx_N)) (o : Nat) : sx_I := (bif Nat.blt o 28 then (bif Nat.blt o 26 then (bif Nat.blt o 25 then sx_if1 (fun x => decide (¬ x = 0)) else sx_if1 (fun x => decide (x < 0))) else (bif Nat.blt o 27 then sx_if1 (fun x => decide (0 ≤ x)) else sx_if1 (fun x => decide (0 < x)))) else (bif Nat.blt o 30 then (bif Nat.blt o 29 then sx_if1 (fun x => decide (x ≤ 0)) else sx_if2 (fun x y => decide (x = y))) else (bif Nat.blt o 31 then sx_if2 (fun x y => decide (¬ x = y)) else sx_if2 (fun x y => decide (x < y)))))
noncomputable def sx_g4 (lim : Nat × Nat) (D : Nat → List Value) (S : List Int32) (cd : List (List sx_N)) (o : Nat) : sx_I := (bif Nat.blt o 36 then (bif Nat.blt o 34 then (bif Nat.blt o 33 then sx_if2 (fun x y => decide (y ≤ x)) else sx_if2 (fun x y => decide (y < x))) else (bif Nat.blt o 35 then sx_if2 (fun x y => decide (x ≤ y)) else sx_i35)) else (bif Nat.blt o 38 then (bif Nat.blt o 37 then sx_i36 cd else sx_i37 S) else (bif Nat.blt o 39 then sx_i38 S else sx_i39)))
noncomputable def sx_g5 (lim : Nat × Nat) (D : Nat → List Value) (S : List Int32) (cd : List (List sx_N)) (o : Nat) : sx_I := (bif Nat.blt o 44 then (bif Nat.blt o 42 then (bif Nat.blt o 41 then sx_i40 else sx_i41) else (bif Nat.blt o 43 then sx_i42 else sx_i43)) else (bif Nat.blt o 46 then (bif Nat.blt o 45 then sx_i44 else sx_i45) else (bif Nat.blt o 47 then sx_i46 else sx_i47)))
noncomputable def sx_g6 (lim : Nat × Nat) (D : Nat → List Value) (S : List Int32) (cd : List (List sx_N)) (o : Nat) : sx_I := (bif Nat.blt o 52 then (bif Nat.blt o 50 then (bif Nat.blt o 49 then sx_i48 lim D else sx_nar lim 0) else (bif Nat.blt o 51 then sx_nar lim 1 else sx_nar lim 2)) else (bif Nat.blt o 54 then (bif Nat.blt o 53 then sx_i52 lim else sx_i53 lim) else (bif Nat.blt o 55 then sx_i54 else sx_i55)))
/-- the instructions that are no call, no return, no throw. D: the fields that a new object of a class has, S: the script, cd: the method's code -/
noncomputable def sx_step (lim : Nat × Nat) (D : Nat → List Value) (S : List Int32) (cd : List (List sx_N)) (o : Nat) : sx_I := (bif Nat.blt o 32 then (bif Nat.blt o 16 then (bif Nat.blt o 8 then sx_g0 lim D S cd o else sx_g1 lim D S cd o) else (bif Nat.blt o 24 then sx_g2 lim D S cd o else sx_g3 lim D S cd o)) else (bif Nat.blt o 48 then (bif Nat.blt o 40 then sx_g4 lim D S cd o else sx_g5 lim D S cd o) else (bif Nat.blt o 56 then sx_g6 lim D S cd o else sx_no)))
/-- what a method answers, or the cell of what it throws -/
abbrev sx_R : Type := (Option Value ⊕ Nat) × sx_H
/-- n values off the stack, the deepest first -/
noncomputable def sx_args (n : Nat) : List Value → List Value → Option (List Value × List Value) := Nat.rec (fun st a => some (a, st)) (fun _ ih st a => List.casesOn st none (fun v r => ih r (v :: a))) n
noncomputable def sx_locs (l : List Value) : Nat → sx_L := List.rec (fun _ => []) (fun v _ ih i => (i, v) :: ih (i + 1)) l
def sx_r0 (rk : Nat) (st : List Value) : Option (Option Value) := match st with
  | [] => bif Nat.beq rk 0 then some none else none
  | _ => none
def sx_r1 (rk : Nat) (st : List Value) : Option (Option Value) := match st with
  | [.int x] => bif Nat.beq rk 1 then some (some (.int x)) else bif Nat.beq rk 2 && (decide (x = 0) || decide (x = 1)) then some (some (.int x)) else none
  | _ => none
def sx_r2 (rk : Nat) (st : List Value) : Option (Option Value) := match st with
  | [.ref x] => bif Nat.beq rk 3 then some (some (.ref x)) else none
  | _ => none
noncomputable def sx_hand (l : List (Nat × Nat × Nat × Nat)) (pc ci : Nat) : Option Nat := List.rec none (fun q _ ih => bif Nat.ble q.1 pc && Nat.blt pc q.2.1 && Nat.beq q.2.2.2 ci then some q.2.2.1 else ih) l
/-- the receiver is an object of the method's class -/
noncomputable def sx_recv (o ci : Nat) (h : sx_H) (as : List Value) : Bool := bif Nat.beq o 58 then true else match as with
  | v :: _ => match sx_arr h v with
    | some (_, .inl o) => Nat.beq o.1 ci
    | _ => false
  | [] => false
abbrev sx_F : Type := Nat → Nat → sx_L → List Value → sx_H → Option sx_R
noncomputable def sx_plain (lim : Nat × Nat) (D : Nat → List Value) (S : List Int32) (go : sx_F) (j i : Nat) (M : sx_Mt) (en : sx_N) (ls : sx_L) (st : List Value) (h : sx_H) : Option sx_R := match sx_step lim D S M.2.2.2.2 en.1 en ls st h with
  | none => none
  | some (t, ls1, st1, h1) => go j (t.getD (i + 1)) ls1 st1 h1
noncomputable def sx_thrown (go : sx_F) (j : Nat) (M : sx_Mt) (en : sx_N) (ls : sx_L) (x : Nat) (h1 : sx_H) : Option sx_R := match M.2.2.2.1 with
  | [] => some (.inr x, h1)
  | _ :: _ => match sx_get h1 x with
    | some (.inl o) => match sx_hand M.2.2.2.1 en.2.2.2.1 o.1 with
      | some t => go j t ls [.ref (x + 1)] h1
      | none => none
    | _ => none
noncomputable def sx_call (lim : Nat × Nat) (P : Nat → Option sx_Mt) (go : sx_F) (j i : Nat) (M : sx_Mt) (en : sx_N) (ls : sx_L) (st : List Value) (h : sx_H) : Option sx_R := match sx_args en.2.2.1 st [], P en.2.1 with
  | some (as, rest), some N => bif Nat.ble (rest.map fun v => v.category).sum 8 && as.all (fun v => Nat.beq v.category 1) && sx_recv en.1 N.2.1 h as && (Nat.ble h.1 lim.1 && Nat.ble h.2.1 lim.2) then (match go en.2.1 0 (sx_locs as 0) [] h with
    | some (.inl v, h1) => go j (i + 1) ls (v.toList ++ rest) h1
    | some (.inr x, h1) => sx_thrown go j M en ls x h1
    | none => none) else none
  | _, _ => none
def sx_ends (h : sx_H) (v : Option (Option Value)) : Option sx_R := match v with
  | some w => some (.inl w, h)
  | none => none
noncomputable def sx_special (lim : Nat × Nat) (P : Nat → Option sx_Mt) (go : sx_F) (j i : Nat) (M : sx_Mt) (en : sx_N) (ls : sx_L) (st : List Value) (h : sx_H) : Option sx_R :=
  bif Nat.blt en.1 59 then sx_call lim P go j i M en ls st h else
  bif Nat.blt en.1 61 then (bif Nat.beq en.1 59 then sx_ends h (sx_r0 M.2.2.1 st) else sx_ends h (sx_r1 M.2.2.1 st)) else
  bif Nat.beq en.1 61 then sx_ends h (sx_r2 M.2.2.1 st) else
  bif Nat.beq en.1 62 then (bif Nat.blt h.1 lim.1 && Nat.ble (h.2.1 + 6) lim.2 && Nat.ble (st.map fun v => v.category).sum 8 then some (.inr h.1, sx_push h 6 (.inl (en.2.1, []))) else none) else none
/-- one instruction of method j, at place i; 'go' runs the rest -/
noncomputable def sx_body (lim : Nat × Nat) (P : Nat → Option sx_Mt) (D : Nat → List Value) (S : List Int32) (go : sx_F) : sx_F := fun j i ls st h => match P j with
  | none => none
  | some M => match sx_at M.2.2.2.2 i with
    | none => none
    | some en => bif Nat.blt en.1 56 then sx_plain lim D S go j i M en ls st h else sx_special lim P go j i M en ls st h
noncomputable def sx_exec (lim : Nat × Nat) (P : Nat → Option sx_Mt) (D : Nat → List Value) (S : List Int32) (n : Nat) : sx_F := Nat.rec (fun _ _ _ _ _ => none) (fun _ go => sx_body lim P D S go) n
theorem sx_exec_succ (lim : Nat × Nat) (P : Nat → Option sx_Mt) (D : Nat → List Value) (S : List Int32) (n : Nat) : sx_exec lim P D S (n + 1) = sx_body lim P D S (sx_exec lim P D S n) := rfl
