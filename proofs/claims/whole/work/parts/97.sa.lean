/-! ===== SF: SI with some ints unknown. A value: known; or the number of a variable (0 to 5: the script's ints; 6: the lowest five bits of the first), 7 and above: some int. A cell: an object (its class, its fields in rows of 8); an array of ints, booleans or bytes (kind, length, contents: 32 bits each in one number); another one, known; or an array (kind, length) of contents unknown. The heap: eleven times twofold. For each variable an interval, with 2 to the 31 added. ===== -/
abbrev sy_V : Type := Value ⊕ Nat
abbrev sy_C : Type := (Nat × List (List Value)) ⊕ ((Nat × Nat × Nat) ⊕ (sx_C ⊕ (Nat × Nat)))
abbrev sy_t0 : Type := Option sy_C
abbrev sy_t1 : Type := sy_t0 × sy_t0
abbrev sy_t2 : Type := sy_t1 × sy_t1
abbrev sy_t3 : Type := sy_t2 × sy_t2
abbrev sy_t4 : Type := sy_t3 × sy_t3
abbrev sy_t5 : Type := sy_t4 × sy_t4
abbrev sy_t6 : Type := sy_t5 × sy_t5
abbrev sy_t7 : Type := sy_t6 × sy_t6
abbrev sy_t8 : Type := sy_t7 × sy_t7
abbrev sy_t9 : Type := sy_t8 × sy_t8
abbrev sy_t10 : Type := sy_t9 × sy_t9
abbrev sy_t11 : Type := sy_t10 × sy_t10
abbrev sy_K : Type := sy_t11
abbrev sy_H : Type := Nat × Nat × sy_K
abbrev sy_E : Type := List (Nat × Nat)
abbrev sy_L : Type := List (Nat × sy_V)
def sy_b (x : Int32) : Nat := (x.toBitVec.toNat + 2147483648) % 4294967296
def sy_u (n : Nat) : Int32 := Int32.ofNat (n + 2147483648)
noncomputable def sy_of (E : sy_E) (k : Nat) : Nat × Nat := sx_lg (0, 4294967295) E k
noncomputable def sy_iv (E : sy_E) (v : sy_V) : Option (Nat × Nat) := match v with
  | .inl (.int x) => some (sy_b x, sy_b x)
  | .inr k => bif Nat.blt k 7 then some (sy_of E k) else none
  | _ => none
noncomputable def sy_c (E : sy_E) (v : sy_V) : Option Int32 := match v with
  | .inl (.int x) => some x
  | .inr k => bif Nat.blt k 7 && Nat.beq (sy_of E k).1 (sy_of E k).2 then some (sy_u (sy_of E k).1) else none
  | _ => none
def sy_isI (v : sy_V) : Bool := match v with
  | .inl (.int _) => true
  | .inr _ => true
  | _ => false
def sy_cat (v : sy_V) : Nat := match v with
  | .inl w => w.category
  | .inr _ => 1
noncomputable def sy_val (E : sy_E) (w : sy_V) : Option Value := match w with
  | .inl v => some v
  | .inr k => match sy_c E (.inr k) with
    | some x => some (.int x)
    | none => none
def sy_bg {α : Type} (m : Nat) (g : α → Nat → Option sy_C) (t : α × α) (k : Nat) : Option sy_C := bif Nat.ble m k then g t.2 (Nat.sub k m) else g t.1 k
def sy_bs {α : Type} (m : Nat) (s : α → Nat → sy_C → α) (t : α × α) (k : Nat) (c : sy_C) : α × α := bif Nat.ble m k then (t.1, s t.2 (Nat.sub k m) c) else (s t.1 k c, t.2)
def sy_g_0 (t : sy_t0) (_ : Nat) : Option sy_C := t
def sy_s_0 (_ : sy_t0) (_ : Nat) (c : sy_C) : sy_t0 := some c
def sy_e0 : sy_t0 := none
def sy_g_1 : sy_t1 → Nat → Option sy_C := sy_bg 1 sy_g_0
def sy_s_1 : sy_t1 → Nat → sy_C → sy_t1 := sy_bs 1 sy_s_0
def sy_e1 : sy_t1 := (sy_e0, sy_e0)
def sy_g_2 : sy_t2 → Nat → Option sy_C := sy_bg 2 sy_g_1
def sy_s_2 : sy_t2 → Nat → sy_C → sy_t2 := sy_bs 2 sy_s_1
def sy_e2 : sy_t2 := (sy_e1, sy_e1)
def sy_g_3 : sy_t3 → Nat → Option sy_C := sy_bg 4 sy_g_2
def sy_s_3 : sy_t3 → Nat → sy_C → sy_t3 := sy_bs 4 sy_s_2
def sy_e3 : sy_t3 := (sy_e2, sy_e2)
def sy_g_4 : sy_t4 → Nat → Option sy_C := sy_bg 8 sy_g_3
def sy_s_4 : sy_t4 → Nat → sy_C → sy_t4 := sy_bs 8 sy_s_3
def sy_e4 : sy_t4 := (sy_e3, sy_e3)
def sy_g_5 : sy_t5 → Nat → Option sy_C := sy_bg 16 sy_g_4
def sy_s_5 : sy_t5 → Nat → sy_C → sy_t5 := sy_bs 16 sy_s_4
def sy_e5 : sy_t5 := (sy_e4, sy_e4)
def sy_g_6 : sy_t6 → Nat → Option sy_C := sy_bg 32 sy_g_5
def sy_s_6 : sy_t6 → Nat → sy_C → sy_t6 := sy_bs 32 sy_s_5
def sy_e6 : sy_t6 := (sy_e5, sy_e5)
def sy_g_7 : sy_t7 → Nat → Option sy_C := sy_bg 64 sy_g_6
def sy_s_7 : sy_t7 → Nat → sy_C → sy_t7 := sy_bs 64 sy_s_6
def sy_e7 : sy_t7 := (sy_e6, sy_e6)
def sy_g_8 : sy_t8 → Nat → Option sy_C := sy_bg 128 sy_g_7
def sy_s_8 : sy_t8 → Nat → sy_C → sy_t8 := sy_bs 128 sy_s_7
def sy_e8 : sy_t8 := (sy_e7, sy_e7)
def sy_g_9 : sy_t9 → Nat → Option sy_C := sy_bg 256 sy_g_8
def sy_s_9 : sy_t9 → Nat → sy_C → sy_t9 := sy_bs 256 sy_s_8
def sy_e9 : sy_t9 := (sy_e8, sy_e8)
def sy_g_10 : sy_t10 → Nat → Option sy_C := sy_bg 512 sy_g_9
def sy_s_10 : sy_t10 → Nat → sy_C → sy_t10 := sy_bs 512 sy_s_9
def sy_e10 : sy_t10 := (sy_e9, sy_e9)
def sy_g_11 : sy_t11 → Nat → Option sy_C := sy_bg 1024 sy_g_10
def sy_s_11 : sy_t11 → Nat → sy_C → sy_t11 := sy_bs 1024 sy_s_10
def sy_e11 : sy_t11 := (sy_e10, sy_e10)
def sy_get (T : sy_H) (k : Nat) : Option sy_C := bif Nat.ble 2048 k then none else sy_g_11 T.2.2 k
def sy_put (l : sy_K) (k : Nat) (c : sy_C) : sy_K := sy_s_11 l k c
/-- a place of a packed array -/
def sy_pg (A j : Nat) : Nat := Nat.mod (Nat.shiftRight (Nat.shiftRight A 64) (Nat.mul 32 j)) 4294967296
/-- the lowest 64 bits say nothing: they make numbers look other to who keeps them -/
def sy_ps (A j x : Nat) : Nat := Nat.add (Nat.shiftLeft (Nat.sub (Nat.add (Nat.shiftRight A 64) (Nat.shiftLeft x (Nat.mul 32 j))) (Nat.shiftLeft (sy_pg A j) (Nat.mul 32 j))) 64) (Nat.succ (Nat.mod A 18446744073709551615))
noncomputable def sy_pc (F G sp dp m : Nat) : Nat := Nat.rec G (fun k r => sy_ps r (Nat.add dp k) (sy_pg F (Nat.add sp k))) m
/-- a field of an object -/
noncomputable def sy_fd (f : List (List Value)) (b : Nat) : Option Value := sx_lo (sx_lg [] f (Nat.div b 8)) (Nat.mod b 8)
noncomputable def sy_fs (f : List (List Value)) (b : Nat) (w : Value) : List (List Value) := sx_lset [] (sx_lset w w (sx_lg [] f (Nat.div b 8)) (Nat.mod b 8)) f (Nat.div b 8)
def sy_set (T : sy_H) (k : Nat) (c : sy_C) : sy_H := (T.1, T.2.1, sy_put T.2.2 k c)
def sy_push (T : sy_H) (n : Nat) (c : sy_C) : sy_H := (T.1 + 1, T.2.1 + n, sy_put T.2.2 T.1 c)
noncomputable def sy_lk (l : sy_L) (i : Nat) : Option sy_V := List.rec none (fun q _ ih => bif Nat.beq q.1 i then some q.2 else ih) l
noncomputable def sy_stf (ls : sy_L) (i : Nat) : sy_L := List.rec [] (fun q _ ih => bif Nat.beq q.1 i || Nat.beq (sy_cat q.2) 2 then ih else q :: ih) ls
noncomputable def sy_st (ls : sy_L) (i : Nat) (v : sy_V) : sy_L := (i, v) :: sy_stf ls i
/-- x in a .. b, y in c .. d: whether they are as 0 (=), 1, 2 (<), 3, 4 (>), 5 says -/
def sy_dec (r a b c d : Nat) : Option Bool :=
  bif Nat.blt r 2 then (bif Nat.blt b c || Nat.blt d a then some (Nat.beq r 1) else bif Nat.beq a b && Nat.beq c d && Nat.beq a c then some (Nat.beq r 0) else none) else
  bif Nat.blt r 4 then (bif Nat.blt b c then some (Nat.beq r 2) else bif Nat.ble d a then some (Nat.beq r 3) else none) else
  (bif Nat.blt d a then some (Nat.beq r 4) else bif Nat.ble b c then some (Nat.beq r 5) else none)
abbrev sy_O : Type := Option Nat × sy_L × List sy_V × sy_H
abbrev sy_I : Type := sx_N → sy_E → sy_L → List sy_V → sy_H → Option sy_O
noncomputable def sy_new (lim : Nat × Nat) (ls : sy_L) (st : List sy_V) (T : sy_H) (n : Nat) (c : sy_C) : Option sy_O := bif Nat.blt T.1 lim.1 && Nat.ble (T.2.1 + n) lim.2 && Nat.ble (T.1 + 1) 2048 then some (none, ls, .inl (.ref (T.1 + 1)) :: st, sy_push T n c) else none
def sy_i0 : sy_I := fun en _ ls st T => some (none, ls, .inl (.int (Int32.ofNat en.2.1)) :: st, T)
noncomputable def sy_i1 : sy_I := fun en _ ls st T => match sy_lk ls en.2.1 with
  | some (.inl (.int x)) => some (none, ls, .inl (.int x) :: st, T)
  | some (.inr k) => some (none, ls, .inr k :: st, T)
  | _ => none
noncomputable def sy_i2 : sy_I := fun en _ ls st T => match sy_lk ls en.2.1 with
  | some (.inl (.ref x)) => some (none, ls, .inl (.ref x) :: st, T)
  | _ => none
noncomputable def sy_i3 : sy_I := fun en _ ls st T => match st with
  | .inl (.int x) :: r => some (none, sy_st ls en.2.1 (.inl (.int x)), r, T)
  | .inr k :: r => some (none, sy_st ls en.2.1 (.inr k), r, T)
  | _ => none
noncomputable def sy_i4 : sy_I := fun en _ ls st T => match st with
  | .inl (.ref x) :: r => some (none, sy_st ls en.2.1 (.inl (.ref x)), r, T)
  | _ => none
noncomputable def sy_i5 : sy_I := fun en E ls st T => match sy_lk ls en.2.1 with
  | some v => match sy_c E v with
    | some x => some (none, sy_st ls en.2.1 (.inl (.int (x + Int32.ofNat en.2.2.1))), st, T)
    | none => none
  | none => none
def sy_i6 : sy_I := fun _ _ ls st T => match st with
  | v :: r => bif Nat.beq (sy_cat v) 1 then some (none, ls, r, T) else none
  | _ => none
def sy_i7 : sy_I := fun _ _ ls st T => match st with
  | v :: r => bif Nat.beq (sy_cat v) 1 then some (none, ls, v :: v :: r, T) else none
  | _ => none
def sy_i8 : sy_I := fun _ _ ls st T => match st with
  | v :: w :: r => bif Nat.beq (sy_cat v) 1 && Nat.beq (sy_cat w) 1 then some (none, ls, v :: w :: v :: w :: r, T) else none
  | _ => none
noncomputable def sy_bin (f : Int32 → Int32 → Int32) : sy_I := fun _ E ls st T => match st with
  | y :: x :: r => match sy_c E x, sy_c E y with
    | some x1, some y1 => some (none, ls, .inl (.int (f x1 y1)) :: r, T)
    | _, _ => bif sy_isI x && sy_isI y then some (none, ls, .inr 9 :: r, T) else none
  | _ => none
noncomputable def sy_and : sy_I := fun en E ls st T => match st with
  | .inl (.int c) :: .inr 0 :: r => bif decide (c = 31) then some (none, ls, .inr 6 :: r, T) else none
  | _ => sy_bin (fun x y => x &&& y) en E ls st T
noncomputable def sy_div (f : Int32 → Int32 → Int32) : sy_I := fun _ E ls st T => match st with
  | y :: x :: r => match sy_c E x, sy_c E y with
    | some x1, some y1 => if y1 = 0 then none else some (none, ls, .inl (.int (f x1 y1)) :: r, T)
    | _, _ => none
  | _ => none
noncomputable def sy_i20 : sy_I := fun _ E ls st T => match st with
  | x :: r => match sy_c E x with
    | some x1 => some (none, ls, .inl (.long x1.toInt64) :: r, T)
    | none => none
  | _ => none
noncomputable def sy_i21 : sy_I := fun _ E ls st T => match st with
  | x :: r => match sy_c E x with
    | some x1 => some (none, ls, .inl (.int x1.toInt8.toInt32) :: r, T)
    | none => bif sy_isI x then some (none, ls, .inr 9 :: r, T) else none
  | _ => none
def sy_i22 : sy_I := fun _ _ ls st T => match st with
  | .inl (.long y) :: .inl (.long x) :: r => some (none, ls, .inl (.int (lg_cmp x y)) :: r, T)
  | _ => none
noncomputable def sy_if1 (r : Nat) : sy_I := fun en E ls st T => match st with
  | x :: s => match sy_iv E x with
    | some (a, b) => match sy_dec r a b 2147483648 2147483648 with
      | some q => some (bif q then some en.2.1 else none, ls, s, T)
      | none => none
    | none => none
  | _ => none
noncomputable def sy_if2 (r : Nat) : sy_I := fun en E ls st T => match st with
  | y :: x :: s => match sy_iv E x, sy_iv E y with
    | some (a, b), some (c, d) => match sy_dec r a b c d with
      | some q => some (bif q then some en.2.1 else none, ls, s, T)
      | none => none
    | _, _ => none
  | _ => none
def sy_i35 : sy_I := fun en _ ls st T => some (some en.2.1, ls, st, T)
noncomputable def sy_i36 (cd : List (List sx_N)) : sy_I := fun en E ls st T => match en.2.2.2.2.2, st with
  | .tableswitch d lo hi offs, x :: r => match sy_c E x with
    | some x1 => match sx_sw cd en.2.2.2.1 d lo hi offs x1 with
      | some t => some (some t, ls, r, T)
      | none => none
    | none => match sy_iv E x with
      | some (a, b) => bif Nat.blt b (lo + 2147483648).toNat || Nat.blt (hi + 2147483648).toNat a then (match sx_to cd ((en.2.2.2.1 : Int) + d) with
        | some t => some (some t, ls, r, T)
        | none => none) else none
      | none => none
  | _, _ => none
noncomputable def sy_arr (T : sy_H) (v : sy_V) : Option (Nat × sy_C) := match v with
  | .inl (.ref (k + 1)) => match sy_get T k with
    | some c => some (k, c)
    | none => none
  | _ => none
noncomputable def sy_i37 (q : Nat) : sy_I := fun _ _ ls st T => match st with
  | .inl (.ref 0) :: r => bif Nat.beq q 99 then none else some (none, ls, .inl (.int (Int32.ofNat q)) :: r, T)
  | v :: r => match sy_arr T v with
    | some (_, .inr (.inl a)) => some (none, ls, .inl (.int (Int32.ofNat a.2.1)) :: r, T)
    | some (_, .inr (.inr (.inl (.inr (.inr (.inr a)))))) => some (none, ls, .inl (.int (Int32.ofNat a.2.1)) :: r, T)
    | some (_, .inr (.inr (.inr a))) => some (none, ls, .inl (.int (Int32.ofNat a.2)) :: r, T)
    | _ => none
  | _ => none
/-- an index -/
noncomputable def sy_ix (E : sy_E) (i : sy_V) (n : Nat) : Option Nat := match sy_c E i with
  | some x => sx_ix x n
  | none => none
noncomputable def sy_ald1 (ls : sy_L) (r : List sy_V) (T : sy_H) (A : Nat) (o : Option Nat) : Option sy_O := match o with
  | some j => some (none, ls, .inl (.int (Int32.ofNat (sy_pg A j))) :: r, T)
  | none => none
noncomputable def sy_ald2 (ls : sy_L) (r : List sy_V) (T : sy_H) (o : Option Nat) : Option sy_O := match o with
  | some _ => some (none, ls, .inr 9 :: r, T)
  | none => none
noncomputable def sy_ald (E : sy_E) (i : sy_V) (ls : sy_L) (r : List sy_V) (T : sy_H) (o : Option (Nat × sy_C)) : Option sy_O := match o with
  | some (_, .inr (.inl (0, n, A))) => sy_ald1 ls r T A (sy_ix E i n)
  | some (_, .inr (.inr (.inr (0, n)))) => sy_ald2 ls r T (sy_ix E i n)
  | _ => none
noncomputable def sy_i38 (q : Nat) : sy_I := fun _ E ls st T => match st with
  | i :: .inl (.ref 0) :: r => bif Nat.beq q 99 then none else (match sy_ix E i q with
    | some j => some (none, ls, .inr j :: r, T)
    | none => none)
  | i :: v :: r => sy_ald E i ls r T (sy_arr T v)
  | _ => none
noncomputable def sy_i39 : sy_I := fun _ E ls st T => match st with
  | i :: v :: r => match sy_arr T v with
    | some (_, .inr (.inl (1, n, A))) => sy_ald1 ls r T A (sy_ix E i n)
    | some (_, .inr (.inl (2, n, A))) => sy_ald1 ls r T A (sy_ix E i n)
    | _ => none
  | _ => none
noncomputable def sy_i40 : sy_I := fun _ E ls st T => match st with
  | i :: v :: r => match sy_arr T v with
    | some (_, .inr (.inr (.inl (.inr (.inr (.inl (n, l))))))) => match sy_ix E i n with
      | some j => some (none, ls, .inl (.long (sx_ag 0 l j)) :: r, T)
      | none => none
    | _ => none
  | _ => none
noncomputable def sy_i41 : sy_I := fun _ E ls st T => match st with
  | i :: v :: r => match sy_arr T v with
    | some (_, .inr (.inr (.inl (.inr (.inr (.inr (_, n, l))))))) => match sy_ix E i n with
      | some j => some (none, ls, .inl (va_rf (sx_ag none l j)) :: r, T)
      | none => none
    | _ => none
  | _ => none
def sy_ast (ls : sy_L) (r : List sy_V) (T : sy_H) (k t n A j : Nat) (x : Int32) : Option sy_O := some (none, ls, r, sy_set T k (.inr (.inl (t, n, sy_ps A j x.toBitVec.toNat))))
noncomputable def sy_i42 : sy_I := fun _ E ls st T => match st with
  | x :: i :: v :: r => match sy_arr T v with
    | some (k, .inr (.inl (0, n, A))) => match sy_ix E i n with
      | some j => match sy_c E x with
        | some x1 => sy_ast ls r T k 0 n A j x1
        | none => bif sy_isI x then some (none, ls, r, sy_set T k (.inr (.inr (.inr (0, n))))) else none
      | none => none
    | some (_, .inr (.inr (.inr (0, n)))) => match sy_ix E i n with
      | some _ => bif sy_isI x then some (none, ls, r, T) else none
      | none => none
    | _ => none
  | _ => none
noncomputable def sy_i43 : sy_I := fun _ E ls st T => match st with
  | x :: i :: v :: r => match sy_arr T v with
    | some (k, .inr (.inl (1, n, A))) => match sy_ix E i n with
      | some j => match sy_c E x with
        | some x1 => sy_ast ls r T k 1 n A j (vp_nar .boolean x1)
        | none => none
      | none => none
    | some (k, .inr (.inl (2, n, A))) => match sy_ix E i n with
      | some j => match sy_c E x with
        | some x1 => sy_ast ls r T k 2 n A j (vp_nar .byte x1)
        | none => bif sy_isI x then some (none, ls, r, sy_set T k (.inr (.inr (.inr (2, n))))) else none
      | none => none
    | some (_, .inr (.inr (.inr (2, n)))) => match sy_ix E i n with
      | some _ => bif sy_isI x then some (none, ls, r, T) else none
      | none => none
    | _ => none
  | _ => none
noncomputable def sy_i44 : sy_I := fun _ E ls st T => match st with
  | .inl (.long x) :: i :: v :: r => match sy_arr T v with
    | some (k, .inr (.inr (.inl (.inr (.inr (.inl (n, l))))))) => match sy_ix E i n with
      | some j => some (none, ls, r, sy_set T k (.inr (.inr (.inl (.inr (.inr (.inl (n, sx_as 0 l j x))))))))
      | none => none
    | _ => none
  | _ => none
noncomputable def sy_i45 : sy_I := fun _ E ls st T => match st with
  | .inl (.ref (q + 1)) :: i :: v :: r => match sy_arr T v, sy_get T q with
    | some (k, .inr (.inr (.inl (.inr (.inr (.inr (ci, n, l))))))), some (.inl o) => bif Nat.beq o.1 ci then (match sy_ix E i n with
      | some j => some (none, ls, r, sy_set T k (.inr (.inr (.inl (.inr (.inr (.inr (ci, n, sx_as none l j (some (q + 1))))))))))
      | none => none) else none
    | _, _ => none
  | _ => none
noncomputable def sy_i46 : sy_I := fun en _ ls st T => match st with
  | v :: r => match sy_arr T v with
    | some (_, .inl (ci, fs)) => bif Nat.beq ci en.2.1 then (match sy_fd fs en.2.2.1 with
      | some w => some (none, ls, .inl w :: r, T)
      | none => none) else none
    | _ => none
  | _ => none
noncomputable def sy_i47 : sy_I := fun en E ls st T => match st with
  | w :: v :: r => match sy_arr T v, sy_val E w with
    | some (k, .inl (ci, fs)), some w1 => bif Nat.beq ci en.2.1 && sx_pv (en.2.2.1 / 1000) w1 then (match sy_fd fs (en.2.2.1 % 1000) with
      | some _ => some (none, ls, r, sy_set T k (.inl (ci, sy_fs fs (en.2.2.1 % 1000) w1)))
      | none => none) else none
    | _, _ => none
  | _ => none
noncomputable def sy_i48 (lim : Nat × Nat) (D : Nat → Nat × List (List Value)) : sy_I := fun en _ ls st T => sy_new lim ls st T (D en.2.1).1 (.inl (en.2.1, (D en.2.1).2))
noncomputable def sy_nar (lim : Nat × Nat) (t : Nat) : sy_I := fun _ E ls st T => match st with
  | x :: r => match sy_ix E x 134217729 with
    | some n => sy_new lim ls r T n (.inr (.inl (t, n, 0)))
    | none => none
  | _ => none
noncomputable def sy_i52 (lim : Nat × Nat) : sy_I := fun _ E ls st T => match st with
  | x :: r => match sy_ix E x 67108865 with
    | some n => sy_new lim ls r T n (.inr (.inr (.inl (.inr (.inr (.inl (n, [])))))))
    | none => none
  | _ => none
noncomputable def sy_i53 (lim : Nat × Nat) : sy_I := fun en E ls st T => match st with
  | x :: r => match sy_ix E x 134217729 with
    | some n => sy_new lim ls r T n (.inr (.inr (.inl (.inr (.inr (.inr (en.2.1, n, [])))))))
    | none => none
  | _ => none
def sy_i54 : sy_I := fun _ _ ls st T => match st with
  | .inl (.ref _) :: r => bif Nat.ble (r.map sy_cat).sum 8 then some (none, ls, r, T) else none
  | _ => none
noncomputable def sy_i55 : sy_I := fun _ E ls st T => match st with
  | n :: dp :: w :: sp :: v :: r => match sy_arr T v, sy_arr T w with
    | some (_, .inr (.inl (0, n0, f))), some (k, .inr (.inl (0, n1, g))) => match sy_ix E sp 134217729, sy_ix E dp 134217729, sy_ix E n 134217729 with
      | some s1, some d1, some m1 => bif Nat.ble (s1 + m1) n0 && Nat.ble (d1 + m1) n1 && Nat.ble (r.map sy_cat).sum 8 then some (none, ls, r, sy_set T k (.inr (.inl (0, n1, sy_pc f g s1 d1 m1)))) else none
      | _, _, _ => none
    | _, _ => none
  | _ => none
def sy_no : sy_I := fun _ _ _ _ _ => none
noncomputable def sy_g0 (lim : Nat × Nat) (D : Nat → Nat × List (List Value)) (q : Nat) (o : Nat) : sy_I := (bif Nat.blt o 4 then (bif Nat.blt o 2 then (bif Nat.blt o 1 then sy_i0 else sy_i1) else (bif Nat.blt o 3 then sy_i2 else sy_i3)) else (bif Nat.blt o 6 then (bif Nat.blt o 5 then sy_i4 else sy_i5) else (bif Nat.blt o 7 then sy_i6 else sy_i7)))
noncomputable def sy_g1 (lim : Nat × Nat) (D : Nat → Nat × List (List Value)) (q : Nat) (o : Nat) : sy_I := (bif Nat.blt o 12 then (bif Nat.blt o 10 then (bif Nat.blt o 9 then sy_i8 else sy_bin (fun x y => x + y)) else (bif Nat.blt o 11 then sy_bin (fun x y => x - y) else sy_bin (fun x y => x * y))) else (bif Nat.blt o 14 then (bif Nat.blt o 13 then sy_and else sy_bin (fun x y => x ||| y)) else (bif Nat.blt o 15 then sy_bin (fun x y => x ^^^ y) else sy_bin (fun x y => x <<< (y &&& 31)))))
noncomputable def sy_g2 (lim : Nat × Nat) (D : Nat → Nat × List (List Value)) (q : Nat) (o : Nat) : sy_I := (bif Nat.blt o 20 then (bif Nat.blt o 18 then (bif Nat.blt o 17 then sy_bin (fun x y => x >>> (y &&& 31)) else sy_bin (fun x y => (x.toUInt32 >>> (y.toUInt32 &&& Int32.toUInt32 31)).toInt32)) else (bif Nat.blt o 19 then sy_div (fun x y => x / y) else sy_div (fun x y => x - x / y * y))) else (bif Nat.blt o 22 then (bif Nat.blt o 21 then sy_i20 else sy_i21) else (bif Nat.blt o 23 then sy_i22 else sy_if1 0)))
noncomputable def sy_g3 (lim : Nat × Nat) (D : Nat → Nat × List (List Value)) (q : Nat) (o : Nat) : sy_I := (bif Nat.blt o 28 then (bif Nat.blt o 26 then (bif Nat.blt o 25 then sy_if1 1 else sy_if1 2) else (bif Nat.blt o 27 then sy_if1 3 else sy_if1 4)) else (bif Nat.blt o 30 then (bif Nat.blt o 29 then sy_if1 5 else sy_if2 0) else (bif Nat.blt o 31 then sy_if2 1 else sy_if2 2)))
noncomputable def sy_g4 (lim : Nat × Nat) (D : Nat → Nat × List (List Value)) (q : Nat) (o : Nat) : sy_I := (bif Nat.blt o 36 then (bif Nat.blt o 34 then (bif Nat.blt o 33 then sy_if2 3 else sy_if2 4) else (bif Nat.blt o 35 then sy_if2 5 else sy_i35)) else (bif Nat.blt o 38 then (bif Nat.blt o 37 then sy_no else sy_i37 q) else (bif Nat.blt o 39 then sy_i38 q else sy_i39)))
noncomputable def sy_g5 (lim : Nat × Nat) (D : Nat → Nat × List (List Value)) (q : Nat) (o : Nat) : sy_I := (bif Nat.blt o 44 then (bif Nat.blt o 42 then (bif Nat.blt o 41 then sy_i40 else sy_i41) else (bif Nat.blt o 43 then sy_i42 else sy_i43)) else (bif Nat.blt o 46 then (bif Nat.blt o 45 then sy_i44 else sy_i45) else (bif Nat.blt o 47 then sy_i46 else sy_i47)))
noncomputable def sy_g6 (lim : Nat × Nat) (D : Nat → Nat × List (List Value)) (q : Nat) (o : Nat) : sy_I := (bif Nat.blt o 52 then (bif Nat.blt o 50 then (bif Nat.blt o 49 then sy_i48 lim D else sy_nar lim 0) else (bif Nat.blt o 51 then sy_nar lim 1 else sy_nar lim 2)) else (bif Nat.blt o 54 then (bif Nat.blt o 53 then sy_i52 lim else sy_i53 lim) else (bif Nat.blt o 55 then sy_i54 else sy_i55)))
noncomputable def sy_step (lim : Nat × Nat) (D : Nat → Nat × List (List Value)) (q : Nat) (o : Nat) : sy_I := (bif Nat.blt o 32 then (bif Nat.blt o 16 then (bif Nat.blt o 8 then sy_g0 lim D q o else sy_g1 lim D q o) else (bif Nat.blt o 24 then sy_g2 lim D q o else sy_g3 lim D q o)) else (bif Nat.blt o 48 then (bif Nat.blt o 40 then sy_g4 lim D q o else sy_g5 lim D q o) else (bif Nat.blt o 56 then sy_g6 lim D q o else sy_no)))
/-- what a method answers, or the cell of what it throws -/
abbrev sy_R : Type := Option sy_V ⊕ Nat
abbrev sy_Lf : Type := sy_E × sy_R × sy_H
/-- a method's number; its packed code: its number (16 bits), what it answers (8), its class (16), then 72 bits an instruction: its number and 1 (8), its two numbers (32 each) -/
abbrev sy_F : Type := Nat → Nat → Nat → sy_E → sy_L → List sy_V → sy_H → Option (List sy_Lf)
noncomputable def sy_args (n : Nat) : List sy_V → List sy_V → Option (List sy_V × List sy_V) := Nat.rec (fun st a => some (a, st)) (fun _ ih st a => List.casesOn st none (fun v r => ih r (v :: a))) n
noncomputable def sy_locs (l : List sy_V) : Nat → sy_L := List.rec (fun _ => []) (fun v _ ih i => (i, v) :: ih (i + 1)) l
def sy_r0 (rk : Nat) (st : List sy_V) : Option (Option sy_V) := match st with
  | [] => bif Nat.beq rk 0 then some none else none
  | _ => none
noncomputable def sy_r1 (E : sy_E) (rk : Nat) (st : List sy_V) : Option (Option sy_V) := match st with
  | [x] => bif Nat.beq rk 1 then (bif sy_isI x then some (some x) else none) else match sy_c E x with
    | some x1 => bif Nat.beq rk 2 && (decide (x1 = 0) || decide (x1 = 1)) then some (some (.inl (.int x1))) else none
    | none => none
  | _ => none
def sy_r2 (rk : Nat) (st : List sy_V) : Option (Option sy_V) := match st with
  | [.inl (.ref x)] => bif Nat.beq rk 3 then some (some (.inl (.ref x))) else none
  | _ => none
noncomputable def sy_recv (o ci : Nat) (T : sy_H) (as : List sy_V) : Bool := bif Nat.beq o 58 then true else match as with
  | v :: _ => match sy_arr T v with
    | some (_, .inl o) => Nat.beq o.1 ci
    | _ => false
  | [] => false
noncomputable def sy_two (a b : Option (List sy_Lf)) : Option (List sy_Lf) := match a, b with
  | some x, some y => some (x ++ y)
  | _, _ => none
noncomputable def sy_seq (f : sy_Lf → Option (List sy_Lf)) (L : List sy_Lf) : Option (List sy_Lf) := List.rec (some []) (fun a t ih => match t with
  | [] => f a
  | _ :: _ => sy_two (f a) ih) L
noncomputable def sy_plain (lim : Nat × Nat) (D : Nat → Nat × List (List Value)) (q : Nat) (go : sy_F) (j K i : Nat) (en : sx_N) (E : sy_E) (ls : sy_L) (st : List sy_V) (T : sy_H) : Option (List sy_Lf) := match sy_step lim D q en.1 en E ls st T with
  | none => none
  | some (t, ls1, st1, T1) => go j K (t.getD (i + 1)) E ls1 st1 T1
/-- a switch: the code itself is looked up -/
noncomputable def sy_swi (P : Nat → Option sx_Mt) (go : sy_F) (j K i : Nat) (E : sy_E) (ls : sy_L) (st : List sy_V) (T : sy_H) : Option (List sy_Lf) := match P j with
  | none => none
  | some M => match sx_at M.2.2.2.2 i with
    | none => none
    | some en => match sy_i36 M.2.2.2.2 en E ls st T with
      | none => none
      | some (t, ls1, st1, T1) => go j K (t.getD (i + 1)) E ls1 st1 T1
noncomputable def sy_thrown (P : Nat → Option sx_Mt) (go : sy_F) (j K i : Nat) (E : sy_E) (ls : sy_L) (x : Nat) (T1 : sy_H) : Option (List sy_Lf) := match P j with
  | none => none
  | some M => match M.2.2.2.1 with
    | [] => some [(E, .inr x, T1)]
    | _ :: _ => match sx_at M.2.2.2.2 i with
      | none => none
      | some en => match sy_get T1 x with
        | some (.inl o) => match sx_hand M.2.2.2.1 en.2.2.2.1 o.1 with
          | some t => go j K t E ls [.inl (.ref (x + 1))] T1
          | none => none
        | _ => none
noncomputable def sy_aft (P : Nat → Option sx_Mt) (go : sy_F) (j K i : Nat) (ls : sy_L) (rest : List sy_V) (a : sy_Lf) : Option (List sy_Lf) := match a.2.1 with
  | .inl v => go j K (i + 1) a.1 ls (v.toList ++ rest) a.2.2
  | .inr x => sy_thrown P go j K i a.1 ls x a.2.2
noncomputable def sy_call (lim : Nat × Nat) (P : Nat → Option sx_Mt) (Kc : Nat → Nat) (go : sy_F) (j K i : Nat) (en : sx_N) (E : sy_E) (ls : sy_L) (st : List sy_V) (T : sy_H) : Option (List sy_Lf) := match sy_args en.2.2.1 st [], Kc en.2.1 with
  | some (as, rest), K1 => bif Nat.ble (rest.map sy_cat).sum 8 && as.all (fun v => Nat.beq (sy_cat v) 1) && sy_recv en.1 (Nat.mod (Nat.div K1 16777216) 65536) T as && (Nat.ble T.1 lim.1 && Nat.ble T.2.1 lim.2) then (match go en.2.1 K1 0 E (sy_locs as 0) [] T with
    | some L => sy_seq (sy_aft P go j K i ls rest) L
    | none => none) else none
  | _, _ => none
def sy_ends (E : sy_E) (T : sy_H) (v : Option (Option sy_V)) : Option (List sy_Lf) := match v with
  | some w => some [(E, .inl w, T)]
  | none => none
noncomputable def sy_special (lim : Nat × Nat) (P : Nat → Option sx_Mt) (Kc : Nat → Nat) (go : sy_F) (j K i : Nat) (en : sx_N) (E : sy_E) (ls : sy_L) (st : List sy_V) (T : sy_H) : Option (List sy_Lf) :=
  bif Nat.blt en.1 59 then sy_call lim P Kc go j K i en E ls st T else
  bif Nat.blt en.1 61 then (bif Nat.beq en.1 59 then sy_ends E T (sy_r0 (Nat.mod (Nat.div K 65536) 256) st) else sy_ends E T (sy_r1 E (Nat.mod (Nat.div K 65536) 256) st)) else
  bif Nat.beq en.1 61 then sy_ends E T (sy_r2 (Nat.mod (Nat.div K 65536) 256) st) else
  bif Nat.beq en.1 62 then (bif Nat.blt T.1 lim.1 && Nat.ble (T.2.1 + 6) lim.2 && Nat.ble (st.map sy_cat).sum 8 && Nat.ble (T.1 + 1) 2048 then some [(E, .inr T.1, sy_push T 6 (.inl (en.2.1, [])))] else none) else none
/-- where to cut an interval -/
noncomputable def sy_pin (E : sy_E) (v : sy_V) : Option (Nat × Nat) := match v with
  | .inr k => bif Nat.blt k 7 && Nat.blt (sy_of E k).1 (sy_of E k).2 && Nat.ble ((sy_of E k).2 - (sy_of E k).1) 63 then some (k, (sy_of E k).1 + 1) else none
  | _ => none
def sy_cut (r a c : Nat) : Nat := bif Nat.blt r 2 then (bif Nat.blt a c then c else c + 1) else bif Nat.blt r 4 then c else c + 1
def sy_mir (r : Nat) : Nat := bif Nat.blt r 2 then r else bif Nat.blt r 4 then r + 2 else r - 2
noncomputable def sy_w1 (r : Nat) (E : sy_E) (v : sy_V) (c : Nat) : Option (Nat × Nat) := match v with
  | .inr k => bif Nat.blt k 7 then (match sy_dec r (sy_of E k).1 (sy_of E k).2 c c with
    | some _ => none
    | none => some (k, sy_cut r (sy_of E k).1 c)) else none
  | _ => none
noncomputable def sy_wsw (E : sy_E) (k a b : Nat) : Option (Nat × Nat) := bif Nat.blt (sy_of E k).1 a && Nat.ble a (sy_of E k).2 then some (k, a) else
  bif Nat.blt (sy_of E k).1 b && Nat.ble b (sy_of E k).2 then some (k, b) else
  bif Nat.ble a (sy_of E k).1 && Nat.blt (sy_of E k).2 b && Nat.blt (sy_of E k).1 (sy_of E k).2 then some (k, (sy_of E k).1 + 1) else none
noncomputable def sy_w9 (E : sy_E) (st : List sy_V) : Option (Nat × Nat) := match st with
  | .inr 0 :: _ => none
  | .inr k :: _ => sy_pin E (.inr k)
  | _ :: .inr (k + 1) :: _ => sy_pin E (.inr (k + 1))
  | _ => none
noncomputable def sy_w23 (r : Nat) (E : sy_E) (st : List sy_V) : Option (Nat × Nat) := match st with
  | .inr k :: _ => sy_w1 r E (.inr k) 2147483648
  | _ => none
noncomputable def sy_w30 (r : Nat) (E : sy_E) (y : sy_V) (k : Nat) : Option (Nat × Nat) := match sy_c E y with
  | some y1 => sy_w1 r E (.inr k) (sy_b y1)
  | none => (match sy_c E (.inr k) with
    | some x1 => sy_w1 (sy_mir r) E y (sy_b x1)
    | none => none)
noncomputable def sy_w29 (r : Nat) (E : sy_E) (st : List sy_V) : Option (Nat × Nat) := match st with
  | y :: .inr k :: _ => sy_w30 r E y k
  | .inr k :: .inl (.int x1) :: _ => sy_w1 (sy_mir r) E (.inr k) (sy_b x1)
  | _ => none
noncomputable def sy_wt (E : sy_E) (st : List sy_V) : Option (Nat × Nat) := match st with
  | v :: _ => sy_pin E v
  | _ => none
noncomputable def sy_ws (E : sy_E) (st : List sy_V) : Option (Nat × Nat) := match st with
  | _ :: v :: _ => sy_pin E v
  | _ => none
noncomputable def sy_wb (o : Nat) (E : sy_E) (st : List sy_V) : Option (Nat × Nat) :=
  bif Nat.ble 29 o then (bif Nat.ble 35 o then none else sy_w29 (Nat.sub o 29) E st) else bif Nat.ble 23 o then sy_w23 (Nat.sub o 23) E st else bif Nat.ble 20 o then none else sy_w9 E st
noncomputable def sy_wc (o : Nat) (E : sy_E) (st : List sy_V) : Option (Nat × Nat) :=
  bif Nat.ble 46 o then (bif Nat.beq o 46 then none else bif Nat.ble 54 o then none else sy_wt E st) else bif Nat.ble 42 o then sy_ws E st else bif Nat.ble 38 o then sy_wt E st else none
noncomputable def sy_want (o : Nat) (E : sy_E) (st : List sy_V) : Option (Nat × Nat) :=
  bif Nat.ble o 8 then none else bif Nat.ble 37 o then sy_wc o E st else sy_wb o E st
noncomputable def sy_want36 (P : Nat → Option sx_Mt) (j i : Nat) (E : sy_E) (st : List sy_V) : Option (Nat × Nat) := match st with
  | .inr k :: _ => (match P j with
    | none => none
    | some M => (match sx_at M.2.2.2.2 i with
      | none => none
      | some en => (match en.2.2.2.2.2 with
        | .tableswitch _ lo hi _ => bif Nat.blt k 7 then sy_wsw E k (lo + 2147483648).toNat (hi + 2147483649).toNat else none
        | _ => none)))
  | _ => none
noncomputable def sy_cuts (go : sy_F) (j K i : Nat) (E : sy_E) (ls : sy_L) (st : List sy_V) (T : sy_H) (k c : Nat) : Option (List sy_Lf) := sy_two (go j K i (sx_lset (0, 4294967295) ((sy_of E k).1, c - 1) E k) ls st T) (go j K i (sx_lset (0, 4294967295) (c, (sy_of E k).2) E k) ls st T)
/-- the instruction, out of its 72 bits -/
def sy_en (x : Nat) : sx_N := (Nat.sub (Nat.mod x 256) 1, Nat.mod (Nat.div x 256) 4294967296, Nat.mod (Nat.div x 1099511627776) 4294967296, 0, 0, .nop)
noncomputable def sy_b36 (P : Nat → Option sx_Mt) (go : sy_F) (j K i : Nat) (E : sy_E) (ls : sy_L) (st : List sy_V) (T : sy_H) (w : Option (Nat × Nat)) : Option (List sy_Lf) := match w with
  | some (k, c) => sy_cuts go j K i E ls st T k c
  | none => sy_swi P go j K i E ls st T
noncomputable def sy_bn (lim : Nat × Nat) (P : Nat → Option sx_Mt) (Kc : Nat → Nat) (D : Nat → Nat × List (List Value)) (q : Nat) (go : sy_F) (j K i : Nat) (E : sy_E) (ls : sy_L) (st : List sy_V) (T : sy_H) (en : sx_N) : Option (List sy_Lf) := bif Nat.ble 56 en.1 then sy_special lim P Kc go j K i en E ls st T else sy_plain lim D q go j K i en E ls st T
noncomputable def sy_bw (lim : Nat × Nat) (P : Nat → Option sx_Mt) (Kc : Nat → Nat) (D : Nat → Nat × List (List Value)) (q : Nat) (go : sy_F) (j K i : Nat) (E : sy_E) (ls : sy_L) (st : List sy_V) (T : sy_H) (en : sx_N) (w : Option (Nat × Nat)) : Option (List sy_Lf) := match w with
  | some (k, c) => sy_cuts go j K i E ls st T k c
  | none => sy_bn lim P Kc D q go j K i E ls st T en
noncomputable def sy_body1 (lim : Nat × Nat) (P : Nat → Option sx_Mt) (Kc : Nat → Nat) (D : Nat → Nat × List (List Value)) (q : Nat) (go : sy_F) (j K i : Nat) (E : sy_E) (ls : sy_L) (st : List sy_V) (T : sy_H) (en : sx_N) : Option (List sy_Lf) :=
  bif Nat.beq en.1 36 then sy_b36 P go j K i E ls st T (sy_want36 P j i E st) else sy_bw lim P Kc D q go j K i E ls st T en (sy_want en.1 E st)
/-- the instruction's bits -/
def sy_x (K i : Nat) : Nat := Nat.mod (Nat.shiftRight K (Nat.add (Nat.mul 72 i) 40)) 4722366482869645213696
noncomputable def sy_body (lim : Nat × Nat) (P : Nat → Option sx_Mt) (Kc : Nat → Nat) (D : Nat → Nat × List (List Value)) (q : Nat) (go : sy_F) : sy_F := fun j K i E ls st T => bif Nat.beq (Nat.mod (sy_x K i) 256) 0 then none else sy_body1 lim P Kc D q go j K i E ls st T (sy_en (sy_x K i))
noncomputable def sy_exec (lim : Nat × Nat) (P : Nat → Option sx_Mt) (Kc : Nat → Nat) (D : Nat → Nat × List (List Value)) (q n : Nat) : sy_F := Nat.rec (fun _ _ _ _ _ _ _ => none) (fun _ go => sy_body lim P Kc D q go) n
theorem sy_exec_succ (lim : Nat × Nat) (P : Nat → Option sx_Mt) (Kc : Nat → Nat) (D : Nat → Nat × List (List Value)) (q n : Nat) : sy_exec lim P Kc D q (n + 1) = sy_body lim P Kc D q (sy_exec lim P Kc D q n) := rfl
