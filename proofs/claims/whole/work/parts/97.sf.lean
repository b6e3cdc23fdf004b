/-! ===== SF once more, what it makes written out at once: no thunk is left in what goes on ===== -/
noncomputable def sy_fn {β : Type} (n : Nat) (K : Nat → β) : β := Nat.rec (K 0) (fun m _ => K (Nat.succ m)) n
theorem sy_fn_eq {β : Type} (n : Nat) (K : Nat → β) : sy_fn n K = K n := by cases n <;> rfl
noncomputable def sy_fi {β : Type} (x : Int32) (K : Int32 → β) : β := sy_fn x.toBitVec.toNat (fun n => K (Int32.ofNat n))
theorem sy_fi_eq {β : Type} (x : Int32) (K : Int32 → β) : sy_fi x K = K x := by
  unfold sy_fi
  rw [sy_fn_eq, sy_ofNat_toNat]
noncomputable def sy_lgk {α β : Type} (d : α) (l : List α) : Nat → (α → β) → β := List.rec (fun _ K => K d) (fun a _ ih n K => Nat.casesOn n (K a) (fun m => ih m K)) l
theorem sy_lgk_eq {α β : Type} (d : α) : ∀ (l : List α) (n : Nat) (K : α → β), sy_lgk d l n K = K (sx_lg d l n)
  | [], _, _ => rfl
  | _ :: _, 0, _ => rfl
  | _ :: l, n + 1, K => sy_lgk_eq d l n K
noncomputable def sy_lsk {α β : Type} (d x : α) (l : List α) : Nat → (List α → β) → β := List.rec (fun n K => Nat.casesOn n (K [x]) (fun m => K (sx_lset d x [] (m + 1)))) (fun a t ih n K => Nat.casesOn n (K (x :: t)) (fun m => ih m (fun t' => K (a :: t')))) l
theorem sy_lsk_eq {α β : Type} (d x : α) : ∀ (l : List α) (n : Nat) (K : List α → β), sy_lsk d x l n K = K (sx_lset d x l n)
  | [], 0, _ => rfl
  | [], _ + 1, _ => rfl
  | _ :: _, 0, _ => rfl
  | a :: l, n + 1, K => sy_lsk_eq d x l n (fun t' => K (a :: t'))
noncomputable def sy_agk {α β : Type} (d : α) (l : List (List α)) (j : Nat) (K : α → β) : β := sy_lgk [] l (Nat.div j 32) (fun r => sy_lgk d r (Nat.mod j 32) K)
theorem sy_agk_eq {α β : Type} (d : α) (l : List (List α)) (j : Nat) (K : α → β) : sy_agk d l j K = K (sx_ag d l j) := by
  unfold sy_agk
  rw [sy_lgk_eq, sy_lgk_eq]
  rfl
noncomputable def sy_ask {α β : Type} (d : α) (l : List (List α)) (j : Nat) (x : α) (K : List (List α) → β) : β := sy_lgk [] l (Nat.div j 32) (fun r => sy_lsk d x r (Nat.mod j 32) (fun r' => sy_lsk [] r' l (Nat.div j 32) K))
theorem sy_ask_eq {α β : Type} (d : α) (l : List (List α)) (j : Nat) (x : α) (K : List (List α) → β) : sy_ask d l j x K = K (sx_as d l j x) := by
  unfold sy_ask
  rw [sy_lgk_eq, sy_lsk_eq, sy_lsk_eq]
  rfl
noncomputable def sy_fsk {β : Type} (f : List (List Value)) (b : Nat) (w : Value) (K : List (List Value) → β) : β := sy_lgk [] f (Nat.div b 8) (fun r => sy_lsk w w r (Nat.mod b 8) (fun r' => sy_lsk [] r' f (Nat.div b 8) K))
theorem sy_fsk_eq {β : Type} (f : List (List Value)) (b : Nat) (w : Value) (K : List (List Value) → β) : sy_fsk f b w K = K (sy_fs f b w) := by
  unfold sy_fsk
  rw [sy_lgk_eq, sy_lsk_eq, sy_lsk_eq]
  rfl
def sy_bk {α γ : Type} (m : Nat) (f : α → Nat → sy_C → (α → γ) → γ) (t : α × α) (k : Nat) (c : sy_C) (K : α × α → γ) : γ := match t with
  | (a, b) => bif Nat.ble m k then f b (Nat.sub k m) c (fun b' => K (a, b')) else f a k c (fun a' => K (a', b))
theorem sy_bk_eq {α γ : Type} {m : Nat} {f : α → Nat → sy_C → (α → γ) → γ} {s : α → Nat → sy_C → α} (h : ∀ t k c K, f t k c K = K (s t k c)) (t : α × α) (k : Nat) (c : sy_C) (K : α × α → γ) : sy_bk m f t k c K = K (sy_bs m s t k c) := by
  obtain ⟨a, b⟩ := t
  unfold sy_bk sy_bs
  simp only [h]
  cases Nat.ble m k <;> rfl
def sy_k_0 {γ : Type} (_ : sy_t0) (_ : Nat) (c : sy_C) (K : sy_t0 → γ) : γ := K (some c)
theorem sy_k_0_eq {γ : Type} (t : sy_t0) (k : Nat) (c : sy_C) (K : sy_t0 → γ) : sy_k_0 t k c K = K (sy_s_0 t k c) := rfl
def sy_k_1 {γ : Type} : sy_t1 → Nat → sy_C → (sy_t1 → γ) → γ := sy_bk 1 sy_k_0
theorem sy_k_1_eq {γ : Type} (t : sy_t1) (k : Nat) (c : sy_C) (K : sy_t1 → γ) : sy_k_1 t k c K = K (sy_s_1 t k c) := sy_bk_eq sy_k_0_eq t k c K
def sy_k_2 {γ : Type} : sy_t2 → Nat → sy_C → (sy_t2 → γ) → γ := sy_bk 2 sy_k_1
theorem sy_k_2_eq {γ : Type} (t : sy_t2) (k : Nat) (c : sy_C) (K : sy_t2 → γ) : sy_k_2 t k c K = K (sy_s_2 t k c) := sy_bk_eq sy_k_1_eq t k c K
def sy_k_3 {γ : Type} : sy_t3 → Nat → sy_C → (sy_t3 → γ) → γ := sy_bk 4 sy_k_2
theorem sy_k_3_eq {γ : Type} (t : sy_t3) (k : Nat) (c : sy_C) (K : sy_t3 → γ) : sy_k_3 t k c K = K (sy_s_3 t k c) := sy_bk_eq sy_k_2_eq t k c K
def sy_k_4 {γ : Type} : sy_t4 → Nat → sy_C → (sy_t4 → γ) → γ := sy_bk 8 sy_k_3
theorem sy_k_4_eq {γ : Type} (t : sy_t4) (k : Nat) (c : sy_C) (K : sy_t4 → γ) : sy_k_4 t k c K = K (sy_s_4 t k c) := sy_bk_eq sy_k_3_eq t k c K
def sy_k_5 {γ : Type} : sy_t5 → Nat → sy_C → (sy_t5 → γ) → γ := sy_bk 16 sy_k_4
theorem sy_k_5_eq {γ : Type} (t : sy_t5) (k : Nat) (c : sy_C) (K : sy_t5 → γ) : sy_k_5 t k c K = K (sy_s_5 t k c) := sy_bk_eq sy_k_4_eq t k c K
def sy_k_6 {γ : Type} : sy_t6 → Nat → sy_C → (sy_t6 → γ) → γ := sy_bk 32 sy_k_5
theorem sy_k_6_eq {γ : Type} (t : sy_t6) (k : Nat) (c : sy_C) (K : sy_t6 → γ) : sy_k_6 t k c K = K (sy_s_6 t k c) := sy_bk_eq sy_k_5_eq t k c K
def sy_k_7 {γ : Type} : sy_t7 → Nat → sy_C → (sy_t7 → γ) → γ := sy_bk 64 sy_k_6
theorem sy_k_7_eq {γ : Type} (t : sy_t7) (k : Nat) (c : sy_C) (K : sy_t7 → γ) : sy_k_7 t k c K = K (sy_s_7 t k c) := sy_bk_eq sy_k_6_eq t k c K
def sy_k_8 {γ : Type} : sy_t8 → Nat → sy_C → (sy_t8 → γ) → γ := sy_bk 128 sy_k_7
theorem sy_k_8_eq {γ : Type} (t : sy_t8) (k : Nat) (c : sy_C) (K : sy_t8 → γ) : sy_k_8 t k c K = K (sy_s_8 t k c) := sy_bk_eq sy_k_7_eq t k c K
def sy_k_9 {γ : Type} : sy_t9 → Nat → sy_C → (sy_t9 → γ) → γ := sy_bk 256 sy_k_8
theorem sy_k_9_eq {γ : Type} (t : sy_t9) (k : Nat) (c : sy_C) (K : sy_t9 → γ) : sy_k_9 t k c K = K (sy_s_9 t k c) := sy_bk_eq sy_k_8_eq t k c K
def sy_k_10 {γ : Type} : sy_t10 → Nat → sy_C → (sy_t10 → γ) → γ := sy_bk 512 sy_k_9
theorem sy_k_10_eq {γ : Type} (t : sy_t10) (k : Nat) (c : sy_C) (K : sy_t10 → γ) : sy_k_10 t k c K = K (sy_s_10 t k c) := sy_bk_eq sy_k_9_eq t k c K
def sy_k_11 {γ : Type} : sy_t11 → Nat → sy_C → (sy_t11 → γ) → γ := sy_bk 1024 sy_k_10
theorem sy_k_11_eq {γ : Type} (t : sy_t11) (k : Nat) (c : sy_C) (K : sy_t11 → γ) : sy_k_11 t k c K = K (sy_s_11 t k c) := sy_bk_eq sy_k_10_eq t k c K
def sy_putk {β : Type} (l : sy_K) (k : Nat) (c : sy_C) (K : sy_K → β) : β := sy_k_11 l k c K
theorem sy_putk_eq {β : Type} (l : sy_K) (k : Nat) (c : sy_C) (K : sy_K → β) : sy_putk l k c K = K (sy_put l k c) := sy_k_11_eq l k c K
def sy_setk {β : Type} (T : sy_H) (k : Nat) (c : sy_C) (K : sy_H → β) : β := match T with
  | (a, b, l) => sy_putk l k c (fun l' => K (a, b, l'))
theorem sy_setk_eq {β : Type} (T : sy_H) (k : Nat) (c : sy_C) (K : sy_H → β) : sy_setk T k c K = K (sy_set T k c) := by
  obtain ⟨a, b, l⟩ := T
  unfold sy_setk
  simp only [sy_putk_eq]
  rfl
noncomputable def sy_pushk {β : Type} (T : sy_H) (n : Nat) (c : sy_C) (K : sy_H → β) : β := match T with
  | (a, b, l) => sy_putk l a c (fun l' => sy_fn (Nat.succ a) (fun a' => sy_fn (Nat.add b n) (fun b' => K (a', b', l'))))
theorem sy_pushk_eq {β : Type} (T : sy_H) (n : Nat) (c : sy_C) (K : sy_H → β) : sy_pushk T n c K = K (sy_push T n c) := by
  obtain ⟨a, b, l⟩ := T
  unfold sy_pushk
  simp only [sy_putk_eq, sy_fn_eq]
  rfl
noncomputable def sy_stfk {β : Type} (ls : sy_L) (i : Nat) : (sy_L → β) → β := List.rec (fun K => K []) (fun p _ ih K => bif Nat.beq p.1 i || Nat.beq (sy_cat p.2) 2 then ih K else ih (fun t' => K (p :: t'))) ls
theorem sy_stfk_eq {β : Type} (i : Nat) : ∀ (ls : sy_L) (K : sy_L → β), sy_stfk ls i K = K (sy_stf ls i)
  | [], _ => rfl
  | p :: t, K => by
    have e : sy_stf (p :: t) i = bif Nat.beq p.1 i || Nat.beq (sy_cat p.2) 2 then sy_stf t i else p :: sy_stf t i := rfl
    have e1 : sy_stfk (p :: t) i K = bif Nat.beq p.1 i || Nat.beq (sy_cat p.2) 2 then sy_stfk t i K else sy_stfk t i (fun t' => K (p :: t')) := rfl
    rw [e, e1, sy_stfk_eq i t, sy_stfk_eq i t]
    cases (Nat.beq p.1 i || Nat.beq (sy_cat p.2) 2) <;> rfl
noncomputable def sy_stk {β : Type} (ls : sy_L) (i : Nat) (v : sy_V) (K : sy_L → β) : β := sy_stfk ls i (fun t => K ((i, v) :: t))
theorem sy_stk_eq {β : Type} (ls : sy_L) (i : Nat) (v : sy_V) (K : sy_L → β) : sy_stk ls i v K = K (sy_st ls i v) := by
  unfold sy_stk
  rw [sy_stfk_eq]
  rfl
noncomputable def sy_newk (lim : Nat × Nat) (ls : sy_L) (st : List sy_V) (T : sy_H) (n : Nat) (c : sy_C) : Option sy_O := bif Nat.blt T.1 lim.1 && Nat.ble (Nat.add T.2.1 n) lim.2 && Nat.ble (Nat.succ T.1) 2048 then sy_fn (Nat.succ T.1) (fun a => sy_pushk T n c (fun T' => some (none, ls, .inl (.ref a) :: st, T'))) else none
theorem sy_newk_eq (lim : Nat × Nat) (ls : sy_L) (st : List sy_V) (T : sy_H) (n : Nat) (c : sy_C) : sy_newk lim ls st T n c = sy_new lim ls st T n c := by
  unfold sy_newk sy_new
  simp only [sy_fn_eq, sy_pushk_eq]
  rfl
noncomputable def sy_j3 : sy_I := fun en _ ls st T => match st with
  | .inl (.int x) :: r => sy_stk ls en.2.1 (.inl (.int x)) (fun l => some (none, l, r, T))
  | .inr k :: r => sy_stk ls en.2.1 (.inr k) (fun l => some (none, l, r, T))
  | _ => none
theorem sy_j3_eq : sy_j3 = sy_i3 := by
  funext en E ls st T
  unfold sy_j3 sy_i3
  simp only [sy_stk_eq] <;> rfl
noncomputable def sy_j4 : sy_I := fun en _ ls st T => match st with
  | .inl (.ref x) :: r => sy_stk ls en.2.1 (.inl (.ref x)) (fun l => some (none, l, r, T))
  | _ => none
theorem sy_j4_eq : sy_j4 = sy_i4 := by
  funext en E ls st T
  unfold sy_j4 sy_i4
  simp only [sy_stk_eq] <;> rfl
noncomputable def sy_j5 : sy_I := fun en E ls st T => match sy_lk ls en.2.1 with
  | some v => match sy_c E v with
    | some x => sy_fi (x + Int32.ofNat en.2.2.1) (fun y => sy_stk ls en.2.1 (.inl (.int y)) (fun l => some (none, l, st, T)))
    | none => none
  | none => none
theorem sy_j5_eq : sy_j5 = sy_i5 := by
  funext en E ls st T
  unfold sy_j5 sy_i5
  simp only [sy_stk_eq, sy_fi_eq] <;> rfl
noncomputable def sy_jbin (f : Int32 → Int32 → Int32) : sy_I := fun _ E ls st T => match st with
  | y :: x :: r => match sy_c E x, sy_c E y with
    | some x1, some y1 => sy_fi (f x1 y1) (fun z => some (none, ls, .inl (.int z) :: r, T))
    | _, _ => bif sy_isI x && sy_isI y then some (none, ls, .inr 9 :: r, T) else none
  | _ => none
theorem sy_jbin_eq (f : Int32 → Int32 → Int32) : sy_jbin f = sy_bin f := by
  funext en E ls st T
  unfold sy_jbin sy_bin
  simp only [sy_fi_eq] <;> rfl
noncomputable def sy_jand : sy_I := fun en E ls st T => match st with
  | .inl (.int c) :: .inr 0 :: r => bif decide (c = 31) then some (none, ls, .inr 6 :: r, T) else none
  | _ => sy_jbin (fun x y => x &&& y) en E ls st T
theorem sy_jand_eq : sy_jand = sy_and := by
  funext en E ls st T
  unfold sy_jand sy_and
  simp only [sy_jbin_eq] <;> rfl
noncomputable def sy_jdiv (f : Int32 → Int32 → Int32) : sy_I := fun _ E ls st T => match st with
  | y :: x :: r => match sy_c E x, sy_c E y with
    | some x1, some y1 => if y1 = 0 then none else sy_fi (f x1 y1) (fun z => some (none, ls, .inl (.int z) :: r, T))
    | _, _ => none
  | _ => none
theorem sy_jdiv_eq (f : Int32 → Int32 → Int32) : sy_jdiv f = sy_div f := by
  funext en E ls st T
  unfold sy_jdiv sy_div
  simp only [sy_fi_eq] <;> rfl
noncomputable def sy_j21 : sy_I := fun _ E ls st T => match st with
  | x :: r => match sy_c E x with
    | some x1 => sy_fi x1.toInt8.toInt32 (fun z => some (none, ls, .inl (.int z) :: r, T))
    | none => bif sy_isI x then some (none, ls, .inr 9 :: r, T) else none
  | _ => none
theorem sy_j21_eq : sy_j21 = sy_i21 := by
  funext en E ls st T
  unfold sy_j21 sy_i21
  simp only [sy_fi_eq] <;> rfl
noncomputable def sy_jld1 (ls : sy_L) (r : List sy_V) (T : sy_H) (A : Nat) (o : Option Nat) : Option sy_O := match o with
  | some j => sy_fn (sy_pg A j) (fun x => some (none, ls, .inl (.int (Int32.ofNat x)) :: r, T))
  | none => none
theorem sy_jld1_eq (ls : sy_L) (r : List sy_V) (T : sy_H) (A : Nat) (o : Option Nat) : sy_jld1 ls r T A o = sy_ald1 ls r T A o := by
  unfold sy_jld1 sy_ald1
  simp only [sy_fn_eq] <;> rfl
noncomputable def sy_jld (E : sy_E) (i : sy_V) (ls : sy_L) (r : List sy_V) (T : sy_H) (o : Option (Nat × sy_C)) : Option sy_O := match o with
  | some (_, .inr (.inl (0, n, A))) => sy_jld1 ls r T A (sy_ix E i n)
  | some (_, .inr (.inr (.inr (0, n)))) => sy_ald2 ls r T (sy_ix E i n)
  | _ => none
theorem sy_jld_eq (E : sy_E) (i : sy_V) (ls : sy_L) (r : List sy_V) (T : sy_H) (o : Option (Nat × sy_C)) : sy_jld E i ls r T o = sy_ald E i ls r T o := by
  unfold sy_jld sy_ald
  simp only [sy_jld1_eq] <;> rfl
noncomputable def sy_j38 (q : Nat) : sy_I := fun _ E ls st T => match st with
  | i :: .inl (.ref 0) :: r => bif Nat.beq q 99 then none else (match sy_ix E i q with
    | some j => some (none, ls, .inr j :: r, T)
    | none => none)
  | i :: v :: r => sy_jld E i ls r T (sy_arr T v)
  | _ => none
theorem sy_j38_eq (q : Nat) : sy_j38 q = sy_i38 q := by
  funext en E ls st T
  unfold sy_j38 sy_i38
  simp only [sy_jld_eq] <;> rfl
noncomputable def sy_j39 : sy_I := fun _ E ls st T => match st with
  | i :: v :: r => match sy_arr T v with
    | some (_, .inr (.inl (1, n, A))) => sy_jld1 ls r T A (sy_ix E i n)
    | some (_, .inr (.inl (2, n, A))) => sy_jld1 ls r T A (sy_ix E i n)
    | _ => none
  | _ => none
theorem sy_j39_eq : sy_j39 = sy_i39 := by
  funext en E ls st T
  unfold sy_j39 sy_i39
  simp only [sy_jld1_eq] <;> rfl
noncomputable def sy_j41 : sy_I := fun _ E ls st T => match st with
  | i :: v :: r => match sy_arr T v with
    | some (_, .inr (.inr (.inl (.inr (.inr (.inr (_, n, l))))))) => match sy_ix E i n with
      | some j => sy_agk none l j (fun x => some (none, ls, .inl (va_rf x) :: r, T))
      | none => none
    | _ => none
  | _ => none
theorem sy_j41_eq : sy_j41 = sy_i41 := by
  funext en E ls st T
  unfold sy_j41 sy_i41
  simp only [sy_agk_eq] <;> rfl
noncomputable def sy_sto (ls : sy_L) (r : List sy_V) (T : sy_H) (k t n A j : Nat) (x : Int32) : Option sy_O := sy_fn (sy_ps A j x.toBitVec.toNat) (fun A' => sy_setk T k (.inr (.inl (t, n, A'))) (fun T' => some (none, ls, r, T')))
theorem sy_sto_eq (ls : sy_L) (r : List sy_V) (T : sy_H) (k t n A j : Nat) (x : Int32) : sy_sto ls r T k t n A j x = sy_ast ls r T k t n A j x := by
  unfold sy_sto sy_ast
  rw [sy_fn_eq, sy_setk_eq]
noncomputable def sy_j42 : sy_I := fun _ E ls st T => match st with
  | x :: i :: v :: r => match sy_arr T v with
    | some (k, .inr (.inl (0, n, A))) => match sy_ix E i n with
      | some j => match sy_c E x with
        | some x1 => sy_sto ls r T k 0 n A j x1
        | none => bif sy_isI x then sy_setk T k (.inr (.inr (.inr (0, n)))) (fun T' => some (none, ls, r, T')) else none
      | none => none
    | some (_, .inr (.inr (.inr (0, n)))) => match sy_ix E i n with
      | some _ => bif sy_isI x then some (none, ls, r, T) else none
      | none => none
    | _ => none
  | _ => none
theorem sy_j42_eq : sy_j42 = sy_i42 := by
  funext en E ls st T
  unfold sy_j42 sy_i42
  simp only [sy_sto_eq, sy_setk_eq] <;> rfl
noncomputable def sy_j43 : sy_I := fun _ E ls st T => match st with
  | x :: i :: v :: r => match sy_arr T v with
    | some (k, .inr (.inl (1, n, A))) => match sy_ix E i n with
      | some j => match sy_c E x with
        | some x1 => sy_sto ls r T k 1 n A j (vp_nar .boolean x1)
        | none => none
      | none => none
    | some (k, .inr (.inl (2, n, A))) => match sy_ix E i n with
      | some j => match sy_c E x with
        | some x1 => sy_sto ls r T k 2 n A j (vp_nar .byte x1)
        | none => bif sy_isI x then sy_setk T k (.inr (.inr (.inr (2, n)))) (fun T' => some (none, ls, r, T')) else none
      | none => none
    | some (_, .inr (.inr (.inr (2, n)))) => match sy_ix E i n with
      | some _ => bif sy_isI x then some (none, ls, r, T) else none
      | none => none
    | _ => none
  | _ => none
theorem sy_j43_eq : sy_j43 = sy_i43 := by
  funext en E ls st T
  unfold sy_j43 sy_i43
  simp only [sy_sto_eq, sy_setk_eq] <;> rfl
noncomputable def sy_j44 : sy_I := fun _ E ls st T => match st with
  | .inl (.long x) :: i :: v :: r => match sy_arr T v with
    | some (k, .inr (.inr (.inl (.inr (.inr (.inl (n, l))))))) => match sy_ix E i n with
      | some j => sy_ask 0 l j x (fun l' => sy_setk T k (.inr (.inr (.inl (.inr (.inr (.inl (n, l'))))))) (fun T' => some (none, ls, r, T')))
      | none => none
    | _ => none
  | _ => none
theorem sy_j44_eq : sy_j44 = sy_i44 := by
  funext en E ls st T
  unfold sy_j44 sy_i44
  simp only [sy_ask_eq, sy_setk_eq] <;> rfl
noncomputable def sy_j45 : sy_I := fun _ E ls st T => match st with
  | .inl (.ref (q + 1)) :: i :: v :: r => match sy_arr T v, sy_get T q with
    | some (k, .inr (.inr (.inl (.inr (.inr (.inr (ci, n, l))))))), some (.inl o) => bif Nat.beq o.1 ci then (match sy_ix E i n with
      | some j => sy_fn (Nat.succ q) (fun q1 => sy_ask none l j (some q1) (fun l' => sy_setk T k (.inr (.inr (.inl (.inr (.inr (.inr (ci, n, l'))))))) (fun T' => some (none, ls, r, T'))))
      | none => none) else none
    | _, _ => none
  | _ => none
theorem sy_j45_eq : sy_j45 = sy_i45 := by
  funext en E ls st T
  unfold sy_j45 sy_i45
  simp only [sy_fn_eq, sy_ask_eq, sy_setk_eq]
  rfl
noncomputable def sy_j47 : sy_I := fun en E ls st T => match st with
  | w :: v :: r => match sy_arr T v, sy_val E w with
    | some (k, .inl (ci, fs)), some w1 => bif Nat.beq ci en.2.1 && sx_pv (en.2.2.1 / 1000) w1 then (match sy_fd fs (en.2.2.1 % 1000) with
      | some _ => sy_fsk fs (en.2.2.1 % 1000) w1 (fun f' => sy_setk T k (.inl (ci, f')) (fun T' => some (none, ls, r, T')))
      | none => none) else none
    | _, _ => none
  | _ => none
theorem sy_j47_eq : sy_j47 = sy_i47 := by
  funext en E ls st T
  unfold sy_j47 sy_i47
  simp only [sy_fsk_eq, sy_setk_eq] <;> rfl
noncomputable def sy_j48 (lim : Nat × Nat) (D : Nat → Nat × List (List Value)) : sy_I := fun en _ ls st T => match D en.2.1 with
  | (n, f) => sy_newk lim ls st T n (.inl (en.2.1, f))
theorem sy_j48_eq (lim : Nat × Nat) (D : Nat → Nat × List (List Value)) : sy_j48 lim D = sy_i48 lim D := by
  funext en E ls st T
  unfold sy_j48 sy_i48
  simp only [sy_newk_eq] <;> rfl
noncomputable def sy_jnar (lim : Nat × Nat) (t : Nat) : sy_I := fun _ E ls st T => match st with
  | x :: r => match sy_ix E x 134217729 with
    | some n => sy_fn n (fun n => sy_newk lim ls r T n (.inr (.inl (t, n, 0))))
    | none => none
  | _ => none
theorem sy_jnar_eq (lim : Nat × Nat) (t : Nat) : sy_jnar lim t = sy_nar lim t := by
  funext en E ls st T
  unfold sy_jnar sy_nar
  simp only [sy_fn_eq, sy_newk_eq] <;> rfl
noncomputable def sy_j53 (lim : Nat × Nat) : sy_I := fun en E ls st T => match st with
  | x :: r => match sy_ix E x 134217729 with
    | some n => sy_fn n (fun n => sy_newk lim ls r T n (.inr (.inr (.inl (.inr (.inr (.inr (en.2.1, n, []))))))))
    | none => none
  | _ => none
theorem sy_j53_eq (lim : Nat × Nat) : sy_j53 lim = sy_i53 lim := by
  funext en E ls st T
  unfold sy_j53 sy_i53
  simp only [sy_fn_eq, sy_newk_eq] <;> rfl
noncomputable def sy_j55 : sy_I := fun _ E ls st T => match st with
  | n :: dp :: w :: sp :: v :: r => match sy_arr T v, sy_arr T w with
    | some (_, .inr (.inl (0, n0, f))), some (k, .inr (.inl (0, n1, g))) => match sy_ix E sp 134217729, sy_ix E dp 134217729, sy_ix E n 134217729 with
      | some s1, some d1, some m1 => bif Nat.ble (s1 + m1) n0 && Nat.ble (d1 + m1) n1 && Nat.ble (r.map sy_cat).sum 8 then sy_fn (sy_pc f g s1 d1 m1) (fun l => sy_setk T k (.inr (.inl (0, n1, l))) (fun T' => some (none, ls, r, T'))) else none
      | _, _, _ => none
    | _, _ => none
  | _ => none
theorem sy_j55_eq : sy_j55 = sy_i55 := by
  funext en E ls st T
  unfold sy_j55 sy_i55
  simp only [sy_fn_eq, sy_setk_eq] <;> rfl
noncomputable def sy_h_0 (lim : Nat × Nat) (D : Nat → Nat × List (List Value)) (q : Nat) (o : Nat) : sy_I := (bif Nat.blt o 4 then (bif Nat.blt o 2 then (bif Nat.blt o 1 then sy_i0 else sy_i1) else (bif Nat.blt o 3 then sy_i2 else sy_j3)) else (bif Nat.blt o 6 then (bif Nat.blt o 5 then sy_j4 else sy_j5) else (bif Nat.blt o 7 then sy_i6 else sy_i7)))
theorem sy_h_0_eq (lim : Nat × Nat) (D : Nat → Nat × List (List Value)) (q o : Nat) : sy_h_0 lim D q o = sy_g0 lim D q o := by
  unfold sy_h_0 sy_g0
  simp only [sy_j21_eq, sy_j38_eq, sy_j39_eq, sy_j3_eq, sy_j41_eq, sy_j42_eq, sy_j43_eq, sy_j44_eq, sy_j45_eq, sy_j47_eq, sy_j48_eq, sy_j4_eq, sy_j53_eq, sy_j55_eq, sy_j5_eq, sy_jand_eq, sy_jbin_eq, sy_jdiv_eq, sy_jnar_eq] <;> rfl
noncomputable def sy_h_1 (lim : Nat × Nat) (D : Nat → Nat × List (List Value)) (q : Nat) (o : Nat) : sy_I := (bif Nat.blt o 12 then (bif Nat.blt o 10 then (bif Nat.blt o 9 then sy_i8 else sy_jbin (fun x y => x + y)) else (bif Nat.blt o 11 then sy_jbin (fun x y => x - y) else sy_jbin (fun x y => x * y))) else (bif Nat.blt o 14 then (bif Nat.blt o 13 then sy_jand else sy_jbin (fun x y => x ||| y)) else (bif Nat.blt o 15 then sy_jbin (fun x y => x ^^^ y) else sy_jbin (fun x y => x <<< (y &&& 31)))))
theorem sy_h_1_eq (lim : Nat × Nat) (D : Nat → Nat × List (List Value)) (q o : Nat) : sy_h_1 lim D q o = sy_g1 lim D q o := by
  unfold sy_h_1 sy_g1
  simp only [sy_j21_eq, sy_j38_eq, sy_j39_eq, sy_j3_eq, sy_j41_eq, sy_j42_eq, sy_j43_eq, sy_j44_eq, sy_j45_eq, sy_j47_eq, sy_j48_eq, sy_j4_eq, sy_j53_eq, sy_j55_eq, sy_j5_eq, sy_jand_eq, sy_jbin_eq, sy_jdiv_eq, sy_jnar_eq] <;> rfl
noncomputable def sy_h_2 (lim : Nat × Nat) (D : Nat → Nat × List (List Value)) (q : Nat) (o : Nat) : sy_I := (bif Nat.blt o 20 then (bif Nat.blt o 18 then (bif Nat.blt o 17 then sy_jbin (fun x y => x >>> (y &&& 31)) else sy_jbin (fun x y => (x.toUInt32 >>> (y.toUInt32 &&& Int32.toUInt32 31)).toInt32)) else (bif Nat.blt o 19 then sy_jdiv (fun x y => x / y) else sy_jdiv (fun x y => x - x / y * y))) else (bif Nat.blt o 22 then (bif Nat.blt o 21 then sy_i20 else sy_j21) else (bif Nat.blt o 23 then sy_i22 else sy_if1 0)))
theorem sy_h_2_eq (lim : Nat × Nat) (D : Nat → Nat × List (List Value)) (q o : Nat) : sy_h_2 lim D q o = sy_g2 lim D q o := by
  unfold sy_h_2 sy_g2
  simp only [sy_j21_eq, sy_j38_eq, sy_j39_eq, sy_j3_eq, sy_j41_eq, sy_j42_eq, sy_j43_eq, sy_j44_eq, sy_j45_eq, sy_j47_eq, sy_j48_eq, sy_j4_eq, sy_j53_eq, sy_j55_eq, sy_j5_eq, sy_jand_eq, sy_jbin_eq, sy_jdiv_eq, sy_jnar_eq] <;> rfl
noncomputable def sy_h_3 (lim : Nat × Nat) (D : Nat → Nat × List (List Value)) (q : Nat) (o : Nat) : sy_I := (bif Nat.blt o 28 then (bif Nat.blt o 26 then (bif Nat.blt o 25 then sy_if1 1 else sy_if1 2) else (bif Nat.blt o 27 then sy_if1 3 else sy_if1 4)) else (bif Nat.blt o 30 then (bif Nat.blt o 29 then sy_if1 5 else sy_if2 0) else (bif Nat.blt o 31 then sy_if2 1 else sy_if2 2)))
theorem sy_h_3_eq (lim : Nat × Nat) (D : Nat → Nat × List (List Value)) (q o : Nat) : sy_h_3 lim D q o = sy_g3 lim D q o := by
  unfold sy_h_3 sy_g3
  simp only [sy_j21_eq, sy_j38_eq, sy_j39_eq, sy_j3_eq, sy_j41_eq, sy_j42_eq, sy_j43_eq, sy_j44_eq, sy_j45_eq, sy_j47_eq, sy_j48_eq, sy_j4_eq, sy_j53_eq, sy_j55_eq, sy_j5_eq, sy_jand_eq, sy_jbin_eq, sy_jdiv_eq, sy_jnar_eq] <;> rfl
noncomputable def sy_h_4 (lim : Nat × Nat) (D : Nat → Nat × List (List Value)) (q : Nat) (o : Nat) : sy_I := (bif Nat.blt o 36 then (bif Nat.blt o 34 then (bif Nat.blt o 33 then sy_if2 3 else sy_if2 4) else (bif Nat.blt o 35 then sy_if2 5 else sy_i35)) else (bif Nat.blt o 38 then (bif Nat.blt o 37 then sy_no else sy_i37 q) else (bif Nat.blt o 39 then sy_j38 q else sy_j39)))
theorem sy_h_4_eq (lim : Nat × Nat) (D : Nat → Nat × List (List Value)) (q o : Nat) : sy_h_4 lim D q o = sy_g4 lim D q o := by
  unfold sy_h_4 sy_g4
  simp only [sy_j21_eq, sy_j38_eq, sy_j39_eq, sy_j3_eq, sy_j41_eq, sy_j42_eq, sy_j43_eq, sy_j44_eq, sy_j45_eq, sy_j47_eq, sy_j48_eq, sy_j4_eq, sy_j53_eq, sy_j55_eq, sy_j5_eq, sy_jand_eq, sy_jbin_eq, sy_jdiv_eq, sy_jnar_eq] <;> rfl
noncomputable def sy_h_5 (lim : Nat × Nat) (D : Nat → Nat × List (List Value)) (q : Nat) (o : Nat) : sy_I := (bif Nat.blt o 44 then (bif Nat.blt o 42 then (bif Nat.blt o 41 then sy_i40 else sy_j41) else (bif Nat.blt o 43 then sy_j42 else sy_j43)) else (bif Nat.blt o 46 then (bif Nat.blt o 45 then sy_j44 else sy_j45) else (bif Nat.blt o 47 then sy_i46 else sy_j47)))
theorem sy_h_5_eq (lim : Nat × Nat) (D : Nat → Nat × List (List Value)) (q o : Nat) : sy_h_5 lim D q o = sy_g5 lim D q o := by
  unfold sy_h_5 sy_g5
  simp only [sy_j21_eq, sy_j38_eq, sy_j39_eq, sy_j3_eq, sy_j41_eq, sy_j42_eq, sy_j43_eq, sy_j44_eq, sy_j45_eq, sy_j47_eq, sy_j48_eq, sy_j4_eq, sy_j53_eq, sy_j55_eq, sy_j5_eq, sy_jand_eq, sy_jbin_eq, sy_jdiv_eq, sy_jnar_eq] <;> rfl
noncomputable def sy_h_6 (lim : Nat × Nat) (D : Nat → Nat × List (List Value)) (q : Nat) (o : Nat) : sy_I := (bif Nat.blt o 52 then (bif Nat.blt o 50 then (bif Nat.blt o 49 then sy_j48 lim D else sy_jnar lim 0) else (bif Nat.blt o 51 then sy_jnar lim 1 else sy_jnar lim 2)) else (bif Nat.blt o 54 then (bif Nat.blt o 53 then sy_i52 lim else sy_j53 lim) else (bif Nat.blt o 55 then sy_i54 else sy_j55)))
theorem sy_h_6_eq (lim : Nat × Nat) (D : Nat → Nat × List (List Value)) (q o : Nat) : sy_h_6 lim D q o = sy_g6 lim D q o := by
  unfold sy_h_6 sy_g6
  simp only [sy_j21_eq, sy_j38_eq, sy_j39_eq, sy_j3_eq, sy_j41_eq, sy_j42_eq, sy_j43_eq, sy_j44_eq, sy_j45_eq, sy_j47_eq, sy_j48_eq, sy_j4_eq, sy_j53_eq, sy_j55_eq, sy_j5_eq, sy_jand_eq, sy_jbin_eq, sy_jdiv_eq, sy_jnar_eq] <;> rfl
noncomputable def sy_stepk (lim : Nat × Nat) (D : Nat → Nat × List (List Value)) (q : Nat) (o : Nat) : sy_I := (bif Nat.blt o 32 then (bif Nat.blt o 16 then (bif Nat.blt o 8 then sy_h_0 lim D q o else sy_h_1 lim D q o) else (bif Nat.blt o 24 then sy_h_2 lim D q o else sy_h_3 lim D q o)) else (bif Nat.blt o 48 then (bif Nat.blt o 40 then sy_h_4 lim D q o else sy_h_5 lim D q o) else (bif Nat.blt o 56 then sy_h_6 lim D q o else sy_no)))
theorem sy_stepk_eq (lim : Nat × Nat) (D : Nat → Nat × List (List Value)) (q o : Nat) : sy_stepk lim D q o = sy_step lim D q o := by
  unfold sy_stepk sy_step
  simp only [sy_h_0_eq, sy_h_1_eq, sy_h_2_eq, sy_h_3_eq, sy_h_4_eq, sy_h_5_eq, sy_h_6_eq, sy_j21_eq, sy_j38_eq, sy_j39_eq, sy_j3_eq, sy_j41_eq, sy_j42_eq, sy_j43_eq, sy_j44_eq, sy_j45_eq, sy_j47_eq, sy_j48_eq, sy_j4_eq, sy_j53_eq, sy_j55_eq, sy_j5_eq, sy_jand_eq, sy_jbin_eq, sy_jdiv_eq, sy_jnar_eq] <;> rfl
noncomputable def sy_goto (go : sy_F) (j K i : Nat) (E : sy_E) (o : Option sy_O) : Option (List sy_Lf) := match o with
  | none => none
  | some (t, ls1, st1, T1) => sy_fn (t.getD (Nat.succ i)) (fun t => go j K t E ls1 st1 T1)
noncomputable def sy_plaink (lim : Nat × Nat) (D : Nat → Nat × List (List Value)) (q : Nat) (go : sy_F) (j K i : Nat) (en : sx_N) (E : sy_E) (ls : sy_L) (st : List sy_V) (T : sy_H) : Option (List sy_Lf) := sy_goto go j K i E (sy_stepk lim D q en.1 en E ls st T)
theorem sy_plaink_eq (lim : Nat × Nat) (D : Nat → Nat × List (List Value)) (q : Nat) (go : sy_F) (j K i : Nat) (en : sx_N) (E : sy_E) (ls : sy_L) (st : List sy_V) (T : sy_H) : sy_plaink lim D q go j K i en E ls st T = sy_plain lim D q go j K i en E ls st T := by
  unfold sy_plaink sy_plain sy_goto
  simp only [sy_stepk_eq, sy_fn_eq]
  rfl
noncomputable def sy_aftk (P : Nat → Option sx_Mt) (go : sy_F) (j K i : Nat) (ls : sy_L) (rest : List sy_V) (a : sy_Lf) : Option (List sy_Lf) := match a with
  | (E, .inl (some v), T) => sy_fn (Nat.succ i) (fun i => go j K i E ls (v :: rest) T)
  | (E, .inl none, T) => sy_fn (Nat.succ i) (fun i => go j K i E ls rest T)
  | (E, .inr x, T) => sy_thrown P go j K i E ls x T
theorem sy_aftk_eq (P : Nat → Option sx_Mt) (go : sy_F) (j K i : Nat) (ls : sy_L) (rest : List sy_V) (a : sy_Lf) : sy_aftk P go j K i ls rest a = sy_aft P go j K i ls rest a := by
  unfold sy_aftk sy_aft
  obtain ⟨E, v, T⟩ := a
  rcases v with (v | v) | x
  · simp only [sy_fn_eq]; rfl
  · simp only [sy_fn_eq]; rfl
  · rfl
noncomputable def sy_callk (lim : Nat × Nat) (P : Nat → Option sx_Mt) (Kc : Nat → Nat) (go : sy_F) (j K i : Nat) (en : sx_N) (E : sy_E) (ls : sy_L) (st : List sy_V) (T : sy_H) : Option (List sy_Lf) := match sy_args en.2.2.1 st [] with
  | some (as, rest) => sy_fn (Kc en.2.1) (fun K1 => bif Nat.ble (rest.map sy_cat).sum 8 && as.all (fun v => Nat.beq (sy_cat v) 1) && sy_recv en.1 (Nat.mod (Nat.div K1 16777216) 65536) T as && (Nat.ble T.1 lim.1 && Nat.ble T.2.1 lim.2) then (match go en.2.1 K1 0 E (sy_locs as 0) [] T with
    | some L => sy_seq (sy_aftk P go j K i ls rest) L
    | none => none) else none)
  | _ => none
theorem sy_callk_eq (lim : Nat × Nat) (P : Nat → Option sx_Mt) (Kc : Nat → Nat) (go : sy_F) (j K i : Nat) (en : sx_N) (E : sy_E) (ls : sy_L) (st : List sy_V) (T : sy_H) : sy_callk lim P Kc go j K i en E ls st T = sy_call lim P Kc go j K i en E ls st T := by
  unfold sy_callk sy_call
  have e : sy_aftk P go j K i ls = sy_aft P go j K i ls := by funext rest a; exact sy_aftk_eq P go j K i ls rest a
  cases has : sy_args en.2.2.1 st [] with
  | none => rfl
  | some asr =>
    obtain ⟨as, rest⟩ := asr
    simp only [sy_fn_eq, e] <;> rfl
noncomputable def sy_speck (lim : Nat × Nat) (P : Nat → Option sx_Mt) (Kc : Nat → Nat) (go : sy_F) (j K i : Nat) (en : sx_N) (E : sy_E) (ls : sy_L) (st : List sy_V) (T : sy_H) : Option (List sy_Lf) :=
  bif Nat.blt en.1 59 then sy_callk lim P Kc go j K i en E ls st T else sy_special lim P Kc go j K i en E ls st T
theorem sy_speck_eq (lim : Nat × Nat) (P : Nat → Option sx_Mt) (Kc : Nat → Nat) (go : sy_F) (j K i : Nat) (en : sx_N) (E : sy_E) (ls : sy_L) (st : List sy_V) (T : sy_H) : sy_speck lim P Kc go j K i en E ls st T = sy_special lim P Kc go j K i en E ls st T := by
  unfold sy_speck
  cases h : Nat.blt en.1 59 with
  | true =>
    rw [sy_callk_eq]
    unfold sy_special
    simp only [h, cond_true]
  | false => rfl
noncomputable def sy_bnk (lim : Nat × Nat) (P : Nat → Option sx_Mt) (Kc : Nat → Nat) (D : Nat → Nat × List (List Value)) (q : Nat) (go : sy_F) (j K i : Nat) (E : sy_E) (ls : sy_L) (st : List sy_V) (T : sy_H) (en : sx_N) : Option (List sy_Lf) := bif Nat.ble 56 en.1 then sy_speck lim P Kc go j K i en E ls st T else sy_plaink lim D q go j K i en E ls st T
noncomputable def sy_bwk (lim : Nat × Nat) (P : Nat → Option sx_Mt) (Kc : Nat → Nat) (D : Nat → Nat × List (List Value)) (q : Nat) (go : sy_F) (j K i : Nat) (E : sy_E) (ls : sy_L) (st : List sy_V) (T : sy_H) (en : sx_N) (w : Option (Nat × Nat)) : Option (List sy_Lf) := match w with
  | some (k, c) => sy_cuts go j K i E ls st T k c
  | none => sy_bnk lim P Kc D q go j K i E ls st T en
noncomputable def sy_body1k (lim : Nat × Nat) (P : Nat → Option sx_Mt) (Kc : Nat → Nat) (D : Nat → Nat × List (List Value)) (q : Nat) (go : sy_F) (j K i : Nat) (E : sy_E) (ls : sy_L) (st : List sy_V) (T : sy_H) (en : sx_N) : Option (List sy_Lf) :=
  bif Nat.beq en.1 36 then sy_b36 P go j K i E ls st T (sy_want36 P j i E st) else sy_bwk lim P Kc D q go j K i E ls st T en (sy_want en.1 E st)
theorem sy_body1k_eq (lim : Nat × Nat) (P : Nat → Option sx_Mt) (Kc : Nat → Nat) (D : Nat → Nat × List (List Value)) (q : Nat) (go : sy_F) (j K i : Nat) (E : sy_E) (ls : sy_L) (st : List sy_V) (T : sy_H) (en : sx_N) : sy_body1k lim P Kc D q go j K i E ls st T en = sy_body1 lim P Kc D q go j K i E ls st T en := by
  unfold sy_body1k sy_body1 sy_bwk sy_bw sy_bnk sy_bn
  simp only [sy_speck_eq, sy_plaink_eq] <;> rfl
noncomputable def sy_deck {β : Type} (x : Nat) (k : sx_N → β) : β := sy_fn (Nat.sub (Nat.mod x 256) 1) (fun o => sy_fn (Nat.mod (Nat.div x 256) 4294967296) (fun a => sy_fn (Nat.mod (Nat.div x 1099511627776) 4294967296) (fun b => k (o, a, b, 0, 0, .nop))))
noncomputable def sy_bodyk (lim : Nat × Nat) (P : Nat → Option sx_Mt) (Kc : Nat → Nat) (D : Nat → Nat × List (List Value)) (q : Nat) (go : sy_F) : sy_F := fun j K i E ls st T => bif Nat.beq (Nat.mod (sy_x K i) 256) 0 then none else sy_deck (sy_x K i) (sy_body1k lim P Kc D q go j K i E ls st T)
theorem sy_bodyk_eq (lim : Nat × Nat) (P : Nat → Option sx_Mt) (Kc : Nat → Nat) (D : Nat → Nat × List (List Value)) (q : Nat) (go : sy_F) : sy_bodyk lim P Kc D q go = sy_body lim P Kc D q go := by
  funext j K i E ls st T
  unfold sy_bodyk sy_body sy_deck
  simp only [sy_fn_eq, sy_body1k_eq]
  rfl
noncomputable def sy_execk (lim : Nat × Nat) (P : Nat → Option sx_Mt) (Kc : Nat → Nat) (D : Nat → Nat × List (List Value)) (q n : Nat) : sy_F := Nat.rec (fun _ _ _ _ _ _ _ => none) (fun _ go => sy_bodyk lim P Kc D q go) n
theorem sy_execk_eq (lim : Nat × Nat) (P : Nat → Option sx_Mt) (Kc : Nat → Nat) (D : Nat → Nat × List (List Value)) (q : Nat) : ∀ n, sy_execk lim P Kc D q n = sy_exec lim P Kc D q n
  | 0 => rfl
  | n + 1 => by
    have e : sy_execk lim P Kc D q (n + 1) = sy_bodyk lim P Kc D q (sy_execk lim P Kc D q n) := rfl
    rw [e, sy_bodyk_eq, sy_execk_eq lim P Kc D q n]
    rfl
