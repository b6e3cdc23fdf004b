/-! ===== SG, faster roads for what is frequent ===== -/
section
variable {S : List Int32} {ρ : Nat → Int32} {q : Nat} {Q : sx_R → Prop} {j i a b : Nat}
theorem sz_fast {slow fast : sz_Q} (h : sz_at S ρ q Q j i slow) (hf : ∀ E ls st T, fast E ls st T = true → slow E ls st T = true) : sz_at S ρ q Q j i fast := by
  intro E ls st T ls' st' h9 e
  exact h E ls st T ls' st' h9 (hf _ _ _ _ e)
noncomputable def sz_p0 (a b : Nat) (k : sz_Q) : sz_Q := fun E ls st T => k E ls (.inl (.int (Int32.ofNat a)) :: st) T
theorem sz_p0_ok {k : sz_Q} (hx : sz_is j i 0 a b = true) (hk : sz_at S ρ q Q j (i + 1) k) : sz_at S ρ q Q j i (sz_p0 a b k) := sz_fast (sz_o0_ok hx hk) (fun _ _ _ _ h => h)
noncomputable def sz_lk (a : Nat) (K : sy_V → Bool) (ls : sy_L) : Bool := List.rec false (fun p _ ih => bif Nat.beq p.1 a then K p.2 else ih) ls
theorem sz_lk_ok {a : Nat} {K : sy_V → Bool} : ∀ {ls : sy_L}, sz_lk a K ls = true → ∃ v, sy_lk ls a = some v ∧ K v = true
  | [], h => by cases h
  | p :: t, h => by
    have h : (bif Nat.beq p.1 a then K p.2 else sz_lk a K t) = true := h
    have e : sy_lk (p :: t) a = bif Nat.beq p.1 a then some p.2 else sy_lk t a := rfl
    rw [e]
    cases hb : Nat.beq p.1 a with
    | true => rw [hb] at h; exact ⟨p.2, rfl, h⟩
    | false => rw [hb] at h; exact sz_lk_ok h
/-- an int, or a number of a variable: its value, if it has one alone -/
noncomputable def sz_v0 (E : sy_E) (k : sy_V → Bool) (n : Nat) : Bool := match sy_c E (.inr n) with
  | some x => sy_fi x (fun y => k (.inl (.int y)))
  | none => k (.inr n)
noncomputable def sz_v1 (E : sy_E) (k : sy_V → Bool) (v : sy_V) : Bool := match v with
  | .inl (.int x) => k (.inl (.int x))
  | .inr n => sz_v0 E k n
  | _ => false
theorem sz_v1_ok {E : sy_E} (hE : sy_e ρ E) {k : sy_V → Bool} {v : sy_V} {w : Value} (h : sz_v1 E k v = true) (hv : sy_v ρ v w) : ∃ u x, k u = true ∧ w = .int x ∧ sy_v ρ u w := by
  unfold sz_v1 at h
  split at h
  · next x => exact ⟨_, x, h, hv, hv⟩
  · next n =>
    unfold sz_v0 at h
    split at h
    · next x hx =>
      rw [sy_fi_eq] at h
      have e := sy_c_ok hE hx hv
      exact ⟨_, x, h, e, e⟩
    · obtain ⟨x, hx⟩ := sy_isI_ok (a := .inr n) rfl hv
      exact ⟨_, x, h, hx, hv⟩
  · cases h
noncomputable def sz_p1 (a b : Nat) (k : sz_Q) : sz_Q := fun E ls st T => sz_lk a (sz_v1 E (fun v => k E ls (v :: st) T)) ls
theorem sz_p1_ok {k : sz_Q} (hx : sz_is j i 1 a b = true) (hk : sz_at S ρ q Q j (i + 1) k) : sz_at S ρ q Q j i (sz_p1 a b k) := by
  intro E ls st T ls' st' h e hc hE hl hs H
  obtain ⟨v, h1, h2⟩ := sz_lk_ok e
  obtain ⟨w, hw1, hw2⟩ := sy_lk_ok hl h1
  obtain ⟨u, x, hu, rfl, hv⟩ := sz_v1_ok hE h2 hw2
  obtain ⟨M, pc, ln, ins, hP, ha⟩ := sz_is_ok hx
  obtain ⟨m, r, hm, hQ⟩ := hk _ _ _ _ _ (.int x :: st') _ hu hc hE hl ⟨_, _, rfl, hv, hs⟩ H
  refine ⟨m + 1, r, sx_next (t := none) hP ha rfl ?_ hm, hQ⟩
  show sx_i1 (1, a, b, pc, ln, ins) ls' st' h = _
  unfold sx_i1
  simp only [hw1]
def sz_v2 (k : Nat → Bool) (v : sy_V) : Bool := match v with
  | .inl (.ref x) => k x
  | _ => false
theorem sz_v2_ok {k : Nat → Bool} {v : sy_V} (h : sz_v2 k v = true) : ∃ x, v = .inl (.ref x) ∧ k x = true := by
  unfold sz_v2 at h
  split at h
  · next x => exact ⟨x, rfl, h⟩
  · cases h
noncomputable def sz_p2 (a b : Nat) (k : sz_Q) : sz_Q := fun E ls st T => sz_lk a (sz_v2 (fun x => k E ls (.inl (.ref x) :: st) T)) ls
theorem sz_p2_ok {k : sz_Q} (hx : sz_is j i 2 a b = true) (hk : sz_at S ρ q Q j (i + 1) k) : sz_at S ρ q Q j i (sz_p2 a b k) := sz_fast (sz_o2_ok hx hk) (fun E ls st T h => by
  obtain ⟨v, h1, h2⟩ := sz_lk_ok h
  obtain ⟨x, rfl, h3⟩ := sz_v2_ok h2
  unfold sz_o2 sz_pl sy_i2
  simp only [h1]
  exact h3)
/-! a field of a local -/
noncomputable def sz_fo (c b : Nat) (T : sy_H) (x : Nat) : Option Value := match sy_arr T (.inl (.ref x)) with
  | some (_, .inl (ci, fs)) => bif Nat.beq ci c then sy_fd fs b else none
  | _ => none
def sz_ov (k : Value → Bool) (v : Option Value) : Bool := match v with
  | some w => k w
  | none => false
theorem sz_ov_ok {k : Value → Bool} {v : Option Value} (h : sz_ov k v = true) : ∃ w, v = some w ∧ k w = true := by
  unfold sz_ov at h
  split at h
  · next w => exact ⟨w, rfl, h⟩
  · cases h
theorem sz_o46_fo {c b : Nat} {T : sy_H} {x : Nat} {w : Value} (h : sz_fo c b T x = some w) (k : sz_Q) (E : sy_E) (ls : sy_L) (st : List sy_V) : sz_o46 c b k E ls (.inl (.ref x) :: st) T = k E ls (.inl w :: st) T := by
  unfold sz_fo at h
  unfold sz_o46 sz_pl sy_i46
  split at h
  · next k1 ci fs he =>
    simp only [he]
    cases hb : Nat.beq ci c with
    | false => rw [hb] at h; cases h
    | true =>
      rw [hb] at h
      have h : sy_fd fs b = some w := h
      simp only [cond_true, h]
  · cases h
noncomputable def sz_p46 (c b : Nat) (k : sz_Q) : sz_Q := fun E ls st T => match st with
  | .inl (.ref x) :: r => sz_ov (fun w => k E ls (.inl w :: r) T) (sz_fo c b T x)
  | _ => false
theorem sz_p46_ok {k : sz_Q} (hx : sz_is j i 46 a b = true) (hk : sz_at S ρ q Q j (i + 1) k) : sz_at S ρ q Q j i (sz_p46 a b k) := sz_fast (sz_o46_ok hx hk) (fun E ls st T h => by
  unfold sz_p46 at h
  split at h
  · next x r =>
    obtain ⟨w, h4, h5⟩ := sz_ov_ok h
    rw [sz_o46_fo h4]
    exact h5
  · cases h)
noncomputable def sz_F1 (a c b : Nat) (k : sz_Q) : sz_Q := fun E ls st T => sz_lk a (sz_v2 (fun x => sz_ov (fun w => k E ls (.inl w :: st) T) (sz_fo c b T x))) ls
theorem sz_F1_ok {c : Nat} {k : sz_Q} (hx : sz_is j i 2 a 0 = true) (hx2 : sz_is j (i + 1) 46 c b = true) (hk : sz_at S ρ q Q j (i + 1 + 1) k) : sz_at S ρ q Q j i (sz_F1 a c b k) := sz_fast (sz_o2_ok hx (sz_o46_ok hx2 hk)) (fun E ls st T h => by
  obtain ⟨v, h1, h2⟩ := sz_lk_ok h
  obtain ⟨x, rfl, h3⟩ := sz_v2_ok h2
  obtain ⟨w, h4, h5⟩ := sz_ov_ok h3
  have e : sz_o2 a 0 (sz_o46 c b k) E ls st T = sz_o46 c b k E ls (.inl (.ref x) :: st) T := by
    unfold sz_o2 sz_pl sy_i2
    simp only [h1]
  rw [e, sz_o46_fo h4]
  exact h5)
/-! an element of an array that is a field of a local, at a local -/
noncomputable def sz_el (t0 t1 : Nat) (T : sy_H) (i : Int32) (w : Value) : Option Nat := match sy_arr T (.inl w) with
  | some (_, .inr (.inl (t, n, A))) => bif Nat.beq t t0 || Nat.beq t t1 then (match sx_ix i n with
    | some j => some (sy_pg A j)
    | none => none) else none
  | _ => none
noncomputable def sz_em (t0 t1 c b : Nat) (T : sy_H) (i : Int32) (x : Nat) : Option Nat := match sz_fo c b T x with
  | some w => sz_el t0 t1 T i w
  | none => none
def sz_v3 (k : Nat → Int32 → Bool) (d : Bool) (v u : sy_V) : Bool := match v, u with
  | .inl (.ref x), .inl (.int i) => k x i
  | _, _ => d
noncomputable def sz_on (k : sy_V → Bool) (d : Bool) (v : Option Nat) : Bool := match v with
  | some n => sy_fn n (fun n => k (.inl (.int (Int32.ofNat n))))
  | none => d
noncomputable def sz_F3 (t0 t1 a c b x : Nat) (k slow : sz_Q) : sz_Q := fun E ls st T => sz_lk a (fun v => sz_lk x (fun u => sz_v3 (fun y i => sz_on (fun z => k E ls (z :: st) T) (slow E ls st T) (sz_em t0 t1 c b T i y)) (slow E ls st T) v u) ls) ls
noncomputable def sz_F38 (q a c b x : Nat) (k : sz_Q) : sz_Q := sz_F3 0 0 a c b x k (sz_o2 a 0 (sz_o46 c b (sz_o1 x 0 (sz_o38 q 0 0 k))))
noncomputable def sz_F39 (a c b x : Nat) (k : sz_Q) : sz_Q := sz_F3 1 2 a c b x k (sz_o2 a 0 (sz_o46 c b (sz_o1 x 0 (sz_o39 0 0 k))))
theorem sz_F3_ok {t0 t1 c x : Nat} {k ld : sz_Q} (hs : sz_at S ρ q Q j i (sz_o2 a 0 (sz_o46 c b (sz_o1 x 0 ld)))) (hld : ∀ E ls st T w y n, sz_el t0 t1 T y w = some n → ld E ls (.inl (.int y) :: .inl w :: st) T = k E ls (.inl (.int (Int32.ofNat n)) :: st) T) : sz_at S ρ q Q j i (sz_F3 t0 t1 a c b x k (sz_o2 a 0 (sz_o46 c b (sz_o1 x 0 ld)))) := sz_fast hs (fun E ls st T h => by
  obtain ⟨v, h1, h2⟩ := sz_lk_ok h
  obtain ⟨u, h3, h4⟩ := sz_lk_ok h2
  unfold sz_v3 at h4
  split at h4
  · next y n0 =>
    unfold sz_on at h4
    dsimp only at h4
    split at h4
    · next n hn =>
      rw [sy_fn_eq] at h4
      unfold sz_em at hn
      split at hn
      · next w hw =>
        have e : sz_o2 a 0 (sz_o46 c b (sz_o1 x 0 ld)) E ls st T = sz_o46 c b (sz_o1 x 0 ld) E ls (.inl (.ref y) :: st) T := by
          unfold sz_o2 sz_pl sy_i2
          simp only [h1]
        have e2 : sz_o1 x 0 ld E ls (.inl w :: st) T = ld E ls (.inl (.int n0) :: .inl w :: st) T := by
          unfold sz_o1 sz_pl sy_i1
          simp only [h3]
        rw [e, sz_o46_fo hw, e2, hld _ _ _ _ _ _ _ hn]
        exact h4
      · cases hn
    · exact h4
  · exact h4)
theorem sz_ps_eq (w : sy_E → List sy_V → Option (Nat × Nat)) (f : sy_I) (en : sx_N) (k : sz_Q) (E : sy_E) (ls : sy_L) (st : List sy_V) (T : sy_H) {ls1 : sy_L} {st1 : List sy_V} {T1 : sy_H} (h : f en E ls st T = some (none, ls1, st1, T1)) : sz_ps w f en k E ls st T = k E ls1 st1 T1 := by
  show (match f en E ls st T with
    | some (none, ls1, st1, T1) => k E ls1 st1 T1
    | some (some _, _, _, _) => false
    | none => _) = _
  rw [h]
theorem sz_el38 {T : sy_H} {y : Int32} {w : Value} {n : Nat} (h : sz_el 0 0 T y w = some n) (q a b : Nat) (k : sz_Q) (E : sy_E) (ls : sy_L) (st : List sy_V) : sz_o38 q a b k E ls (.inl (.int y) :: .inl w :: st) T = k E ls (.inl (.int (Int32.ofNat n)) :: st) T := by
  refine sz_ps_eq _ _ _ _ _ _ _ _ ?_
  rw [sy_j38_eq]
  unfold sz_el at h
  split at h
  · next k1 t m A he =>
    cases hb : (Nat.beq t 0 || Nat.beq t 0) with
    | false => rw [hb] at h; cases h
    | true =>
      rw [hb] at h
      rw [Bool.or_self] at hb
      have et := Nat.eq_of_beq_eq_true hb
      subst et
      have h : (match sx_ix y m with | some j => some (sy_pg A j) | none => none) = some n := h
      unfold sy_i38
      split
      · next e9 => cases e9; cases he
      · next e9 =>
        cases e9
        rw [he]
        show sy_ald1 ls st T A (sx_ix y m) = _
        cases hj : sx_ix y m with
        | none => rw [hj] at h; cases h
        | some j1 =>
          rw [hj] at h
          cases h
          rfl
      · next e9 => exact absurd rfl (e9 _ _ _)
  · cases h
theorem sz_el39 {T : sy_H} {y : Int32} {w : Value} {n : Nat} (h : sz_el 1 2 T y w = some n) (a b : Nat) (k : sz_Q) (E : sy_E) (ls : sy_L) (st : List sy_V) : sz_o39 a b k E ls (.inl (.int y) :: .inl w :: st) T = k E ls (.inl (.int (Int32.ofNat n)) :: st) T := by
  refine sz_ps_eq _ _ _ _ _ _ _ _ ?_
  rw [sy_j39_eq]
  unfold sz_el at h
  split at h
  · next k1 t m A he =>
    cases hb : (Nat.beq t 1 || Nat.beq t 2) with
    | false => rw [hb] at h; cases h
    | true =>
      rw [hb] at h
      have h : (match sx_ix y m with | some j => some (sy_pg A j) | none => none) = some n := h
      have hfin : sy_ald1 ls st T A (sy_ix E (.inl (.int y)) m) = some (none, ls, .inl (.int (Int32.ofNat n)) :: st, T) := by
        show sy_ald1 ls st T A (sx_ix y m) = _
        cases hj : sx_ix y m with
        | none => rw [hj] at h; cases h
        | some j1 =>
          rw [hj] at h
          cases h
          rfl
      rw [Bool.or_eq_true] at hb
      rcases hb with hb | hb
      · have et := Nat.eq_of_beq_eq_true hb
        subst et
        unfold sy_i39
        simp only [he]
        exact hfin
      · have et := Nat.eq_of_beq_eq_true hb
        subst et
        unfold sy_i39
        simp only [he]
        exact hfin
  · cases h
theorem sz_F38_ok {c x : Nat} {k : sz_Q} (hx : sz_is j i 2 a 0 = true) (hx2 : sz_is j (i + 1) 46 c b = true) (hx3 : sz_is j (i + 1 + 1) 1 x 0 = true) (hx4 : sz_is j (i + 1 + 1 + 1) 38 0 0 = true) (hk : sz_at S ρ q Q j (i + 1 + 1 + 1 + 1) k) : sz_at S ρ q Q j i (sz_F38 q a c b x k) := sz_F3_ok (sz_o2_ok hx (sz_o46_ok hx2 (sz_o1_ok hx3 (sz_o38_ok hx4 hk)))) (fun E ls st T w y n h => sz_el38 h _ _ _ _ _ _ _)
theorem sz_F39_ok {c x : Nat} {k : sz_Q} (hx : sz_is j i 2 a 0 = true) (hx2 : sz_is j (i + 1) 46 c b = true) (hx3 : sz_is j (i + 1 + 1) 1 x 0 = true) (hx4 : sz_is j (i + 1 + 1 + 1) 39 0 0 = true) (hk : sz_at S ρ q Q j (i + 1 + 1 + 1 + 1) k) : sz_at S ρ q Q j i (sz_F39 a c b x k) := sz_F3_ok (sz_o2_ok hx (sz_o46_ok hx2 (sz_o1_ok hx3 (sz_o39_ok hx4 hk)))) (fun E ls st T w y n h => sz_el39 h _ _ _ _ _ _)
/-! an element at a known place -/
noncomputable def sz_L3 (t0 t1 : Nat) (k slow : sz_Q) : sz_Q := fun E ls st T => match st with
  | .inl (.int y) :: .inl w :: r => sz_on (fun z => k E ls (z :: r) T) (slow E ls st T) (sz_el t0 t1 T y w)
  | _ => slow E ls st T
theorem sz_L3_ok {t0 t1 : Nat} {k slow : sz_Q} (hs : sz_at S ρ q Q j i slow) (hld : ∀ E ls st T w y n, sz_el t0 t1 T y w = some n → slow E ls (.inl (.int y) :: .inl w :: st) T = k E ls (.inl (.int (Int32.ofNat n)) :: st) T) : sz_at S ρ q Q j i (sz_L3 t0 t1 k slow) := sz_fast hs (fun E ls st T h => by
  unfold sz_L3 at h
  split at h
  · next y w r =>
    unfold sz_on at h
    split at h
    · next n hn =>
      rw [sy_fn_eq] at h
      rw [hld _ _ _ _ _ _ _ hn]
      exact h
    · exact h
  · exact h)
noncomputable def sz_p38 (q a b : Nat) (k : sz_Q) : sz_Q := sz_L3 0 0 k (sz_o38 q a b k)
theorem sz_p38_ok {k : sz_Q} (hx : sz_is j i 38 a b = true) (hk : sz_at S ρ q Q j (i + 1) k) : sz_at S ρ q Q j i (sz_p38 q a b k) := sz_L3_ok (sz_o38_ok hx hk) (fun E ls st T w y n h => sz_el38 h _ _ _ _ _ _ _)
noncomputable def sz_p39 (a b : Nat) (k : sz_Q) : sz_Q := sz_L3 1 2 k (sz_o39 a b k)
theorem sz_p39_ok {k : sz_Q} (hx : sz_is j i 39 a b = true) (hk : sz_at S ρ q Q j (i + 1) k) : sz_at S ρ q Q j i (sz_p39 a b k) := sz_L3_ok (sz_o39_ok hx hk) (fun E ls st T w y n h => sz_el39 h _ _ _ _ _ _)
/-! two known ints -/
noncomputable def sz_b2 (f : Int32 → Int32 → Int32) (k slow : sz_Q) : sz_Q := fun E ls st T => match st with
  | .inl (.int y) :: .inl (.int x) :: r => sy_fi (f x y) (fun z => k E ls (.inl (.int z) :: r) T)
  | _ => slow E ls st T
theorem sz_b2_ok {f : Int32 → Int32 → Int32} {o : Nat} {k : sz_Q} (hs : sz_at S ρ q Q j i (sz_pe sy_w9 (sy_jbin f) (o, a, b, 0, 0, .nop) k)) : sz_at S ρ q Q j i (sz_b2 f k (sz_pe sy_w9 (sy_jbin f) (o, a, b, 0, 0, .nop) k)) := sz_fast hs (fun E ls st T h => by
  unfold sz_b2 at h
  split at h
  · next y x r =>
    rw [sy_fi_eq] at h
    show sz_pl (sy_jbin f) (o, a, b, 0, 0, .nop) k E ls (.inl (.int y) :: .inl (.int x) :: r) T = true
    have e8 : sy_jbin f (o, a, b, 0, 0, .nop) E ls (.inl (.int y) :: .inl (.int x) :: r) T = some (none, ls, .inl (.int (f x y)) :: r, T) := by
      rw [sy_jbin_eq]
      rfl
    unfold sz_pl
    rw [e8]
    exact h
  · exact h)
/-! branches over known ints -/
def sz_rl (r A C : Nat) : Bool := match r with
  | 0 => Nat.beq A C
  | 1 => !(Nat.beq A C)
  | 2 => Nat.blt A C
  | 3 => Nat.ble C A
  | 4 => Nat.blt C A
  | _ => Nat.ble A C
theorem sz_blt_of {A C : Nat} (h : A < C) : Nat.blt A C = true := by rw [Nat.blt_eq]; exact h
theorem sz_nblt_of {A C : Nat} (h : C ≤ A) : Nat.blt A C = false := Bool.eq_false_iff.mpr (fun h9 => by rw [Nat.blt_eq] at h9; omega)
theorem sz_ble_of {A C : Nat} (h : A ≤ C) : Nat.ble A C = true := by rw [Nat.ble_eq]; exact h
theorem sz_nble_of {A C : Nat} (h : C < A) : Nat.ble A C = false := Bool.eq_false_iff.mpr (fun h9 => by rw [Nat.ble_eq] at h9; omega)
theorem sz_nbeq_of {A C : Nat} (h : A ≠ C) : Nat.beq A C = false := Bool.eq_false_iff.mpr (fun h9 => h (Nat.eq_of_beq_eq_true h9))
theorem sz_dec {r : Nat} (A C : Nat) (hr : r < 6) : sy_dec r A A C C = some (sz_rl r A C) := by
  have hAA : Nat.beq A A = true := Nat.beq_refl A
  have hCC : Nat.beq C C = true := Nat.beq_refl C
  unfold sy_dec
  rcases Nat.lt_trichotomy A C with h | h | h
  · have h1 := sz_blt_of h
    have h2 := sz_nblt_of (Nat.le_of_lt h)
    have h3 := sz_ble_of (Nat.le_of_lt h)
    have h4 := sz_nble_of h
    have h5 := sz_nbeq_of (Nat.ne_of_lt h)
    match r, hr with
    | 0, _ => simp [sz_rl, h1, h2, h3, h4, h5, hAA, hCC] <;> rfl
    | 1, _ => simp [sz_rl, h1, h2, h3, h4, h5, hAA, hCC] <;> rfl
    | 2, _ => simp [sz_rl, h1, h2, h3, h4, h5, hAA, hCC] <;> rfl
    | 3, _ => simp [sz_rl, h1, h2, h3, h4, h5, hAA, hCC] <;> rfl
    | 4, _ => simp [sz_rl, h1, h2, h3, h4, h5, hAA, hCC] <;> rfl
    | 5, _ => simp [sz_rl, h1, h2, h3, h4, h5, hAA, hCC] <;> rfl
  · subst h
    have h1 := sz_nblt_of (Nat.le_refl A)
    have h3 := sz_ble_of (Nat.le_refl A)
    match r, hr with
    | 0, _ => simp [sz_rl, h1, h3, hAA] <;> rfl
    | 1, _ => simp [sz_rl, h1, h3, hAA] <;> rfl
    | 2, _ => simp [sz_rl, h1, h3, hAA] <;> rfl
    | 3, _ => simp [sz_rl, h1, h3, hAA] <;> rfl
    | 4, _ => simp [sz_rl, h1, h3, hAA] <;> rfl
    | 5, _ => simp [sz_rl, h1, h3, hAA] <;> rfl
  · have h1 := sz_blt_of h
    have h2 := sz_nblt_of (Nat.le_of_lt h)
    have h3 := sz_ble_of (Nat.le_of_lt h)
    have h4 := sz_nble_of h
    have h5 := sz_nbeq_of (Ne.symm (Nat.ne_of_lt h))
    match r, hr with
    | 0, _ => simp [sz_rl, h1, h2, h3, h4, h5, hAA, hCC] <;> rfl
    | 1, _ => simp [sz_rl, h1, h2, h3, h4, h5, hAA, hCC] <;> rfl
    | 2, _ => simp [sz_rl, h1, h2, h3, h4, h5, hAA, hCC] <;> rfl
    | 3, _ => simp [sz_rl, h1, h2, h3, h4, h5, hAA, hCC] <;> rfl
    | 4, _ => simp [sz_rl, h1, h2, h3, h4, h5, hAA, hCC] <;> rfl
    | 5, _ => simp [sz_rl, h1, h2, h3, h4, h5, hAA, hCC] <;> rfl
theorem sz_br_eq (w : sy_E → List sy_V → Option (Nat × Nat)) (f : sy_I) (en : sx_N) (t : Nat) (kt kf : sz_Q) (E : sy_E) (ls : sy_L) (st : List sy_V) (T : sy_H) {z : Bool} {ls1 : sy_L} {st1 : List sy_V} {T1 : sy_H} (h : f en E ls st T = some (bif z then some t else none, ls1, st1, T1)) : sz_br w f en t kt kf E ls st T = bif z then kt E ls1 st1 T1 else kf E ls1 st1 T1 := by
  show (match f en E ls st T with
    | some (none, ls1, st1, T1) => kf E ls1 st1 T1
    | some (some t', ls1, st1, T1) => bif Nat.beq t' t then kt E ls1 st1 T1 else false
    | none => _) = _
  rw [h]
  cases z with
  | true =>
    show (bif Nat.beq t t then kt E ls1 st1 T1 else false) = _
    rw [show Nat.beq t t = true from Nat.beq_refl t]
    rfl
  | false => rfl
/-- the two highest, if they are known ints -/
def sz_g2 (f : Nat → Nat → Bool) (kt kf slow : sz_Q) : sz_Q := fun E ls st T => match st with
  | .inl (.int y) :: .inl (.int x) :: s => bif f (sy_b x) (sy_b y) then kt E ls s T else kf E ls s T
  | _ => slow E ls st T
theorem sz_g2_ok {r : Nat} (hr : r < 6) {f : Nat → Nat → Bool} (hf : ∀ A C, f A C = sz_rl r A C) {w : sy_E → List sy_V → Option (Nat × Nat)} {o t : Nat} {kt kf : sz_Q} (hs : sz_at S ρ q Q j i (sz_br w (sy_if2 r) (o, t, b, 0, 0, .nop) t kt kf)) : sz_at S ρ q Q j i (sz_g2 f kt kf (sz_br w (sy_if2 r) (o, t, b, 0, 0, .nop) t kt kf)) := sz_fast hs (fun E ls st T h => by
  unfold sz_g2 at h
  split at h
  · next y x s =>
    have e : sy_if2 r (o, t, b, 0, 0, .nop) E ls (.inl (.int y) :: .inl (.int x) :: s) T = some (bif f (sy_b x) (sy_b y) then some t else none, ls, s, T) := by
      show (match sy_dec r (sy_b x) (sy_b x) (sy_b y) (sy_b y) with
        | some z => some (bif z then some t else none, ls, s, T)
        | none => none) = _
      rw [sz_dec _ _ hr, hf]
    rw [sz_br_eq _ _ _ _ _ _ _ _ _ _ e]
    exact h
  · exact h)
def sz_g1 (f : Nat → Bool) (kt kf slow : sz_Q) : sz_Q := fun E ls st T => match st with
  | .inl (.int x) :: s => bif f (sy_b x) then kt E ls s T else kf E ls s T
  | _ => slow E ls st T
theorem sz_g1_ok {r : Nat} (hr : r < 6) {f : Nat → Bool} (hf : ∀ A, f A = sz_rl r A 2147483648) {w : sy_E → List sy_V → Option (Nat × Nat)} {o t : Nat} {kt kf : sz_Q} (hs : sz_at S ρ q Q j i (sz_br w (sy_if1 r) (o, t, b, 0, 0, .nop) t kt kf)) : sz_at S ρ q Q j i (sz_g1 f kt kf (sz_br w (sy_if1 r) (o, t, b, 0, 0, .nop) t kt kf)) := sz_fast hs (fun E ls st T h => by
  unfold sz_g1 at h
  split at h
  · next x s =>
    have e : sy_if1 r (o, t, b, 0, 0, .nop) E ls (.inl (.int x) :: s) T = some (bif f (sy_b x) then some t else none, ls, s, T) := by
      show (match sy_dec r (sy_b x) (sy_b x) 2147483648 2147483648 with
        | some z => some (bif z then some t else none, ls, s, T)
        | none => none) = _
      rw [sz_dec _ _ hr, hf]
    rw [sz_br_eq _ _ _ _ _ _ _ _ _ _ e]
    exact h
  · exact h)
noncomputable def sz_p23 (a b : Nat) (kt kf : sz_Q) : sz_Q := sz_g1 (fun A => Nat.beq A 2147483648) kt kf (sz_o23 a b kt kf)
theorem sz_p23_ok {kt kf : sz_Q} (hx : sz_is j i 23 a b = true) (ht : sz_at S ρ q Q j a kt) (hk : sz_at S ρ q Q j (i + 1) kf) : sz_at S ρ q Q j i (sz_p23 a b kt kf) := sz_g1_ok (r := 0) (by omega) (fun _ => rfl) (sz_o23_ok hx ht hk)
noncomputable def sz_p24 (a b : Nat) (kt kf : sz_Q) : sz_Q := sz_g1 (fun A => !(Nat.beq A 2147483648)) kt kf (sz_o24 a b kt kf)
theorem sz_p24_ok {kt kf : sz_Q} (hx : sz_is j i 24 a b = true) (ht : sz_at S ρ q Q j a kt) (hk : sz_at S ρ q Q j (i + 1) kf) : sz_at S ρ q Q j i (sz_p24 a b kt kf) := sz_g1_ok (r := 1) (by omega) (fun _ => rfl) (sz_o24_ok hx ht hk)
noncomputable def sz_p25 (a b : Nat) (kt kf : sz_Q) : sz_Q := sz_g1 (fun A => Nat.blt A 2147483648) kt kf (sz_o25 a b kt kf)
theorem sz_p25_ok {kt kf : sz_Q} (hx : sz_is j i 25 a b = true) (ht : sz_at S ρ q Q j a kt) (hk : sz_at S ρ q Q j (i + 1) kf) : sz_at S ρ q Q j i (sz_p25 a b kt kf) := sz_g1_ok (r := 2) (by omega) (fun _ => rfl) (sz_o25_ok hx ht hk)
noncomputable def sz_p26 (a b : Nat) (kt kf : sz_Q) : sz_Q := sz_g1 (fun A => Nat.ble 2147483648 A) kt kf (sz_o26 a b kt kf)
theorem sz_p26_ok {kt kf : sz_Q} (hx : sz_is j i 26 a b = true) (ht : sz_at S ρ q Q j a kt) (hk : sz_at S ρ q Q j (i + 1) kf) : sz_at S ρ q Q j i (sz_p26 a b kt kf) := sz_g1_ok (r := 3) (by omega) (fun _ => rfl) (sz_o26_ok hx ht hk)
noncomputable def sz_p27 (a b : Nat) (kt kf : sz_Q) : sz_Q := sz_g1 (fun A => Nat.blt 2147483648 A) kt kf (sz_o27 a b kt kf)
theorem sz_p27_ok {kt kf : sz_Q} (hx : sz_is j i 27 a b = true) (ht : sz_at S ρ q Q j a kt) (hk : sz_at S ρ q Q j (i + 1) kf) : sz_at S ρ q Q j i (sz_p27 a b kt kf) := sz_g1_ok (r := 4) (by omega) (fun _ => rfl) (sz_o27_ok hx ht hk)
noncomputable def sz_p28 (a b : Nat) (kt kf : sz_Q) : sz_Q := sz_g1 (fun A => Nat.ble A 2147483648) kt kf (sz_o28 a b kt kf)
theorem sz_p28_ok {kt kf : sz_Q} (hx : sz_is j i 28 a b = true) (ht : sz_at S ρ q Q j a kt) (hk : sz_at S ρ q Q j (i + 1) kf) : sz_at S ρ q Q j i (sz_p28 a b kt kf) := sz_g1_ok (r := 5) (by omega) (fun _ => rfl) (sz_o28_ok hx ht hk)
noncomputable def sz_p29 (a b : Nat) (kt kf : sz_Q) : sz_Q := sz_g2 Nat.beq kt kf (sz_o29 a b kt kf)
theorem sz_p29_ok {kt kf : sz_Q} (hx : sz_is j i 29 a b = true) (ht : sz_at S ρ q Q j a kt) (hk : sz_at S ρ q Q j (i + 1) kf) : sz_at S ρ q Q j i (sz_p29 a b kt kf) := sz_g2_ok (r := 0) (by omega) (fun _ _ => rfl) (sz_o29_ok hx ht hk)
noncomputable def sz_p30 (a b : Nat) (kt kf : sz_Q) : sz_Q := sz_g2 (fun A C => !(Nat.beq A C)) kt kf (sz_o30 a b kt kf)
theorem sz_p30_ok {kt kf : sz_Q} (hx : sz_is j i 30 a b = true) (ht : sz_at S ρ q Q j a kt) (hk : sz_at S ρ q Q j (i + 1) kf) : sz_at S ρ q Q j i (sz_p30 a b kt kf) := sz_g2_ok (r := 1) (by omega) (fun _ _ => rfl) (sz_o30_ok hx ht hk)
noncomputable def sz_p31 (a b : Nat) (kt kf : sz_Q) : sz_Q := sz_g2 Nat.blt kt kf (sz_o31 a b kt kf)
theorem sz_p31_ok {kt kf : sz_Q} (hx : sz_is j i 31 a b = true) (ht : sz_at S ρ q Q j a kt) (hk : sz_at S ρ q Q j (i + 1) kf) : sz_at S ρ q Q j i (sz_p31 a b kt kf) := sz_g2_ok (r := 2) (by omega) (fun _ _ => rfl) (sz_o31_ok hx ht hk)
noncomputable def sz_p32 (a b : Nat) (kt kf : sz_Q) : sz_Q := sz_g2 (fun A C => Nat.ble C A) kt kf (sz_o32 a b kt kf)
theorem sz_p32_ok {kt kf : sz_Q} (hx : sz_is j i 32 a b = true) (ht : sz_at S ρ q Q j a kt) (hk : sz_at S ρ q Q j (i + 1) kf) : sz_at S ρ q Q j i (sz_p32 a b kt kf) := sz_g2_ok (r := 3) (by omega) (fun _ _ => rfl) (sz_o32_ok hx ht hk)
noncomputable def sz_p33 (a b : Nat) (kt kf : sz_Q) : sz_Q := sz_g2 (fun A C => Nat.blt C A) kt kf (sz_o33 a b kt kf)
theorem sz_p33_ok {kt kf : sz_Q} (hx : sz_is j i 33 a b = true) (ht : sz_at S ρ q Q j a kt) (hk : sz_at S ρ q Q j (i + 1) kf) : sz_at S ρ q Q j i (sz_p33 a b kt kf) := sz_g2_ok (r := 4) (by omega) (fun _ _ => rfl) (sz_o33_ok hx ht hk)
noncomputable def sz_p34 (a b : Nat) (kt kf : sz_Q) : sz_Q := sz_g2 Nat.ble kt kf (sz_o34 a b kt kf)
theorem sz_p34_ok {kt kf : sz_Q} (hx : sz_is j i 34 a b = true) (ht : sz_at S ρ q Q j a kt) (hk : sz_at S ρ q Q j (i + 1) kf) : sz_at S ρ q Q j i (sz_p34 a b kt kf) := sz_g2_ok (r := 5) (by omega) (fun _ _ => rfl) (sz_o34_ok hx ht hk)
noncomputable def sz_p9 (a b : Nat) (k : sz_Q) : sz_Q := sz_b2 (fun x y => x + y) k (sz_o9 a b k)
theorem sz_p9_ok {k : sz_Q} (hx : sz_is j i 9 a b = true) (hk : sz_at S ρ q Q j (i + 1) k) : sz_at S ρ q Q j i (sz_p9 a b k) := sz_b2_ok (sz_o9_ok hx hk)
noncomputable def sz_p10 (a b : Nat) (k : sz_Q) : sz_Q := sz_b2 (fun x y => x - y) k (sz_o10 a b k)
theorem sz_p10_ok {k : sz_Q} (hx : sz_is j i 10 a b = true) (hk : sz_at S ρ q Q j (i + 1) k) : sz_at S ρ q Q j i (sz_p10 a b k) := sz_b2_ok (sz_o10_ok hx hk)
noncomputable def sz_p11 (a b : Nat) (k : sz_Q) : sz_Q := sz_b2 (fun x y => x * y) k (sz_o11 a b k)
theorem sz_p11_ok {k : sz_Q} (hx : sz_is j i 11 a b = true) (hk : sz_at S ρ q Q j (i + 1) k) : sz_at S ρ q Q j i (sz_p11 a b k) := sz_b2_ok (sz_o11_ok hx hk)
noncomputable def sz_p13 (a b : Nat) (k : sz_Q) : sz_Q := sz_b2 (fun x y => x ||| y) k (sz_o13 a b k)
theorem sz_p13_ok {k : sz_Q} (hx : sz_is j i 13 a b = true) (hk : sz_at S ρ q Q j (i + 1) k) : sz_at S ρ q Q j i (sz_p13 a b k) := sz_b2_ok (sz_o13_ok hx hk)
noncomputable def sz_p14 (a b : Nat) (k : sz_Q) : sz_Q := sz_b2 (fun x y => x ^^^ y) k (sz_o14 a b k)
theorem sz_p14_ok {k : sz_Q} (hx : sz_is j i 14 a b = true) (hk : sz_at S ρ q Q j (i + 1) k) : sz_at S ρ q Q j i (sz_p14 a b k) := sz_b2_ok (sz_o14_ok hx hk)
noncomputable def sz_p15 (a b : Nat) (k : sz_Q) : sz_Q := sz_b2 (fun x y => x <<< (y &&& 31)) k (sz_o15 a b k)
theorem sz_p15_ok {k : sz_Q} (hx : sz_is j i 15 a b = true) (hk : sz_at S ρ q Q j (i + 1) k) : sz_at S ρ q Q j i (sz_p15 a b k) := sz_b2_ok (sz_o15_ok hx hk)
noncomputable def sz_p16 (a b : Nat) (k : sz_Q) : sz_Q := sz_b2 (fun x y => x >>> (y &&& 31)) k (sz_o16 a b k)
theorem sz_p16_ok {k : sz_Q} (hx : sz_is j i 16 a b = true) (hk : sz_at S ρ q Q j (i + 1) k) : sz_at S ρ q Q j i (sz_p16 a b k) := sz_b2_ok (sz_o16_ok hx hk)
noncomputable def sz_p17 (a b : Nat) (k : sz_Q) : sz_Q := sz_b2 (fun x y => (x.toUInt32 >>> (y.toUInt32 &&& Int32.toUInt32 31)).toInt32) k (sz_o17 a b k)
theorem sz_p17_ok {k : sz_Q} (hx : sz_is j i 17 a b = true) (hk : sz_at S ρ q Q j (i + 1) k) : sz_at S ρ q Q j i (sz_p17 a b k) := sz_b2_ok (sz_o17_ok hx hk)
end
