/-! ===== the plain instructions at the machine: from SI's state behind an instruction to the one ahead of it ===== -/
/-- a word holds, and goes on holding as long as the tables grow warmer and nothing below B changes -/
def sx_stays (s : State) (B : Nat) (x : Cond) : Prop := ∀ (U : State) (a : Array Value), s.WarmedH U.vm → (∀ q : Nat, q < B → U.heap[q]? = s.heap[q]?) → x.before a U = true
theorem sx_now {s : State} {B : Nat} {Ts : List Cond} {args : Array Value} (h : ∀ x ∈ Ts, sx_stays s B x) : ∀ x ∈ Ts, x.before args s = true := fun x hx => h x hx s args (State.WarmedH.refl s) (fun _ _ => rfl)
theorem sx_stays.later {s U : State} {B : Nat} {x : Cond} (h : sx_stays s B x) (hW : s.WarmedH U.vm) (hq : ∀ q : Nat, q < B → U.heap[q]? = s.heap[q]?) : sx_stays U B x := fun V a hV hVq => h V a (State.WarmedH.trans hW hV) (fun q h9 => (hVq q h9).trans (hq q h9))
/-- what a method's walk has at hand: the machine, its code, its class, the words, the classes, the script, the room -/
def sx_Ev (p : Program) (R : Room) (s : State) (m : MethodId) (args : Array Value) (c : Code) (cc : ByteArray) (nL : Nat) (own : String) (Ts : List Cond) (w : sx_Wd) (cl : List vw_C) (ra : List Nat) (S : List Int32) (lim : Nat × Nat) (n0 z0 fr lo : Nat) : Prop :=
  p.tables.exec = Jvm.exec ∧ c.code = cc ∧ c.maxLocals = nL ∧ s.vm.findClass own = some m.cls ∧ (∀ x ∈ Ts, sx_stays s w.2.1 x) ∧ sx_KR w cl ra s ∧ sx_clOK Ts cl ∧ va_X w.1 S.length (fun j => sx_lg 0 S j) s s.heap ∧ w.1 < w.2.1 ∧ lim.1 - n0 ≤ R.cells ∧ lim.2 - z0 ≤ R.slots ∧ fr ≤ R.frames ∧ lo ≤ R.locals
/-- the machine, at a place of SI's, comes to Q -/
def sx_At (p : Program) (l : Launch) (e : Env) (R : Room) (s : State) (m : MethodId) (args : Array Value) (below : List Frame) (meth : Method) (c : Code) (Q : State → Prop) (nL : Nat) (w : sx_Wd) (cl : List vw_C) (ra : List Nat) (n0 z0 : Nat) (pc : Nat) (ls : sx_L) (st : List Value) (h : sx_H) : Prop :=
  n0 ≤ h.1 → z0 ≤ h.2.1 → ∀ (H : Heap) (locs : List Loc) (lm : Array Slot), sx_HR w cl ra h H → sx_SR w s H locs → sx_LR w nL ls lm → W p l e R s m args below meth c H locs (h.1 - n0) (h.2.1 - z0) Q (F0 m pc lm (st.map (sx_v w)))
section SXO
variable {p : Program} {l : Launch} {e : Env} {R : Room} {s : State} {m : MethodId} {args : Array Value} {below : List Frame} {meth : Method} {c : Code} {Q : State → Prop} {cc : ByteArray} {nL : Nat} {own : String} {Ts : List Cond} {w : sx_Wd} {cl : List vw_C} {ra : List Nat} {S : List Int32} {lim : Nat × Nat} {n0 z0 fr lo : Nat}
variable {pc : Nat} {ls ls1 : sx_L} {st st1 : List Value} {h h1 : sx_H} {t : Option Nat} {en : sx_N}
theorem sx_w_push (E : sx_Ev p R s m args c cc nL own Ts w cl ra S lim n0 z0 fr lo) {v : Int32} {len : Nat} (row : ∀ {H : Heap} {locs : List Loc} {cells slots : Nat} {lm : Array Slot} {rest : List Value}, W p l e R s m args below meth c H locs cells slots Q (F0 m (pc + len) lm (.int v :: rest)) → W p l e R s m args below meth c H locs cells slots Q (F0 m pc lm rest))
    (hv : Int32.ofNat en.2.1 = v) (hs : sx_i0 en ls st h = some (t, ls1, st1, h1)) (kk : t = none → sx_At p l e R s m args below meth c Q nL w cl ra n0 z0 (pc + len) ls1 st1 h1) : sx_At p l e R s m args below meth c Q nL w cl ra n0 z0 pc ls st h := by
  unfold sx_i0 at hs
  cases hs
  rw [hv] at kk
  exact fun a1 a2 H locs lm hH hS hL => row (kk rfl a1 a2 H locs lm hH hS hL)
theorem sx_w_iload (hs : sx_i1 en ls st h = some (t, ls1, st1, h1)) {len : Nat} (row : ∀ {H : Heap} {locs : List Loc} {cells slots : Nat} {lm : Array Slot} {rest : List Value} {x : Int32}, lm[en.2.1]? = some (.val (.int x)) → W p l e R s m args below meth c H locs cells slots Q (F0 m (pc + len) lm (.int x :: rest)) → W p l e R s m args below meth c H locs cells slots Q (F0 m pc lm rest))
    (kk : t = none → sx_At p l e R s m args below meth c Q nL w cl ra n0 z0 (pc + len) ls1 st1 h1) : sx_At p l e R s m args below meth c Q nL w cl ra n0 z0 pc ls st h := by
  unfold sx_i1 at hs
  split at hs
  · next x hx =>
    cases hs
    exact fun a1 a2 H locs lm hH hS hL => row (hL.at hx) (kk rfl a1 a2 H locs lm hH hS hL)
  · cases hs
theorem sx_w_aload (hs : sx_i2 en ls st h = some (t, ls1, st1, h1)) {len : Nat} (row : ∀ {H : Heap} {locs : List Loc} {cells slots : Nat} {lm : Array Slot} {rest : List Value} {x : Nat}, lm[en.2.1]? = some (.val (.ref x)) → W p l e R s m args below meth c H locs cells slots Q (F0 m (pc + len) lm (.ref x :: rest)) → W p l e R s m args below meth c H locs cells slots Q (F0 m pc lm rest))
    (kk : t = none → sx_At p l e R s m args below meth c Q nL w cl ra n0 z0 (pc + len) ls1 st1 h1) : sx_At p l e R s m args below meth c Q nL w cl ra n0 z0 pc ls st h := by
  unfold sx_i2 at hs
  split at hs
  · next x hx =>
    cases hs
    intro a1 a2 H locs lm hH hS hL
    have h9 := hL.at hx
    have k9 := kk rfl a1 a2 H locs lm hH hS hL
    cases x with
    | zero => exact row h9 k9
    | succ x => exact row h9 k9
  · cases hs
theorem sx_w_istore (hs : sx_i3 en ls st h = some (t, ls1, st1, h1)) {len : Nat} (row : ∀ {H : Heap} {locs : List Loc} {cells slots : Nat} {lm : Array Slot} {rest : List Value} {x : Int32} {lv : List (Nat × Value)}, lv_has lm nL lv → (∀ lm' : Array Slot, lv_has lm' nL ((en.2.1, Value.int x) :: lv.filter (fun q => !(q.1 == en.2.1) && !(q.1 + 1 == en.2.1 && q.2.category == 2))) → W p l e R s m args below meth c H locs cells slots Q (F0 m (pc + len) lm' rest)) → W p l e R s m args below meth c H locs cells slots Q (F0 m pc lm (.int x :: rest)))
    (kk : t = none → sx_At p l e R s m args below meth c Q nL w cl ra n0 z0 (pc + len) ls1 st1 h1) : sx_At p l e R s m args below meth c Q nL w cl ra n0 z0 pc ls st h := by
  unfold sx_i3 at hs
  split at hs
  · cases hs
    intro a1 a2 H locs lm hH hS hL
    exact row hL (fun lm' h' => kk rfl a1 a2 H locs lm' hH hS (sx_LR.st (v := .int _) h'))
  · cases hs
theorem sx_w_astore (hs : sx_i4 en ls st h = some (t, ls1, st1, h1)) {len : Nat} (row : ∀ {H : Heap} {locs : List Loc} {cells slots : Nat} {lm : Array Slot} {rest : List Value} {x : Nat} {lv : List (Nat × Value)}, lv_has lm nL lv → (∀ lm' : Array Slot, lv_has lm' nL ((en.2.1, Value.ref x) :: lv.filter (fun q => !(q.1 == en.2.1) && !(q.1 + 1 == en.2.1 && q.2.category == 2))) → W p l e R s m args below meth c H locs cells slots Q (F0 m (pc + len) lm' rest)) → W p l e R s m args below meth c H locs cells slots Q (F0 m pc lm (.ref x :: rest)))
    (kk : t = none → sx_At p l e R s m args below meth c Q nL w cl ra n0 z0 (pc + len) ls1 st1 h1) : sx_At p l e R s m args below meth c Q nL w cl ra n0 z0 pc ls st h := by
  unfold sx_i4 at hs
  split at hs
  · next x r =>
    cases hs
    intro a1 a2 H locs lm hH hS hL
    cases x with
    | zero => exact row hL (fun lm' h' => kk rfl a1 a2 H locs lm' hH hS (sx_LR.st (v := .ref 0) h'))
    | succ x => exact row hL (fun lm' h' => kk rfl a1 a2 H locs lm' hH hS (sx_LR.st (v := .ref (x + 1)) h'))
  · cases hs
theorem sx_w_iinc (hs : sx_i5 en ls st h = some (t, ls1, st1, h1)) (hx : p.tables.exec = Jvm.exec) (hb : c.code = cc) {n : Int} (hn : Int32.ofInt n = Int32.ofNat en.2.2.1) (hd : decode cc pc = .ok (.iinc en.2.1 n, 3))
    (kk : t = none → sx_At p l e R s m args below meth c Q nL w cl ra n0 z0 (pc + 3) ls1 st1 h1) : sx_At p l e R s m args below meth c Q nL w cl ra n0 z0 pc ls st h := by
  unfold sx_i5 at hs
  split at hs
  · next x hx2 =>
    cases hs
    intro a1 a2 H locs lm hH hS hL
    have hm := sx_lk_mem hx2
    obtain ⟨k, hk⟩ := List.getElem?_of_mem hm
    refine lv_iinc (k := k) (v := x + Int32.ofNat en.2.2.1) hx hb hd hL (by rw [List.getElem?_map, hk]; rfl) (by rw [hn]) (hL.lt hx2) rfl (fun lm' h' => ?_)
    exact kk rfl a1 a2 H locs lm' hH hS (sx_LR.st (v := .int _) h')
  · cases hs
theorem sx_w_pop (hs : sx_i6 en ls st h = some (t, ls1, st1, h1)) (hx : p.tables.exec = Jvm.exec) (hb : c.code = cc) (hd : decode cc pc = .ok (.pop, 1))
    (kk : t = none → sx_At p l e R s m args below meth c Q nL w cl ra n0 z0 (pc + 1) ls1 st1 h1) : sx_At p l e R s m args below meth c Q nL w cl ra n0 z0 pc ls st h := by
  unfold sx_i6 at hs
  split at hs
  · next v r =>
    cases hq : Nat.beq v.category 1 with
    | false => rw [hq] at hs; cases hs
    | true =>
      rw [hq] at hs
      cases hs
      intro a1 a2 H locs lm hH hS hL
      exact lv_pop hx hb hd (by rw [sx_v_cat]; exact Nat.eq_of_beq_eq_true hq) (kk rfl a1 a2 H locs lm hH hS hL)
  · cases hs
theorem sx_w_dup (hs : sx_i7 en ls st h = some (t, ls1, st1, h1)) (hx : p.tables.exec = Jvm.exec) (hb : c.code = cc) (hd : decode cc pc = .ok (.dup, 1))
    (kk : t = none → sx_At p l e R s m args below meth c Q nL w cl ra n0 z0 (pc + 1) ls1 st1 h1) : sx_At p l e R s m args below meth c Q nL w cl ra n0 z0 pc ls st h := by
  unfold sx_i7 at hs
  split at hs
  · next v r =>
    cases hq : Nat.beq v.category 1 with
    | false => rw [hq] at hs; cases hs
    | true =>
      rw [hq] at hs
      cases hs
      intro a1 a2 H locs lm hH hS hL
      exact lv_dup hx hb hd (by rw [sx_v_cat]; exact Nat.eq_of_beq_eq_true hq) (kk rfl a1 a2 H locs lm hH hS hL)
  · cases hs
theorem sx_w_dup2 (hs : sx_i8 en ls st h = some (t, ls1, st1, h1)) (hx : p.tables.exec = Jvm.exec) (hb : c.code = cc) (hd : decode cc pc = .ok (.dup2, 1))
    (kk : t = none → sx_At p l e R s m args below meth c Q nL w cl ra n0 z0 (pc + 1) ls1 st1 h1) : sx_At p l e R s m args below meth c Q nL w cl ra n0 z0 pc ls st h := by
  unfold sx_i8 at hs
  split at hs
  · next v u r =>
    cases hq : (Nat.beq v.category 1 && Nat.beq u.category 1) with
    | false => rw [hq] at hs; cases hs
    | true =>
      rw [hq] at hs
      cases hs
      rw [Bool.and_eq_true] at hq
      intro a1 a2 H locs lm hH hS hL
      exact lv_dup2_11 hx hb hd (by rw [sx_v_cat]; exact Nat.eq_of_beq_eq_true hq.1) (by rw [sx_v_cat]; exact Nat.eq_of_beq_eq_true hq.2) (kk rfl a1 a2 H locs lm hH hS hL)
  · cases hs
theorem sx_w_bin {f : Int32 → Int32 → Int32} (hs : sx_bin f en ls st h = some (t, ls1, st1, h1)) (row : ∀ {H : Heap} {locs : List Loc} {cells slots : Nat} {lm : Array Slot} {rest : List Value} {x y : Int32}, W p l e R s m args below meth c H locs cells slots Q (F0 m (pc + 1) lm (.int (f x y) :: rest)) → W p l e R s m args below meth c H locs cells slots Q (F0 m pc lm (.int y :: .int x :: rest)))
    (kk : t = none → sx_At p l e R s m args below meth c Q nL w cl ra n0 z0 (pc + 1) ls1 st1 h1) : sx_At p l e R s m args below meth c Q nL w cl ra n0 z0 pc ls st h := by
  unfold sx_bin at hs
  split at hs
  · cases hs
    exact fun a1 a2 H locs lm hH hS hL => row (kk rfl a1 a2 H locs lm hH hS hL)
  · cases hs
theorem sx_w_div {f : Int32 → Int32 → Int32} (hs : sx_div f en ls st h = some (t, ls1, st1, h1)) (row : ∀ {H : Heap} {locs : List Loc} {cells slots : Nat} {lm : Array Slot} {rest : List Value} {x y : Int32}, ¬ y = 0 → W p l e R s m args below meth c H locs cells slots Q (F0 m (pc + 1) lm (.int (f x y) :: rest)) → W p l e R s m args below meth c H locs cells slots Q (F0 m pc lm (.int y :: .int x :: rest)))
    (kk : t = none → sx_At p l e R s m args below meth c Q nL w cl ra n0 z0 (pc + 1) ls1 st1 h1) : sx_At p l e R s m args below meth c Q nL w cl ra n0 z0 pc ls st h := by
  unfold sx_div at hs
  split at hs
  · split at hs
    · cases hs
    · next hne =>
      cases hs
      exact fun a1 a2 H locs lm hH hS hL => row hne (kk rfl a1 a2 H locs lm hH hS hL)
  · cases hs
theorem sx_w_i2l (hs : sx_i20 en ls st h = some (t, ls1, st1, h1)) (hx : p.tables.exec = Jvm.exec) (hb : c.code = cc) (hd : decode cc pc = .ok (.i2l, 1))
    (kk : t = none → sx_At p l e R s m args below meth c Q nL w cl ra n0 z0 (pc + 1) ls1 st1 h1) : sx_At p l e R s m args below meth c Q nL w cl ra n0 z0 pc ls st h := by
  unfold sx_i20 at hs
  split at hs
  · cases hs
    exact fun a1 a2 H locs lm hH hS hL => lv_i2l hx hb hd rfl (kk rfl a1 a2 H locs lm hH hS hL)
  · cases hs
theorem sx_w_i2b (hs : sx_i21 en ls st h = some (t, ls1, st1, h1)) (hx : p.tables.exec = Jvm.exec) (hb : c.code = cc) (hd : decode cc pc = .ok (.i2b, 1))
    (kk : t = none → sx_At p l e R s m args below meth c Q nL w cl ra n0 z0 (pc + 1) ls1 st1 h1) : sx_At p l e R s m args below meth c Q nL w cl ra n0 z0 pc ls st h := by
  unfold sx_i21 at hs
  split at hs
  · cases hs
    exact fun a1 a2 H locs lm hH hS hL => lv_i2b hx hb hd rfl (kk rfl a1 a2 H locs lm hH hS hL)
  · cases hs
theorem sx_w_lcmp (hs : sx_i22 en ls st h = some (t, ls1, st1, h1)) (hx : p.tables.exec = Jvm.exec) (hb : c.code = cc) (hd : decode cc pc = .ok (.lcmp, 1))
    (kk : t = none → sx_At p l e R s m args below meth c Q nL w cl ra n0 z0 (pc + 1) ls1 st1 h1) : sx_At p l e R s m args below meth c Q nL w cl ra n0 z0 pc ls st h := by
  unfold sx_i22 at hs
  split at hs
  · cases hs
    exact fun a1 a2 H locs lm hH hS hL => W.lcmp hx hb hd (kk rfl a1 a2 H locs lm hH hS hL)
  · cases hs
theorem sx_w_if1 {f : Int32 → Bool} {tgt : Nat} (hs : sx_if1 f en ls st h = some (t, ls1, st1, h1)) (row : ∀ {H : Heap} {locs : List Loc} {cells slots : Nat} {lm : Array Slot} {rest : List Value} {x : Int32}, (f x = true → W p l e R s m args below meth c H locs cells slots Q (F0 m tgt lm rest)) → (f x = false → W p l e R s m args below meth c H locs cells slots Q (F0 m (pc + 3) lm rest)) → W p l e R s m args below meth c H locs cells slots Q (F0 m pc lm (.int x :: rest)))
    (kk : t = none → sx_At p l e R s m args below meth c Q nL w cl ra n0 z0 (pc + 3) ls1 st1 h1) (kt : t = some en.2.1 → sx_At p l e R s m args below meth c Q nL w cl ra n0 z0 tgt ls1 st1 h1) : sx_At p l e R s m args below meth c Q nL w cl ra n0 z0 pc ls st h := by
  unfold sx_if1 at hs
  split at hs
  · next x r =>
    cases hf : f x with
    | true =>
      rw [hf] at hs
      cases hs
      exact fun a1 a2 H locs lm hH hS hL => row (fun _ => kt rfl a1 a2 H locs lm hH hS hL) (fun q => by rw [hf] at q; cases q)
    | false =>
      rw [hf] at hs
      cases hs
      exact fun a1 a2 H locs lm hH hS hL => row (fun q => by rw [hf] at q; cases q) (fun _ => kk rfl a1 a2 H locs lm hH hS hL)
  · cases hs
theorem sx_w_if2 {f : Int32 → Int32 → Bool} {tgt : Nat} (hs : sx_if2 f en ls st h = some (t, ls1, st1, h1)) (row : ∀ {H : Heap} {locs : List Loc} {cells slots : Nat} {lm : Array Slot} {rest : List Value} {x y : Int32}, (f x y = true → W p l e R s m args below meth c H locs cells slots Q (F0 m tgt lm rest)) → (f x y = false → W p l e R s m args below meth c H locs cells slots Q (F0 m (pc + 3) lm rest)) → W p l e R s m args below meth c H locs cells slots Q (F0 m pc lm (.int y :: .int x :: rest)))
    (kk : t = none → sx_At p l e R s m args below meth c Q nL w cl ra n0 z0 (pc + 3) ls1 st1 h1) (kt : t = some en.2.1 → sx_At p l e R s m args below meth c Q nL w cl ra n0 z0 tgt ls1 st1 h1) : sx_At p l e R s m args below meth c Q nL w cl ra n0 z0 pc ls st h := by
  unfold sx_if2 at hs
  split at hs
  · next y x r =>
    cases hf : f x y with
    | true =>
      rw [hf] at hs
      cases hs
      exact fun a1 a2 H locs lm hH hS hL => row (fun _ => kt rfl a1 a2 H locs lm hH hS hL) (fun q => by rw [hf] at q; cases q)
    | false =>
      rw [hf] at hs
      cases hs
      exact fun a1 a2 H locs lm hH hS hL => row (fun q => by rw [hf] at q; cases q) (fun _ => kk rfl a1 a2 H locs lm hH hS hL)
  · cases hs
theorem sx_w_goto {tgt : Nat} (hs : sx_i35 en ls st h = some (t, ls1, st1, h1)) (hx : p.tables.exec = Jvm.exec) (hb : c.code = cc) {off : Int} (hd : decode cc pc = .ok (.goto off, 3)) (ht : (pc : Int) + off = (tgt : Int))
    (kt : t = some en.2.1 → sx_At p l e R s m args below meth c Q nL w cl ra n0 z0 tgt ls1 st1 h1) : sx_At p l e R s m args below meth c Q nL w cl ra n0 z0 pc ls st h := by
  unfold sx_i35 at hs
  cases hs
  exact fun a1 a2 H locs lm hH hS hL => lv_goto hx hb hd ht (kt rfl a1 a2 H locs lm hH hS hL)
end SXO
