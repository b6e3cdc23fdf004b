/-! ===== what a method's table must keep to, and the simulation ===== -/
/-- how an instruction falls through -/
def sx_nx (cd : List (List sx_N)) (i : Nat) (en : sx_N) (len : Nat) : Prop := en.2.2.2.2.1 = len ∧ ∀ e1, sx_at cd (i + 1) = some e1 → e1.2.2.2.1 = en.2.2.2.1 + len
/-- where it goes to -/
def sx_tg (cd : List (List sx_N)) (en : sx_N) (off : Int) : Prop := ∃ e1, sx_at cd en.2.1 = some e1 ∧ (en.2.2.2.1 : Int) + off = (e1.2.2.2.1 : Int)
/-- the static side of a method: the words, the classes, arrays' classes, new objects, its class, its name, its needs -/
abbrev sx_Sd : Type := List Cond × List vw_C × List Nat × (Nat → List Value) × String × String × Nat × Nat
def sx_bop (o : Nat) (i : Instr) : Prop := (o, i) ∈ ([(6, .pop), (7, .dup), (8, .dup2), (9, .iadd), (10, .isub), (11, .imul), (12, .iand), (13, .ior), (14, .ixor), (15, .ishl), (16, .ishr), (17, .iushr), (18, .idiv), (19, .irem), (20, .i2l), (21, .i2b), (22, .lcmp), (37, .arraylength), (38, .iaload), (39, .baload), (40, .laload), (41, .aaload), (42, .iastore), (43, .bastore), (44, .lastore), (45, .aastore)] : List (Nat × Instr))
def sx_if (o : Nat) (i : Instr) (off : Int) : Prop := (o, i) ∈ ([(23, .ifCond .eq off), (24, .ifCond .ne off), (25, .ifCond .lt off), (26, .ifCond .ge off), (27, .ifCond .gt off), (28, .ifCond .le off), (29, .if_icmp .eq off), (30, .if_icmp .ne off), (31, .if_icmp .lt off), (32, .if_icmp .ge off), (33, .if_icmp .gt off), (34, .if_icmp .le off)] : List (Nat × Instr))
/-- a plain instruction's entry is right -/
def sx_pl (q : sx_Sd) (cd : List (List sx_N)) (i : Nat) (en : sx_N) : Prop :=
  (en.1 = 0 ∧ ((∃ n, en.2.2.2.2.2 = .iconst n ∧ Int32.ofInt n = Int32.ofNat en.2.1 ∧ sx_nx cd i en 1) ∨ (∃ n, en.2.2.2.2.2 = .bipush n ∧ (Int8.ofInt n).toInt32 = Int32.ofNat en.2.1 ∧ sx_nx cd i en 2) ∨ (∃ n, en.2.2.2.2.2 = .sipush n ∧ (Int16.ofInt n).toInt32 = Int32.ofNat en.2.1 ∧ sx_nx cd i en 3) ∨
      (∃ k, en.2.2.2.2.2 = .ldc k ∧ Cond.constant q.2.2.2.2.1 k (Int32.ofNat en.2.1) ∈ q.1 ∧ sx_nx cd i en 2) ∨ (∃ k, en.2.2.2.2.2 = .ldc_w k ∧ Cond.constant q.2.2.2.2.1 k (Int32.ofNat en.2.1) ∈ q.1 ∧ sx_nx cd i en 3))) ∨
  (en.1 = 1 ∧ ((en.2.2.2.2.2 = .iload en.2.1 ∧ sx_nx cd i en 2) ∨ ∃ k : Fin 4, en.2.2.2.2.2 = .iload_n k ∧ k.val = en.2.1 ∧ sx_nx cd i en 1)) ∨
  (en.1 = 2 ∧ ((en.2.2.2.2.2 = .aload en.2.1 ∧ sx_nx cd i en 2) ∨ ∃ k : Fin 4, en.2.2.2.2.2 = .aload_n k ∧ k.val = en.2.1 ∧ sx_nx cd i en 1)) ∨
  (en.1 = 3 ∧ ((en.2.2.2.2.2 = .istore en.2.1 ∧ sx_nx cd i en 2) ∨ ∃ k : Fin 4, en.2.2.2.2.2 = .istore_n k ∧ k.val = en.2.1 ∧ sx_nx cd i en 1)) ∨
  (en.1 = 4 ∧ ((en.2.2.2.2.2 = .astore en.2.1 ∧ sx_nx cd i en 2) ∨ ∃ k : Fin 4, en.2.2.2.2.2 = .astore_n k ∧ k.val = en.2.1 ∧ sx_nx cd i en 1)) ∨
  (en.1 = 5 ∧ ∃ n, en.2.2.2.2.2 = .iinc en.2.1 n ∧ Int32.ofInt n = Int32.ofNat en.2.2.1 ∧ sx_nx cd i en 3) ∨
  (sx_bop en.1 en.2.2.2.2.2 ∧ sx_nx cd i en 1) ∨
  (∃ off, sx_if en.1 en.2.2.2.2.2 off ∧ sx_nx cd i en 3 ∧ sx_tg cd en off) ∨
  (en.1 = 35 ∧ ∃ off, en.2.2.2.2.2 = .goto off ∧ en.2.2.2.2.1 = 3 ∧ sx_tg cd en off) ∨
  (en.1 = 36 ∧ ∃ d lo hi offs, en.2.2.2.2.2 = .tableswitch d lo hi offs) ∨
  (en.1 = 46 ∧ ∃ k, en.2.2.2.2.2 = .getfield k ∧ sx_fok q.1 q.2.1 q.2.2.2.2.1 k en.2.1 en.2.2.1 ∧ sx_nx cd i en 3) ∨
  (en.1 = 47 ∧ ∃ k, en.2.2.2.2.2 = .putfield k ∧ sx_pok q.1 q.2.1 q.2.2.2.2.1 q.2.2.2.2.2.1 k en.2.1 (en.2.2.1 % 1000) (en.2.2.1 / 1000) ∧ sx_nx cd i en 3) ∨
  (en.1 = 48 ∧ ∃ k, en.2.2.2.2.2 = .new k ∧ sx_nok q.1 q.2.1 q.2.2.2.1 q.2.2.2.2.1 k en.2.1 ∧ (∀ v ∈ q.2.2.2.1 en.2.1, v = .null ∨ v = .int 0) ∧ sx_nx cd i en 3) ∨
  (en.1 = 49 ∧ en.2.2.2.2.2 = .newarray .int ∧ Cond.arrayClass .int ∈ q.1 ∧ sx_nx cd i en 2) ∨
  (en.1 = 50 ∧ en.2.2.2.2.2 = .newarray .boolean ∧ Cond.arrayClass .boolean ∈ q.1 ∧ sx_nx cd i en 2) ∨
  (en.1 = 51 ∧ en.2.2.2.2.2 = .newarray .byte ∧ Cond.arrayClass .byte ∈ q.1 ∧ sx_nx cd i en 2) ∨
  (en.1 = 52 ∧ en.2.2.2.2.2 = .newarray .long ∧ Cond.arrayClass .long ∈ q.1 ∧ sx_nx cd i en 2) ∨
  (en.1 = 53 ∧ ∃ k z, en.2.2.2.2.2 = .anewarray k ∧ q.2.1[en.2.1]? = some z ∧ en.2.1 ∈ q.2.2.1 ∧ Cond.classLink q.2.2.2.2.1 k z.1 ∈ q.1 ∧ Cond.arrayOver (.object z.1) ∈ q.1 ∧ sx_nx cd i en 3) ∨
  (en.1 = 54 ∧ ∃ k, en.2.2.2.2.2 = .invokespecial k ∧ 1 ≤ q.2.2.2.2.2.2.1 ∧ 20 ≤ q.2.2.2.2.2.2.2 ∧ Cond.methodLink q.2.2.2.2.1 k Lib.objectInit ∈ q.1 ∧ Cond.instanceMethod Lib.objectInit ∈ q.1 ∧ Cond.code Lib.objectInit ⟨#[0xb1]⟩ 1 none ∈ q.1 ∧ sx_nx cd i en 3) ∨
  (en.1 = 55 ∧ ∃ k, en.2.2.2.2.2 = .invokestatic k ∧ 1 ≤ q.2.2.2.2.2.2.1 ∧ 8 + (nativeFrameWords "java/lang/System" "arraycopy" 5 + 11) ≤ q.2.2.2.2.2.2.2 ∧ Cond.methodLink q.2.2.2.2.1 k arraycopyName ∈ q.1 ∧ Cond.native arraycopyName ∈ q.1 ∧ Cond.static arraycopyName ∈ q.1 ∧ Cond.initialized "java/lang/System" ∈ q.1 ∧ sx_nx cd i en 3)
section SXP
variable {p : Program} {l : Launch} {e : Env} {R : Room} {s : State} {m : MethodId} {args : Array Value} {below : List Frame} {meth : Method} {c : Code} {Q : State → Prop} {cc : ByteArray} {nL : Nat} {q : sx_Sd} {w : sx_Wd} {S : List Int32} {lim : Nat × Nat} {n0 z0 : Nat}
variable {ls ls1 : sx_L} {st st1 : List Value} {h h1 : sx_H} {t : Option Nat} {en e1 : sx_N} {cd : List (List sx_N)} {i : Nat}
set_option maxHeartbeats 4000000 in
theorem sx_w_plain (E : sx_Ev p R s m args c cc nL q.2.2.2.2.1 q.1 w q.2.1 q.2.2.1 S lim n0 z0 q.2.2.2.2.2.2.1 q.2.2.2.2.2.2.2) (hmn : meth.name = q.2.2.2.2.2.1) (hrw : ∀ r ∈ cd, r.length ≤ 16) (hnl : en.1 = 3 ∨ en.1 = 4 → en.2.1 < nL) (hok : sx_pl q cd i en) (hd : decode cc en.2.2.2.1 = .ok (en.2.2.2.2.2, en.2.2.2.2.1)) (hs : sx_step lim q.2.2.2.1 S cd en.1 en ls st h = some (t, ls1, st1, h1))
    (he1 : sx_at cd (t.getD (i + 1)) = some e1) (K : sx_At p l e R s m args below meth c Q nL w q.2.1 q.2.2.1 n0 z0 e1.2.2.2.1 ls1 st1 h1) : sx_At p l e R s m args below meth c Q nL w q.2.1 q.2.2.1 n0 z0 en.2.2.2.1 ls st h := by
  obtain ⟨hx, hb, hml, hown, hts, -⟩ := id E
  have hts := sx_now (args := args) hts
  have nx : ∀ {len : Nat}, sx_nx cd i en len → decode cc en.2.2.2.1 = .ok (en.2.2.2.2.2, len) ∧ (t = none → sx_At p l e R s m args below meth c Q nL w q.2.1 q.2.2.1 n0 z0 (en.2.2.2.1 + len) ls1 st1 h1) := fun hn => ⟨by rw [← hn.1]; exact hd, fun ht => by
    subst ht
    rw [← hn.2 e1 he1]
    exact K⟩
  have tg : ∀ {e2 : sx_N}, sx_at cd en.2.1 = some e2 → t = some en.2.1 → sx_At p l e R s m args below meth c Q nL w q.2.1 q.2.2.1 n0 z0 e2.2.2.2.1 ls1 st1 h1 := fun hg ht => by
    subst ht
    cases he1.symm.trans hg
    exact K
  unfold sx_pl at hok
  rcases hok with ⟨o, h⟩ | ⟨o, h⟩ | ⟨o, h⟩ | ⟨o, h⟩ | ⟨o, h⟩ | ⟨o, n, h1', h2, h3⟩ | ⟨o, h2⟩ | ⟨off, o, h2, h3⟩ | ⟨o, off, h2, h3, h4⟩ | ⟨o, d, lo, hi, offs, h2⟩ | ⟨o, k, h2, h3, h4⟩ | ⟨o, k, h2, h3, h4⟩ | ⟨o, k, h2, h3, h4, h5⟩ | ⟨o, h2, h3, h4⟩ | ⟨o, h2, h3, h4⟩ | ⟨o, h2, h3, h4⟩ | ⟨o, h2, h3, h4⟩ | ⟨o, k, z, h2, h3, h4, h5, h6, h7⟩ | ⟨o, k, h2, h3, h4, h5, h6, h7, h8⟩ | ⟨o, k, h2, h3, h4, h5, h6, h7, h8, h9⟩
  · rw [o] at hs
    have hs : sx_i0 en ls st _ = some _ := hs
    rcases h with ⟨n, h2, h3, h4⟩ | ⟨n, h2, h3, h4⟩ | ⟨n, h2, h3, h4⟩ | ⟨k, h2, h3, h4⟩ | ⟨k, h2, h3, h4⟩
    · obtain ⟨g1, g2⟩ := nx h4; rw [h2] at g1
      exact sx_w_push E (fun k9 => lv_iconst hx hb g1 h3 k9) rfl hs g2
    · obtain ⟨g1, g2⟩ := nx h4; rw [h2] at g1
      exact sx_w_push E (fun k9 => lv_bipush hx hb g1 h3 k9) rfl hs g2
    · obtain ⟨g1, g2⟩ := nx h4; rw [h2] at g1
      exact sx_w_push E (fun k9 => lv_sipush hx hb g1 h3 k9) rfl hs g2
    · obtain ⟨g1, g2⟩ := nx h4; rw [h2] at g1
      exact sx_w_push E (fun k9 => lv_ldc hx hb hown (hts _ h3) g1 k9) rfl hs g2
    · obtain ⟨g1, g2⟩ := nx h4; rw [h2] at g1
      exact sx_w_push E (fun k9 => lv_ldcw hx hb hown (hts _ h3) g1 k9) rfl hs g2
  · rw [o] at hs
    have hs : sx_i1 en ls st _ = some _ := hs
    rcases h with ⟨h2, h4⟩ | ⟨k, h2, h3, h4⟩
    · obtain ⟨g1, g2⟩ := nx h4; rw [h2] at g1
      exact sx_w_iload hs (fun a9 k9 => lv_iload hx hb g1 a9 k9) g2
    · obtain ⟨g1, g2⟩ := nx h4; rw [h2] at g1
      exact sx_w_iload hs (fun a9 k9 => lv_iload_n hx hb g1 h3 a9 k9) g2
  · rw [o] at hs
    have hs : sx_i2 en ls st _ = some _ := hs
    rcases h with ⟨h2, h4⟩ | ⟨k, h2, h3, h4⟩
    · obtain ⟨g1, g2⟩ := nx h4; rw [h2] at g1
      exact sx_w_aload hs (fun a9 k9 => lv_aload hx hb g1 a9 k9) g2
    · obtain ⟨g1, g2⟩ := nx h4; rw [h2] at g1
      exact sx_w_aload hs (fun a9 k9 => lv_aload_n hx hb g1 h3 a9 k9) g2
  · have hlt := hnl (Or.inl o)
    rw [o] at hs
    have hs : sx_i3 en ls st _ = some _ := hs
    rcases h with ⟨h2, h4⟩ | ⟨k, h2, h3, h4⟩
    · obtain ⟨g1, g2⟩ := nx h4; rw [h2] at g1
      exact sx_w_istore hs (fun a9 k9 => lv_istore hx hb g1 a9 hlt rfl k9) g2
    · obtain ⟨g1, g2⟩ := nx h4; rw [h2] at g1
      exact sx_w_istore hs (fun a9 k9 => lv_istore_n hx hb g1 h3 a9 hlt rfl k9) g2
  · have hlt := hnl (Or.inr o)
    rw [o] at hs
    have hs : sx_i4 en ls st _ = some _ := hs
    rcases h with ⟨h2, h4⟩ | ⟨k, h2, h3, h4⟩
    · obtain ⟨g1, g2⟩ := nx h4; rw [h2] at g1
      exact sx_w_astore hs (fun a9 k9 => lv_astore hx hb g1 a9 hlt rfl k9) g2
    · obtain ⟨g1, g2⟩ := nx h4; rw [h2] at g1
      exact sx_w_astore hs (fun a9 k9 => lv_astore_n hx hb g1 h3 a9 hlt rfl k9) g2
  · rw [o] at hs
    have hs : sx_i5 en ls st _ = some _ := hs
    obtain ⟨g1, g2⟩ := nx h3; rw [h1'] at g1
    exact sx_w_iinc hs hx hb h2 g1 g2
  · obtain ⟨g1, g2⟩ := nx h2
    unfold sx_bop at o
    generalize hI : en.2.2.2.2.2 = I at o g1
    generalize hO : en.1 = O at o hs
    simp only [List.mem_cons, List.not_mem_nil, or_false, Prod.mk.injEq] at o
    rcases o with ⟨rfl, rfl⟩ | ⟨rfl, rfl⟩ | ⟨rfl, rfl⟩ | ⟨rfl, rfl⟩ | ⟨rfl, rfl⟩ | ⟨rfl, rfl⟩ | ⟨rfl, rfl⟩ | ⟨rfl, rfl⟩ | ⟨rfl, rfl⟩ | ⟨rfl, rfl⟩ | ⟨rfl, rfl⟩ | ⟨rfl, rfl⟩ | ⟨rfl, rfl⟩ | ⟨rfl, rfl⟩ | ⟨rfl, rfl⟩ | ⟨rfl, rfl⟩ | ⟨rfl, rfl⟩ | ⟨rfl, rfl⟩ | ⟨rfl, rfl⟩ | ⟨rfl, rfl⟩ | ⟨rfl, rfl⟩ | ⟨rfl, rfl⟩ | ⟨rfl, rfl⟩ | ⟨rfl, rfl⟩ | ⟨rfl, rfl⟩ | ⟨rfl, rfl⟩
    · exact sx_w_pop (en := en) hs hx hb g1 g2
    · exact sx_w_dup (en := en) hs hx hb g1 g2
    · exact sx_w_dup2 (en := en) hs hx hb g1 g2
    · exact sx_w_bin (en := en) (f := fun x y => x + y) hs (fun k9 => lv_iadd hx hb g1 k9) g2
    · exact sx_w_bin (en := en) (f := fun x y => x - y) hs (fun k9 => lv_isub hx hb g1 k9) g2
    · exact sx_w_bin (en := en) (f := fun x y => x * y) hs (fun k9 => lv_imul hx hb g1 k9) g2
    · exact sx_w_bin (en := en) (f := fun x y => x &&& y) hs (fun k9 => lv_iand hx hb g1 k9) g2
    · exact sx_w_bin (en := en) (f := fun x y => x ||| y) hs (fun k9 => lv_ior hx hb g1 k9) g2
    · exact sx_w_bin (en := en) (f := fun x y => x ^^^ y) hs (fun k9 => lv_ixor hx hb g1 k9) g2
    · exact sx_w_bin (en := en) (f := fun x y => x <<< (y &&& 31)) hs (fun k9 => lv_ishl hx hb g1 k9) g2
    · exact sx_w_bin (en := en) (f := fun x y => x >>> (y &&& 31)) hs (fun k9 => lv_ishr hx hb g1 k9) g2
    · exact sx_w_bin (en := en) (f := fun x y => (x.toUInt32 >>> (y.toUInt32 &&& Int32.toUInt32 31)).toInt32) hs (fun k9 => lv_iushr hx hb g1 rfl k9) g2
    · exact sx_w_div (en := en) (f := fun x y => x / y) hs (fun n9 k9 => lv_idiv hx hb g1 n9 k9) g2
    · exact sx_w_div (en := en) (f := fun x y => x - x / y * y) hs (fun n9 k9 => lv_irem hx hb g1 n9 k9) g2
    · exact sx_w_i2l (en := en) hs hx hb g1 g2
    · exact sx_w_i2b (en := en) hs hx hb g1 g2
    · exact sx_w_lcmp (en := en) hs hx hb g1 g2
    · exact sx_w_alen (en := en) E hs g1 g2
    · exact sx_w_iald (en := en) E hs g1 g2
    · exact sx_w_bald (en := en) E hs g1 g2
    · exact sx_w_lald (en := en) E hs g1 g2
    · exact sx_w_aald (en := en) E hs g1 g2
    · exact sx_w_iast (en := en) E hs g1 g2
    · exact sx_w_bast (en := en) E hs g1 g2
    · exact sx_w_last (en := en) E hs g1 g2
    · exact sx_w_aast (en := en) E hs g1 g2
  · obtain ⟨g1, g2⟩ := nx h2
    obtain ⟨e2, g5, g4⟩ := h3
    have g3 := tg g5
    unfold sx_if at o
    generalize hI : en.2.2.2.2.2 = I at o g1
    generalize hO : en.1 = O at o hs
    simp only [List.mem_cons, List.not_mem_nil, or_false, Prod.mk.injEq] at o
    rcases o with ⟨rfl, rfl⟩ | ⟨rfl, rfl⟩ | ⟨rfl, rfl⟩ | ⟨rfl, rfl⟩ | ⟨rfl, rfl⟩ | ⟨rfl, rfl⟩ | ⟨rfl, rfl⟩ | ⟨rfl, rfl⟩ | ⟨rfl, rfl⟩ | ⟨rfl, rfl⟩ | ⟨rfl, rfl⟩ | ⟨rfl, rfl⟩
    · exact sx_w_if1 (en := en) (f := fun x => decide (x = 0)) hs (fun kt kf => lv_if_eq hx hb g1 g4 (fun h9 => kt (decide_eq_true h9)) (fun h9 => kf (decide_eq_false h9))) g2 g3
    · exact sx_w_if1 (en := en) (f := fun x => decide (¬ x = 0)) hs (fun kt kf => lv_if_ne hx hb g1 g4 (fun h9 => kt (decide_eq_true h9)) (fun h9 => kf (decide_eq_false (fun h8 => h8 h9)))) g2 g3
    · exact sx_w_if1 (en := en) (f := fun x => decide (x < 0)) hs (fun kt kf => lv_if_lt hx hb g1 g4 (fun h9 => kt (decide_eq_true h9)) (fun h9 => kf (decide_eq_false h9))) g2 g3
    · exact sx_w_if1 (en := en) (f := fun x => decide (0 ≤ x)) hs (fun kt kf => lv_if_ge hx hb g1 g4 (fun h9 => kt (decide_eq_true h9)) (fun h9 => kf (decide_eq_false h9))) g2 g3
    · exact sx_w_if1 (en := en) (f := fun x => decide (0 < x)) hs (fun kt kf => lv_if_gt hx hb g1 g4 (fun h9 => kt (decide_eq_true h9)) (fun h9 => kf (decide_eq_false h9))) g2 g3
    · exact sx_w_if1 (en := en) (f := fun x => decide (x ≤ 0)) hs (fun kt kf => lv_if_le hx hb g1 g4 (fun h9 => kt (decide_eq_true h9)) (fun h9 => kf (decide_eq_false h9))) g2 g3
    · exact sx_w_if2 (en := en) (f := fun x y => decide (x = y)) hs (fun kt kf => lv_icmp_eq hx hb g1 g4 (fun h9 => kt (decide_eq_true h9)) (fun h9 => kf (decide_eq_false h9))) g2 g3
    · exact sx_w_if2 (en := en) (f := fun x y => decide (¬ x = y)) hs (fun kt kf => lv_icmp_ne hx hb g1 g4 (fun h9 => kt (decide_eq_true h9)) (fun h9 => kf (decide_eq_false (fun h8 => h8 h9)))) g2 g3
    · exact sx_w_if2 (en := en) (f := fun x y => decide (x < y)) hs (fun kt kf => lv_icmp_lt hx hb g1 g4 (fun h9 => kt (decide_eq_true h9)) (fun h9 => kf (decide_eq_false h9))) g2 g3
    · exact sx_w_if2 (en := en) (f := fun x y => decide (y ≤ x)) hs (fun kt kf => lv_icmp_ge hx hb g1 g4 (fun h9 => kt (decide_eq_true h9)) (fun h9 => kf (decide_eq_false h9))) g2 g3
    · exact sx_w_if2 (en := en) (f := fun x y => decide (y < x)) hs (fun kt kf => lv_icmp_gt hx hb g1 g4 (fun h9 => kt (decide_eq_true h9)) (fun h9 => kf (decide_eq_false h9))) g2 g3
    · exact sx_w_if2 (en := en) (f := fun x y => decide (x ≤ y)) hs (fun kt kf => lv_icmp_le hx hb g1 g4 (fun h9 => kt (decide_eq_true h9)) (fun h9 => kf (decide_eq_false h9))) g2 g3
  · rw [o] at hs
    have g1 := hd
    rw [h2, h3] at g1
    obtain ⟨e2, g5, g4⟩ := h4
    exact sx_w_goto (en := en) hs hx hb g1 g4 (tg g5)
  · rw [o] at hs
    refine sx_w_sw (en := en) hx hb hrw rfl hd hs (fun i9 en9 ht h9 => ?_)
    subst ht
    cases he1.symm.trans h9
    exact K
  · rw [o] at hs
    obtain ⟨g1, g2⟩ := nx h4; rw [h2] at g1
    exact sx_w_getf (en := en) E hs h3 g1 g2
  · rw [o] at hs
    obtain ⟨g1, g2⟩ := nx h4; rw [h2] at g1
    exact sx_w_putf (en := en) E hs hmn h3 g1 g2
  · rw [o] at hs
    obtain ⟨g1, g2⟩ := nx h5; rw [h2] at g1
    exact sx_w_new (en := en) E hs h3 (fun v hv => by rcases h4 v hv with rfl | rfl <;> rfl) g1 g2
  · rw [o] at hs
    obtain ⟨g1, g2⟩ := nx h4; rw [h2] at g1
    exact sx_w_nar (en := en) (k := 0) (ty := .int) E (by decide) rfl rfl rfl (by decide) h3 hs g1 (fun h9 => h9) g2
  · rw [o] at hs
    obtain ⟨g1, g2⟩ := nx h4; rw [h2] at g1
    exact sx_w_nar (en := en) (k := 1) (ty := .boolean) E (by decide) rfl rfl rfl (by decide) h3 hs g1 (fun h9 => h9) g2
  · rw [o] at hs
    obtain ⟨g1, g2⟩ := nx h4; rw [h2] at g1
    exact sx_w_nar (en := en) (k := 2) (ty := .byte) E (by decide) rfl rfl rfl (by decide) h3 hs g1 (fun h9 => h9) g2
  · rw [o] at hs
    obtain ⟨g1, g2⟩ := nx h4; rw [h2] at g1
    exact sx_w_narL (en := en) E h3 hs g1 g2
  · rw [o] at hs
    obtain ⟨g1, g2⟩ := nx h7; rw [h2] at g1
    exact sx_w_anew (en := en) E h3 h4 h5 h6 hs g1 g2
  · rw [o] at hs
    obtain ⟨g1, g2⟩ := nx h8; rw [h2] at g1
    exact sx_w_obj (en := en) E h3 h4 h5 h6 h7 hs g1 g2
  · rw [o] at hs
    obtain ⟨g1, g2⟩ := nx h9; rw [h2] at g1
    exact sx_w_copy (en := en) E h3 h4 h5 h6 h7 h8 hs g1 g2
end SXP
