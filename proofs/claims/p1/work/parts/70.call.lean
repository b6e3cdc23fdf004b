/-! ===== calls ===== -/
theorem sx_args_eq : ∀ (n : Nat) (st a as rest : List Value), sx_args n st a = some (as, rest) → ∃ pre : List Value, st = pre ++ rest ∧ pre.length = n ∧ as = pre.reverse ++ a := by
  intro n
  induction n with
  | zero =>
    intro st a as rest h
    have h : some (a, st) = some (as, rest) := h
    cases h
    exact ⟨[], rfl, rfl, rfl⟩
  | succ n ih =>
    intro st a as rest h
    cases st with
    | nil => cases h
    | cons v r =>
      have h : sx_args n r (v :: a) = some (as, rest) := h
      obtain ⟨pre, h1, h2, h3⟩ := ih r (v :: a) as rest h
      exact ⟨v :: pre, by rw [h1]; rfl, by rw [← h2]; rfl, by rw [h3, List.reverse_cons, List.append_assoc]; rfl⟩
/-- a method at the machine: its name, its bytes, what it answers, its handlers -/
abbrev sx_Inf : Type := MethodName × ByteArray × Option FieldType × List (Nat × Nat × Nat × Nat)
def sx_mAt (q : sx_Inf) (nL : Nat) (s : State) (m : MethodId) (meth : Method) (c : Code) : Prop := s.methodNamed? q.1 = some m ∧ s.vm.method? m = some meth ∧ meth.code = some c ∧ c.code = q.2.1 ∧ c.maxLocals = nL ∧ c.exceptionTable.toList = tableOf q.2.2.2 ∧ meth.sig.returnType = q.2.2.1 ∧ meth.locks = false ∧ parseMethodDescriptor q.1.desc = some meth.sig ∧ meth.name = q.1.name
def sx_cw (Ts : List Cond) (q : sx_Inf) (nL : Nat) : Prop := q.2.2.2 = [] ∧ Cond.code q.1 q.2.1 nL q.2.2.1 ∈ Ts ∨ Cond.codeWith q.1 q.2.1 nL q.2.2.1 q.2.2.2 ∈ Ts
theorem sx_mAt_of {Ts : List Cond} {q : sx_Inf} {nL : Nat} {s : State} {args : Array Value} (hw : sx_cw Ts q nL) (hts : ∀ x ∈ Ts, x.before args s = true) : ∃ m meth c, sx_mAt q nL s m meth c := by
  rcases hw with ⟨h0, h1⟩ | h1
  · have h2 := hts _ h1
    obtain ⟨m, hn⟩ := Cond.code_named h2
    obtain ⟨meth, c, a1, a2, a3, a4, a5, a6, a7, a8⟩ := Cond.code_spec hn h2
    refine ⟨m, meth, c, hn, a1, a2, a3, a4, ?_, a5, a6, a8, (name_of_methodNamed hn a1).1⟩
    rw [h0]
    have : c.exceptionTable = #[] := by simpa using a7
    rw [this]; rfl
  · obtain ⟨m, meth, c, hn, a1, a2, a3, a4, a7, a5, a6, a8⟩ := Cond.codeWith_spec (hts _ h1)
    refine ⟨m, meth, c, hn, a1, a2, a3, a4, ?_, a5, a6, a8, (name_of_methodNamed hn a1).1⟩
    rw [← a7, table_eq]
theorem sx_plainM {s U : State} (hW : s.WarmedH U.vm) {x : MethodName} {mk : MethodId} {methk : Method} (h1 : s.methodNamed? x = some mk) (h2 : s.vm.method? mk = some methk) (hp : plainName x.cls = true ∨ (NativeRow.find? Jvm.natives x.cls x.name x.desc).isNone = true) : U.plainMethod mk := by
  obtain ⟨kP, hkP, hkPn⟩ := className_of_methodNamed h1
  rcases hp with hp | hp
  · exact hW.plainAt (fun k h9 => by cases hkP.symm.trans h9; rw [hkPn]; exact hp)
  · intro k hk
    obtain ⟨n1, n2⟩ := name_of_methodNamed h1 h2
    have h3 : U.vm.method? mk = some methk := by rw [hW.alike.method?]; exact h2
    have h4 : k.methods[mk.idx]? = some methk := by
      simp only [Vm.method?, hk, Option.bind_eq_bind, Option.bind_some] at h3
      exact h3
    obtain ⟨k₀, hk₀, he⟩ := hW.alike.symm.2.2 _ _ hk
    have hn : k.name = x.cls := by
      cases hkP.symm.trans hk₀
      rw [← hkPn, he]
    rw [Bool.or_eq_true]
    refine Or.inr ?_
    unfold rowless
    rw [h4]
    dsimp only
    rw [hn, n1, n2]
    exact hp
/-- the words of a call: o 56 a virtual one, 57 a constructor's, 58 a static one -/
def sx_vok (Ts : List Cond) (own : String) (o idx : Nat) (q : sx_Inf) (nL n : Nat) : Prop := (q.1.cls ≠ "java/lang/invoke/MethodHandle" ∧ q.1.cls ≠ "java/lang/invoke/VarHandle") ∧ (plainName q.1.cls = true ∨ (NativeRow.find? Jvm.natives q.1.cls q.1.name q.1.desc).isNone = true) ∧
  (o = 56 ∧ (parseMethodDescriptor q.1.desc).map (fun d => d.parameters.length + 1) = some n ∧ Cond.methodLink own idx q.1 ∈ Ts ∧ Cond.instanceMethod q.1 ∈ Ts ∧ Cond.selects q.1.cls q.1 q.1 ∈ Ts ∨
   o = 57 ∧ (parseMethodDescriptor q.1.desc).map (fun d => d.parameters.length + 1) = some n ∧ q.1.name = "<init>" ∧ q.2.2.1 = none ∧ Cond.code q.1 q.2.1 nL none ∈ Ts ∧ Cond.instanceMethod q.1 ∈ Ts ∧ (Cond.methodLink own idx q.1 ∈ Ts ∨ ∃ host : String, Cond.methodLinkNest own idx q.1 host ∈ Ts) ∨
   o = 58 ∧ (parseMethodDescriptor q.1.desc).map (fun d => d.parameters.length) = some n ∧ Cond.methodLink own idx q.1 ∈ Ts ∧ Cond.static q.1 ∈ Ts ∧ Cond.initialized q.1.cls ∈ Ts)
def sx_inv (o idx : Nat) : Instr := if o = 56 then .invokevirtual idx else if o = 57 then .invokespecial idx else .invokestatic idx
section SXC
variable {p : Program} {l : Launch} {e : Env} {R : Room} {s : State} {m : MethodId} {args : Array Value} {below : List Frame} {meth : Method} {c : Code} {cc : ByteArray} {own : String} {Ts : List Cond} {w : sx_Wd} {cl : List vw_C} {ra : List Nat} {T : State} {locs : List Loc} {cells slots : Nat}
set_option maxHeartbeats 1000000 in
theorem sx_invoke (X : Stand p l e R s m args below meth c T locs cells slots) (hx : p.tables.exec = Jvm.exec) (hb : c.code = cc) (hown : s.vm.findClass own = some m.cls) (hts : ∀ x ∈ Ts, x.before args s = true) (hK : sx_KR w cl ra s) {h : sx_H} (hH : sx_HR w cl ra h T.heap)
    {o idx nL n ci : Nat} {q : sx_Inf} (hok : sx_vok Ts own o idx q nL n) {mk : MethodId} {methk : Method} {ck : Code} (hk : sx_mAt q nL s mk methk ck) (hz9 : o = 56 → ∃ z : vw_C, cl[ci]? = some z ∧ z.1 = q.1.cls) {as rest : List Value} (hn : as.length = n) (hr : sx_recv o ci h as = true)
    {pc : Nat} {lm : Array Slot} (hd : decode cc pc = .ok (sx_inv o idx, 3)) :
    ∃ vm₁ : Vm, Stand p l e R s m args below meth c (T.setVm vm₁) locs cells slots ∧ ∀ target, (∀ acts, Steps p.tables e below (doInvoke e ((T.setVm vm₁).setTop (F0 m pc lm rest)) acts mk (as.map (sx_v w)).toArray).1 target) → Steps p.tables e below (T.setTop (F0 m pc lm ((as.map (sx_v w)).reverse ++ rest))) target := by
  obtain ⟨k1, k2, k3, k4, k5, k6, k7, k8, k9, k10⟩ := hk
  obtain ⟨hy, hpn, hok⟩ := hok
  rcases hok with ⟨rfl, hlen, hl, hin, hse⟩ | ⟨rfl, hlen, hnm, hret, hcode, hin, hl⟩ | ⟨rfl, hlen, hl, hst, hini⟩
  · obtain ⟨z, hz, hzc⟩ := hz9 rfl
    rw [k9] at hlen
    have hlen : methk.sig.parameters.length + 1 = n := Option.some.inj hlen
    cases as with
    | nil => cases hr
    | cons v as =>
      have hr2 : (match sx_arr h v with | some (_, .inl o) => Nat.beq o.1 ci | _ => false) = true := hr
      split at hr2
      · next k9a o9 ha =>
        obtain ⟨rfl, hg⟩ := sx_arr_eq ha
        have ho := Nat.eq_of_beq_eq_true hr2
        obtain ⟨⟨r', g1, cell, g2, g3, g4, -⟩, -⟩ := hH.2.2 _ _ hg
        obtain ⟨mk2, methM, hnamed, hmethM, hstM, habM⟩ := Cond.instanceMethod_spec (hts _ hin)
        cases k1.symm.trans hnamed
        cases k2.symm.trans hmethM
        obtain ⟨c2, r2, m2, q1, q2, q3, q4, kP, hkP, hkPi⟩ := Cond.selects_spec (hts _ hse)
        have hcls : s.vm.findClass q.1.cls = some cell.cls := by
          rw [g3]
          show _ = some (w.2.2.2.2.1 o9.1)
          rw [ho, ← hzc]
          exact (hK.1.1 _ _ hz).2.1
        cases hcls.symm.trans q1
        cases (State.methodFound?_of_named k1 hy).symm.trans q2
        cases k1.symm.trans q3
        have hselP : selectMethod e.platform s.vm cell.cls mk = .method mk := by rw [Launch.admits_selectMethod X.admits]; exact q4
        obtain ⟨vm₁, X₁, hstep⟩ := X.invokevirtual hx hown (hts _ hl) k1 k2 hstM hkP hkPi hy (a := w.2.1 + k9a) (cell := cell) g2 (fun z9 h9 => by rw [g4] at h9; cases h9) hselP k2 habM hkP hkPi (g := F0 m pc lm (((Value.ref (k9a + 1) :: as).map (sx_v w)).reverse ++ rest)) rfl (argsL := as.map (sx_v w)) (rest := rest)
          (by rw [List.length_map]; have : as.length + 1 = n := hn; omega) (by rw [List.map_cons, List.reverse_cons, List.append_assoc]; rfl) (by rw [hb]; exact hd)
        exact ⟨vm₁, X₁, hstep⟩
      · cases hr2
  · rw [k9] at hlen
    have hlen : methk.sig.parameters.length + 1 = n := Option.some.inj hlen
    cases as with
    | nil => cases hr
    | cons v as =>
      have hr2 : (match sx_arr h v with | some (_, .inl o) => Nat.beq o.1 ci | _ => false) = true := hr
      split at hr2
      · next k9a o9 ha =>
        obtain ⟨rfl, hg⟩ := sx_arr_eq ha
        have hpl : e.platform.magicAccessors = ({} : Platform).magicAccessors := by rw [X.admits.platform]
        have hl9 : ∀ sig, parseMethodDescriptor q.1.desc = some sig → (as.map (sx_v w)).length = sig.parameters.length := fun sig h9 => by
          rw [k9] at h9
          cases h9
          rw [List.length_map]
          have : as.length + 1 = n := hn
          omega
        rcases hl with hl | ⟨host, hl⟩
        · obtain ⟨mk2, methM, cM, kP, vm₁, hnamed, -, -, -, -, -, -, -, hW₁, hstep⟩ := Steps.initColdArgs (e := e) X.here hx X.warmed hpl hown hnm hy (hts _ hl) (hts _ hin) (hts _ hcode) (f := F0 m pc lm (((Value.ref (k9a + 1) :: as).map (sx_v w)).reverse ++ rest)) rfl (a := w.2.1 + k9a) (argsL := as.map (sx_v w)) (rest := rest) hl9
            (by rw [List.map_cons, List.reverse_cons, List.append_assoc]; rfl) (by rw [hb]; exact hd)
          cases k1.symm.trans hnamed
          exact ⟨vm₁, X.noted hW₁, hstep⟩
        · obtain ⟨mk2, methM, cM, kP, vm₁, hnamed, -, -, -, -, -, -, -, hW₁, hstep⟩ := Steps.initColdArgsNest (e := e) X.here hx X.warmed hpl hown hnm hy (hts _ hl) (hts _ hin) (hts _ hcode) (f := F0 m pc lm (((Value.ref (k9a + 1) :: as).map (sx_v w)).reverse ++ rest)) rfl (a := w.2.1 + k9a) (argsL := as.map (sx_v w)) (rest := rest) hl9
            (by rw [List.map_cons, List.reverse_cons, List.append_assoc]; rfl) (by rw [hb]; exact hd)
          cases k1.symm.trans hnamed
          exact ⟨vm₁, X.noted hW₁, hstep⟩
      · cases hr2
  · rw [k9] at hlen
    have hlen : methk.sig.parameters.length = n := Option.some.inj hlen
    have hstatic : methk.isStatic = true := Cond.static_spec k1 k2 (hts _ hst)
    obtain ⟨kP, hkP, -⟩ := className_of_methodNamed k1
    have hinitP : kP.init = .initialized := Cond.initialized_spec (findClass_of_methodNamed k1) hkP (hts _ hini)
    obtain ⟨vm₁, X₁, hstep⟩ := X.invokestatic hx hown (hts _ hl) k1 k2 hstatic hkP hinitP hy (g := F0 m pc lm ((as.map (sx_v w)).reverse ++ rest)) rfl (argsL := as.map (sx_v w)) (rest := rest) (by rw [List.length_map]; omega) rfl (by rw [hb]; exact hd)
    exact ⟨vm₁, X₁, hstep⟩
end SXC
