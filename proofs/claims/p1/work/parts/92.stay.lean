/-! ===== the words stay: from the law's entry on, under warmer tables and as long as nothing that was there is written ===== -/
theorem sx_st_face {s U : State} {A A' : Array Value} {c : Cond} (hW : s.WarmedH U.vm) (ht : c.onTables = true) (hk : c.keepsFace = true) (h : c.before A s = true) : c.before A' U = true := by
  have h1 := Cond.before_shiftedFace (State.Shifted.of_warmed hW) c hk h
  rw [Cond.onTables_vm (A' := A') (U' := U) U.vm c ht] at h1
  rwa [State.setVm_self] at h1
theorem sx_st_fln {s U : State} {A A' : Array Value} (hW : s.WarmedH U.vm) {a b n d h : String} {i : Nat} (hh : (Cond.fieldLinkNest a i b n d h).before A s = true) : (Cond.fieldLinkNest a i b n d h).before A' U = true := by
  have h1 := Cond.fieldLinkNest_warmed hW hh
  rw [Cond.onTables_vm (A' := A') (U' := U) U.vm _ rfl] at h1
  rwa [State.setVm_self] at h1
theorem sx_st_mln {s U : State} {A A' : Array Value} (hW : s.WarmedH U.vm) {a h : String} {x : MethodName} {i : Nat} (hh : (Cond.methodLinkNest a i x h).before A s = true) : (Cond.methodLinkNest a i x h).before A' U = true := by
  have h1 := Cond.methodLinkNest_warmed hW hh
  rw [Cond.onTables_vm (A' := A') (U' := U) U.vm _ rfl] at h1
  rwa [State.setVm_self] at h1
theorem sx_st_str {s U : State} {A A' : Array Value} (hW : s.WarmedH U.vm) {a t : String} {i : Nat} (hh : (Cond.stringRef a i t).before A s = true) : (Cond.stringRef a i t).before A' U = true := by
  have h1 : (Cond.stringRef a i t).before A (s.setVm U.vm) = true := Cond.stringRef_warmed hW hh
  exact h1
theorem sx_st_nc {s U : State} {A A' : Array Value} (hW : s.WarmedH U.vm) {a b : String} (hh : (Cond.not (.castable a b)).before A s = true) : (Cond.not (.castable a b)).before A' U = true := by
  have hal := hW.alike
  cases ha : s.vm.findClass a with
  | none => simp [Cond.before, Cond.holds, Cond.value, ha] at hh
  | some ca =>
    cases hb : s.vm.findClass b with
    | none => simp [Cond.before, Cond.holds, Cond.value, ha, hb] at hh
    | some cb =>
      have h1 := sx_notCast hh ha hb
      have ha' : U.vm.findClass a = some ca := by rw [hal.findClass]; exact ha
      have hb' : U.vm.findClass b = some cb := by rw [hal.findClass]; exact hb
      have h2 : U.vm.assignable ca cb = false := by
        rw [← h1]
        exact hal.assignable ca cb
      simp [Cond.before, Cond.holds, Cond.value, ha', hb', h2]
theorem sx_st_ls {s U : State} {A A' : Array Value} (hW : s.WarmedH U.vm) (hq : ∀ q : Nat, q < s.heap.size → U.heap[q]? = s.heap[q]?) {a n d : String} (hh : (Cond.laysStatic a n d).before A s = true) : (Cond.laysStatic a n d).before A' U = true := by
  have h1 : (Cond.laysStatic a n d).before A (s.setVm U.vm) = true := Cond.before_shiftedFace (State.Shifted.of_warmed hW) _ rfl hh
  obtain ⟨c, k, i, f, ad, cell, e1, e2, e3, e4, e5, e6, e7, e8, e9⟩ := Cond.laysStatic_spec h1
  have e1 : U.vm.findClass a = some c := e1
  have e2 : U.fieldFound? a n d = some (c, k, i, f) := e2
  have e5 : s.heap[ad]? = some cell := e5
  have e5' : U.heap[ad]? = some cell := by rw [hq ad (Array.getElem?_eq_some_iff.mp e5).1]; exact e5
  simp [Cond.before, Cond.holds, Cond.value, e1, e2, e3, e4, e5', e6, e7, e8, e9]
theorem sx_st_rs {s U : State} {A A' : Array Value} (hW : s.WarmedH U.vm) (hq : ∀ q : Nat, q < s.heap.size → U.heap[q]? = s.heap[q]?) {a n d : String} (hl : (Cond.laysStatic a n d).before A s = true) (hh : (Cond.isRef (.static a n d)).before A s = true) : (Cond.isRef (.static a n d)).before A' U = true := by
  have h1 : (Cond.laysStatic a n d).before A (s.setVm U.vm) = true := Cond.before_shiftedFace (State.Shifted.of_warmed hW) _ rfl hl
  have h2 : (Cond.isRef (.static a n d)).before A (s.setVm U.vm) = true := Cond.before_shiftedFace (State.Shifted.of_warmed hW) _ rfl hh
  obtain ⟨c, k, i, f, ad, cell, e1, e2, e3, e4, e5, e6, e7, e8, e9⟩ := Cond.laysStatic_spec h1
  have e2' : U.fieldFound? a n d = some (c, k, i, f) := e2
  have e5 : s.heap[ad]? = some cell := e5
  have e5' : U.heap[ad]? = some cell := by rw [hq ad (Array.getElem?_eq_some_iff.mp e5).1]; exact e5
  have hev : (Term.static a n d).eval A' U none [] U = (Term.static a n d).eval A (s.setVm U.vm) none [] (s.setVm U.vm) := by
    have e5s : (s.setVm U.vm).heap[ad]? = some cell := e5
    simp [Term.eval, State.fieldNamed?, e2, e2', e3, e4, e5', e5]
  simp only [Cond.before, Cond.holds, Cond.value] at h2 ⊢
  rw [hev]
  exact h2
