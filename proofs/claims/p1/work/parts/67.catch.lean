/-! ===== a catch, its classes resolved at the search ===== -/
/-- the search of the frame's table ends at h, and leaves these tables -/
def sx_Fd (e : Env) (s : State) (f : JFrame) (a : Addr) (t : List ExceptionTableEntry) (hd : Handler) (vm' : Vm) : Prop := ∀ (Q : Handler → Pre) (E : CtlPost) (d : Bool) (acts : List Action), wp (findHandler.go f a t) Q E e d acts s ↔ Q hd d acts (s.setVm vm')
theorem sx_go_cold {e : Env} {s : State} {f : JFrame} {a : Addr} {x : ExceptionTableEntry} {t : List ExceptionTableEntry} {c : ClassId} {cell : Cell} {vm' : Vm} (hx : covers x f.pc = true) (h0 : x.catchType ≠ 0)
    (hg : (Jvm.resolveClass f.method.cls x.catchType).Gives e.toSetting s.vm (.ok c) vm') (hsz : vm'.classes.size ≤ s.vm.classes.size) (hcell : s.heap[a]? = some cell) (hobj : ∀ k, cell.vm ≠ .statics k)
    (hk : ∃ k, vm'.classes[cell.cls]? = some k) (hc : ∃ k, vm'.classes[c]? = some k) {Q : Handler → Pre} {E : CtlPost} {d : Bool} {acts : List Action} :
    wp (findHandler.go f a (x :: t)) Q E e d acts s ↔ if vm'.assignable cell.cls c = true then Q (.found x.handlerPc) d acts (s.setVm vm') else wp (findHandler.go f a t) Q E e d acts (s.setVm vm') := by
  obtain ⟨ha, ht⟩ := hg.op (op := VmOp.resolveClass f.method.cls x.catchType) rfl
  simp only [covers] at hx
  cases hfit : vm'.assignable cell.cls c <;>
    simp [findHandler.go, hx, h0, ha, ht, hsz, hcell, hobj, hk, hc, hfit, VmOp.dirties, VmOp.acts]
theorem sx_notCast {A : Array Value} {U : State} {X Y : String} {cX cY : ClassId} (h : (Cond.not (.castable X Y)).before A U = true) (hX : U.vm.findClass X = some cX) (hY : U.vm.findClass Y = some cY) : U.vm.assignable cX cY = false := by
  simp only [Cond.before, Cond.holds, Cond.value, hX, hY] at h
  simpa using h
/-- SI's handlers beside the machine's: the same ranges, where to, the classes -/
def sx_hOK (Ts : List Cond) (cl : List vw_C) (cd : List (List sx_N)) (own : String) (hs : List (Nat × Nat × Nat × Nat)) (hm : List (Nat × Nat × Nat × Nat)) : Prop := hs.length = hm.length ∧ ∀ (k : Nat) (q u : Nat × Nat × Nat × Nat), hs[k]? = some q → hm[k]? = some u →
  u.1 = q.1 ∧ u.2.1 = q.2.1 ∧ (∃ en : sx_N, sx_at cd q.2.2.1 = some en ∧ en.2.2.2.1 = u.2.2.1) ∧ u.2.2.2 ≠ 0 ∧ ∃ z : vw_C, cl[q.2.2.2]? = some z ∧ Cond.classLink own u.2.2.2 z.1 ∈ Ts
/-- different exceptions are no one another's -/
def sx_xOK (Ts : List Cond) (cl : List vw_C) (hs : List (Nat × Nat × Nat × Nat)) (ci : Nat) : Prop := ∀ q ∈ hs, q.2.2.2 ≠ ci → ∃ y z : vw_C, cl[ci]? = some y ∧ cl[q.2.2.2]? = some z ∧ Cond.not (.castable y.1 z.1) ∈ Ts
theorem sx_search {e : Env} {s : State} {w : sx_Wd} {cl : List vw_C} {ra : List Nat} {Ts : List Cond} {own : String} {cd : List (List sx_N)} {f : JFrame} {a ci t : Nat} (hpl : e.platform.magicAccessors = ({} : Platform).magicAccessors) (hown : s.vm.findClass own = some f.method.cls) (hts : ∀ x ∈ Ts, sx_stays s w.2.1 x) (hK : sx_KR w cl ra s) {y : vw_C} (hy : cl[ci]? = some y) :
    ∀ (hs hm : List (Nat × Nat × Nat × Nat)), sx_hOK Ts cl cd own hs hm → sx_xOK Ts cl hs ci → sx_hand hs f.pc ci = some t → ∀ (V : State) (cell : Cell), s.WarmedH V.vm → V.heap[a]? = some cell → cell.cls = w.2.2.2.2.1 ci → cell.vm = .none → (∀ q : Nat, q < w.2.1 → V.heap[q]? = s.heap[q]?) →
      ∃ (vm' : Vm) (en : sx_N), s.WarmedH vm' ∧ sx_Fd e V f a (tableOf hm) (.found en.2.2.2.1) vm' ∧ sx_at cd t = some en := by
  intro hs
  induction hs with
  | nil => intro hm _ _ h; cases h
  | cons q hs ih =>
    intro hm hok hxk h V cell hW hcell hcls hvm hq
    cases hm with
    | nil => exact absurd hok.1 (by simp)
    | cons u hm =>
      obtain ⟨e1, e2, ⟨en, e3, e4⟩, e5, z, e6, e7⟩ := hok.2 0 q u rfl rfl
      have hok' : sx_hOK Ts cl cd own hs hm := ⟨by simpa using hok.1, fun k q' u' h1 h2 => hok.2 (k + 1) q' u' (by simpa using h1) (by simpa using h2)⟩
      have hxk' : sx_xOK Ts cl hs ci := fun q' h1 h2 => hxk q' (List.mem_cons_of_mem _ h1) h2
      have h : (bif Nat.ble q.1 f.pc && Nat.blt f.pc q.2.1 && Nat.beq q.2.2.2 ci then some q.2.2.1 else sx_hand hs f.pc ci) = some t := h
      cases hc : (Nat.ble q.1 f.pc && Nat.blt f.pc q.2.1) with
      | false =>
        rw [hc] at h
        obtain ⟨vm', en', g1, g2, g3⟩ := ih hm hok' hxk' h V cell hW hcell hcls hvm hq
        refine ⟨vm', en', g1, fun Q E d acts => ?_, g3⟩
        have hx : covers (⟨u.1, u.2.1, u.2.2.1, u.2.2.2⟩ : ExceptionTableEntry) f.pc = false := by
          show (decide (u.1 ≤ f.pc) && decide (f.pc < u.2.1)) = false
          rw [e1, e2]
          rw [Bool.and_eq_false_iff] at hc ⊢
          rcases hc with hc | hc
          · exact Or.inl (by rw [decide_eq_false_iff_not]; intro h9; rw [Nat.ble_eq.mpr h9] at hc; cases hc)
          · exact Or.inr (by rw [decide_eq_false_iff_not]; intro h9; rw [Nat.blt_eq.mpr h9] at hc; cases hc)
        show wp (findHandler.go f a (_ :: tableOf hm)) Q E e d acts V ↔ _
        rw [W.findHandler_go_skip hx]
        exact g2 Q E d acts
      | true =>
        have hx : covers (⟨u.1, u.2.1, u.2.2.1, u.2.2.2⟩ : ExceptionTableEntry) f.pc = true := by
          show (decide (u.1 ≤ f.pc) && decide (f.pc < u.2.1)) = true
          rw [e1, e2]
          rw [Bool.and_eq_true] at hc ⊢
          exact ⟨by rw [decide_eq_true_eq]; exact Nat.le_of_ble_eq_true hc.1, by rw [decide_eq_true_eq]; exact Nat.blt_eq.mp hc.2⟩
        have hnow := sx_now (args := #[]) hts
        obtain ⟨cz, hfz, hcl⟩ := Cond.classLink_spec (args := #[]) (first := s) (o := none) (idx := []) hown (hnow _ e7) e.platform hpl
        obtain ⟨hg1, hw1, hr1⟩ := State.classEntry (e := e) hW hcl
        have hczK := hK.1.1 _ _ e6
        have hcz : cz = w.2.2.2.2.1 q.2.2.2 := Option.some.inj (hfz.symm.trans hczK.2.1)
        subst hcz
        have hyK := hK.1.1 _ _ hy
        obtain ⟨ky, hky, -⟩ := hyK.2.2
        obtain ⟨kz, hkz, -⟩ := hczK.2.2
        have hal := hw1.alike
        have hk1 : ∃ k, (V.vm.noted f.method.cls u.2.2.2 (.cls (w.2.2.2.2.1 q.2.2.2))).classes[cell.cls]? = some k := by
          obtain ⟨k', h1, -⟩ := hal.2.2 _ _ hky
          exact ⟨k', by rw [hcls]; exact h1⟩
        have hk2 : ∃ k, (V.vm.noted f.method.cls u.2.2.2 (.cls (w.2.2.2.2.1 q.2.2.2))).classes[w.2.2.2.2.1 q.2.2.2]? = some k := by
          obtain ⟨k', h1, -⟩ := hal.2.2 _ _ hkz
          exact ⟨k', h1⟩
        rw [hc] at h
        cases hci : Nat.beq q.2.2.2 ci with
        | true =>
          rw [hci] at h
          have h : some q.2.2.1 = some t := h
          cases h
          have hci := Nat.eq_of_beq_eq_true hci
          refine ⟨_, en, hw1, fun Q E d acts => ?_, e3⟩
          show wp (findHandler.go f a (_ :: tableOf hm)) Q E e d acts V ↔ _
          rw [sx_go_cold hx e5 hg1 (by no_record) hcell (fun k h9 => by rw [hvm] at h9; cases h9) hk1 hk2, if_pos, e4]
          rw [hcls, hci]
          exact va_assign (s := V.setVm (V.vm.noted f.method.cls u.2.2.2 (.cls (w.2.2.2.2.1 ci)))) (C := y.1) (by rw [hci] at hal; exact classAt_moved hal hyK.2)
        | false =>
          rw [hci] at h
          have hne : q.2.2.2 ≠ ci := Nat.ne_of_beq_eq_false hci
          obtain ⟨y', z', hy', hz', hnc⟩ := hxk q List.mem_cons_self hne
          cases hy.symm.trans hy'
          cases e6.symm.trans hz'
          obtain ⟨vm', en', g1, g2, g3⟩ := ih hm hok' hxk' h (V.setVm (V.vm.noted f.method.cls u.2.2.2 (.cls (w.2.2.2.2.1 q.2.2.2)))) cell hw1 hcell hcls hvm hq
          refine ⟨vm', en', g1, fun Q E d acts => ?_, g3⟩
          show wp (findHandler.go f a (_ :: tableOf hm)) Q E e d acts V ↔ _
          rw [sx_go_cold hx e5 hg1 (by no_record) hcell (fun k h9 => by rw [hvm] at h9; cases h9) hk1 hk2, if_neg]
          · exact g2 Q E d acts
          · have h1 := hts _ hnc (V.setVm (V.vm.noted f.method.cls u.2.2.2 (.cls (w.2.2.2.2.1 q.2.2.2)))) #[] hw1 hq
            have h2 := sx_notCast (cX := w.2.2.2.2.1 ci) (cY := w.2.2.2.2.1 q.2.2.2) h1 (by show (V.vm.noted _ _ _).findClass _ = _; rw [hal.findClass]; exact hyK.2.1) (by show (V.vm.noted _ _ _).findClass _ = _; rw [hal.findClass]; exact hczK.2.1)
            rw [hcls]
            intro h3
            have h2 : (V.vm.noted f.method.cls u.2.2.2 (.cls (w.2.2.2.2.1 q.2.2.2))).assignable (w.2.2.2.2.1 ci) (w.2.2.2.2.1 q.2.2.2) = false := h2
            rw [h2] at h3
            cases h3
