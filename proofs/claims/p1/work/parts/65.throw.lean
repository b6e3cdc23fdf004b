/-! ===== a throw: the walk is begun anew at the point of the throw, so that all cells are known behind it ===== -/
theorem sx_hears {s U : State} (ha : s.vm.Alike U.vm) {m : MethodId} {below : List Frame} (h : s.hears m below = true) : U.hears m below = true := by
  have hm : ∀ x, U.vm.method? x = s.vm.method? x := fun x => ha.method? x
  have hc : ∀ x, U.code? x = s.code? x := fun x => by rw [State.code?_eq, State.code?_eq, hm]
  unfold State.hears at h ⊢
  split at h
  · rw [hc]; exact h
  · rfl
  · rfl
  · rw [hm]; exact h
section SXT
variable {p : Program} {l : Launch} {e : Env} {R : Room} {s : State} {m : MethodId} {args : Array Value} {below : List Frame} {meth : Method} {c : Code} {T : State} {locs : List Loc} {cells slots : Nat}
theorem sx_rebase (X : Stand p l e R s m args below meth c T locs cells slots) (hc : cells ≤ R.cells) (hz : slots ≤ R.slots) :
    Stand p l e ({ frames := R.frames, cells := R.cells - cells, slots := R.slots - slots, locals := R.locals } : Room) (T.setFrames (.invoking m args :: below)) m args below meth c T [] 0 0 := by
  obtain ⟨g₀, hfr⟩ := X.frames_eq
  have hcur : T.cur < T.threads.size := State.cur_lt_of_frames hfr
  have hf' : (T.setFrames (.invoking m args :: below)).frames = .invoking m args :: below := State.frames_setFrames _ hcur
  obtain ⟨t, ht, -⟩ := State.frames_cons hfr
  refine ⟨X.admits, X.cas, X.clock, hf', ?_, sx_hears (U := T.setFrames (.invoking m args :: below)) X.warmed.alike X.hears, X.method', X.code, X.here, X.tail, State.WarmedH.refl _, by rw [State.stackLimits_setFrames], by rw [State.stackBytes_setFrames], ?_⟩
  · have h0 := X.room
    have h1 := X.heapSize
    have h2 := X.used
    have h3 : (T.setFrames (.invoking m args :: below)).localsInUse = s.localsInUse := by
      rw [State.localsInUse_invoking hf' X.method' X.code, State.localsInUse_invoking X.frames X.method X.code]
    have h4 : (T.setFrames (.invoking m args :: below)).slotsTrue = true := X.book
    have h5 := X.limits
    have h6 := X.bytes
    simp only [State.hasRoom, Bool.and_eq_true, decide_eq_true_eq] at h0 ⊢
    obtain ⟨⟨⟨⟨q1, q2⟩, q3⟩, q4⟩, q5⟩ := h0
    rw [X.frames] at q2
    rw [hf', h3, State.stackLimits_setFrames, State.stackBytes_setFrames, h5, h6]
    refine ⟨⟨⟨⟨q1, q2⟩, ?_⟩, ?_⟩, h4⟩
    · show T.heap.size + (R.cells - cells) ≤ _
      omega
    · show T.slotsUsed + (R.slots - slots) ≤ _
      omega
  · have h := (State.sameButNew.refl T ht).setFrames (.invoking m args :: below) hcur
    have h' : (T.setFrames (.invoking m args :: below)).sameButNew T [] 0 0 := by
      have h9 := (State.sameButNew.refl (T.setFrames (.invoking m args :: below)) (x := { t with frames := .invoking m args :: below }) (by simp [State.setFrames, Array.getElem?_modify, ht])).setFrames T.frames (by simpa [State.setFrames] using hcur)
      rw [State.setFrames_setFrames, State.setFrames_self ht] at h9
      exact h9
    exact h'
/-- what the walk from there says, said from the method's start -/
theorem sx_rebase_same (X : Stand p l e R s m args below meth c T locs cells slots) {U : State} {L : List Loc} {k n : Nat} (h : (T.setFrames (.invoking m args :: below)).sameButNew ({ U with vm := T.vm } : State) L k n) : s.sameButNew ({ U with vm := s.vm } : State) (locs ++ L) (cells + k) (slots + n) := by
  obtain ⟨g₀, hfr⟩ := X.frames_eq
  have hcur : T.cur < T.threads.size := State.cur_lt_of_frames hfr
  obtain ⟨t, ht, -⟩ := State.frames_cons hfr
  have h1 := (State.sameButNew.refl (T.setVm s.vm) (x := t) ht).setFrames (.invoking m args :: below) hcur
  have h2 : ((T.setFrames (.invoking m args :: below)).setVm s.vm).sameButNew ({ U with vm := s.vm } : State) L k n := h.setVm s.vm
  have h3 : (T.setVm s.vm).sameButNew ({ U with vm := s.vm } : State) ([] ++ L) (0 + k) (0 + n) := h1.trans h2
  have h4 := X.same.trans h3
  simpa using h4
end SXT
