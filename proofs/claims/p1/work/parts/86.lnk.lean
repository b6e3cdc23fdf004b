/-! ===== links, checked by computing ===== -/
theorem sx_lg_mem {l : List (List Cond)} {r : Nat} {x : Cond} (h : x ∈ sx_lg [] l r) : x ∈ l.flatten := by
  induction l generalizing r with
  | nil => cases r <;> cases h
  | cons a l ih =>
    rw [List.flatten_cons]
    cases r with
    | zero => exact List.mem_append_left _ h
    | succ r => exact List.mem_append_right _ (ih h)
theorem sxw_mem {q : Nat × Nat} {x : Cond} (h : sxw q = some x) : x ∈ sxTs := by
  unfold sxw at h
  rw [sx_lo_eq] at h
  exact sx_lg_mem (List.mem_of_getElem? h)
/-- this word stands at this place -/
noncomputable def sxwB (q : Nat × Nat) (x : Cond) : Bool := decide (sxw q = some x)
theorem sxwB_mem {q : Nat × Nat} {x : Cond} (h : sxwB q x = true) : x ∈ sxTs := sxw_mem (of_decide_eq_true h)
noncomputable def sxCwf (a : Nat) : (Nat × Nat) × (Nat × Nat) × (Nat × Nat) := sx_lg ((99, 0), (99, 0), (99, 0)) sxCw a
/-- a method as others call it -/
def sx_cal (a : Nat) (N : sx_Mt) (kd n : Nat) : Prop :=
  ((sxI a).1.cls ≠ "java/lang/invoke/MethodHandle" ∧ (sxI a).1.cls ≠ "java/lang/invoke/VarHandle") ∧ (plainName (sxI a).1.cls = true ∨ (NativeRow.find? Jvm.natives (sxI a).1.cls (sxI a).1.name (sxI a).1.desc).isNone = true) ∧ sx_cw sxTs (sxI a) N.1 ∧ n ≤ N.1 ∧ (∃ e0 : sx_N, sx_at N.2.2.2.2 0 = some e0 ∧ e0.2.2.2.1 = 0) ∧
  (kd = 56 → (parseMethodDescriptor (sxI a).1.desc).map (fun d => d.parameters.length + 1) = some n ∧ Cond.instanceMethod (sxI a).1 ∈ sxTs ∧ Cond.selects (sxI a).1.cls (sxI a).1 (sxI a).1 ∈ sxTs ∧ ∃ z : vw_C, sxCl[N.2.1]? = some z ∧ z.1 = (sxI a).1.cls) ∧
  (kd = 57 → (parseMethodDescriptor (sxI a).1.desc).map (fun d => d.parameters.length + 1) = some n ∧ (sxI a).1.name = "<init>" ∧ (sxI a).2.2.1 = none ∧ Cond.code (sxI a).1 (sxI a).2.1 N.1 none ∈ sxTs ∧ Cond.instanceMethod (sxI a).1 ∈ sxTs) ∧
  (kd = 58 → (parseMethodDescriptor (sxI a).1.desc).map (fun d => d.parameters.length) = some n ∧ Cond.static (sxI a).1 ∈ sxTs ∧ Cond.initialized (sxI a).1.cls ∈ sxTs)
noncomputable def sx_cwB (w : Option Cond) (nL : Nat) : Bool := match w with
  | some (.code _ _ ml _) => Nat.beq ml nL
  | some (.codeWith _ _ ml _ _) => Nat.beq ml nL
  | _ => false
theorem sx_cwB_ok {a nL : Nat} (h : sx_cwB (sxw (sxM a).1) nL = true) : sx_cw sxTs (sxI a) nL := by
  unfold sx_cwB at h
  unfold sxI sx_inf
  split at h
  · next x b ml rt hw =>
    rw [hw]
    rw [← sx_pq h]
    exact Or.inl ⟨rfl, sxw_mem hw⟩
  · next x b ml rt hs hw =>
    rw [hw]
    rw [← sx_pq h]
    exact Or.inr (sxw_mem hw)
  · cases h
noncomputable def sx_calB (a : Nat) (N : sx_Mt) (x : MethodName) : Bool :=
  (decide (x.cls ≠ "java/lang/invoke/MethodHandle") && decide (x.cls ≠ "java/lang/invoke/VarHandle") && (plainName x.cls || (NativeRow.find? Jvm.natives x.cls x.name x.desc).isNone) && sx_cwB (sxw (sxM a).1) N.1 && Nat.ble (sxM a).2.2.2.2.1 N.1) && (match sx_at N.2.2.2.2 0 with
    | some e0 => Nat.beq e0.2.2.2.1 0
    | none => false) &&
  (bif Nat.beq (sxM a).2.2.2.1 56 then decide ((parseMethodDescriptor x.desc).map (fun d => d.parameters.length + 1) = some (sxM a).2.2.2.2.1) && sxwB (sxM a).2.2.2.2.2.2.2.1 (.instanceMethod x) && sxwB (sxM a).2.2.2.2.2.2.2.2 (.selects x.cls x x) && (match sxCl[N.2.1]? with
      | some z => decide (z.1 = x.cls)
      | none => false)
   else bif Nat.beq (sxM a).2.2.2.1 57 then decide ((parseMethodDescriptor x.desc).map (fun d => d.parameters.length + 1) = some (sxM a).2.2.2.2.1) && decide (x.name = "<init>") && (match sxw (sxM a).1 with
      | some (.code _ _ _ none) => true
      | _ => false) && sxwB (sxM a).2.2.2.2.2.2.2.1 (.instanceMethod x)
   else bif Nat.beq (sxM a).2.2.2.1 0 then true
   else Nat.beq (sxM a).2.2.2.1 58 && decide ((parseMethodDescriptor x.desc).map (fun d => d.parameters.length) = some (sxM a).2.2.2.2.1) && sxwB (sxM a).2.2.2.2.2.2.2.1 (.static x) && sxwB (sxM a).2.2.2.2.2.2.2.2 (.initialized x.cls))
theorem sx_calB_ok {a : Nat} {N : sx_Mt} (h : sx_calB a N (sxI a).1 = true) : sx_cal a N (sxM a).2.2.2.1 (sxM a).2.2.2.2.1 := by
  unfold sx_calB at h
  simp only [Bool.and_eq_true, decide_eq_true_eq, Bool.or_eq_true] at h
  obtain ⟨⟨⟨⟨⟨⟨h1, h2⟩, h3⟩, h4⟩, h5⟩, h6⟩, h7⟩ := h
  refine ⟨⟨h1, h2⟩, h3, sx_cwB_ok h4, Nat.le_of_ble_eq_true h5, ?_, ?_, ?_, ?_⟩
  · split at h6
    · next e0 he => exact ⟨e0, he, sx_pq h6⟩
    · cases h6
  · intro hk
    rw [show Nat.beq (sxM a).2.2.2.1 56 = true from by rw [hk]; rfl] at h7
    dsimp only [cond] at h7
    simp only [Bool.and_eq_true, decide_eq_true_eq] at h7
    obtain ⟨⟨⟨b1, b2⟩, b3⟩, b4⟩ := h7
    refine ⟨b1, sxwB_mem b2, sxwB_mem b3, ?_⟩
    split at b4
    · next z hz => exact ⟨z, hz, of_decide_eq_true b4⟩
    · cases b4
  · intro hk
    rw [show Nat.beq (sxM a).2.2.2.1 56 = false from by rw [hk]; rfl, show Nat.beq (sxM a).2.2.2.1 57 = true from by rw [hk]; rfl] at h7
    dsimp only [cond] at h7
    simp only [Bool.and_eq_true, decide_eq_true_eq] at h7
    obtain ⟨⟨⟨b1, b2⟩, b3⟩, b4⟩ := h7
    unfold sx_cwB at h4
    split at b3
    · next x b ml hw =>
      rw [hw] at h4
      have e1 : sxI a = (x, b, none, []) := by unfold sxI; rw [hw]; rfl
      refine ⟨b1, b2, by rw [e1], ?_, sxwB_mem b4⟩
      rw [e1, ← sx_pq h4]
      exact sxw_mem hw
    · cases b3
  · intro hk
    rw [show Nat.beq (sxM a).2.2.2.1 56 = false from by rw [hk]; rfl, show Nat.beq (sxM a).2.2.2.1 57 = false from by rw [hk]; rfl, show Nat.beq (sxM a).2.2.2.1 0 = false from by rw [hk]; rfl] at h7
    dsimp only [cond] at h7
    simp only [Bool.and_eq_true, decide_eq_true_eq] at h7
    exact ⟨h7.1.1.2, sxwB_mem h7.1.2, sxwB_mem h7.2⟩
/-- words that stand for all: of Object's constructor, of arraycopy, of arrays -/
def sx_all : Prop := (Cond.instanceMethod Lib.objectInit ∈ sxTs ∧ Cond.code Lib.objectInit ⟨#[0xb1]⟩ 1 none ∈ sxTs) ∧ (Cond.native arraycopyName ∈ sxTs ∧ Cond.static arraycopyName ∈ sxTs ∧ Cond.initialized "java/lang/System" ∈ sxTs) ∧ Cond.arrayClass .int ∈ sxTs ∧ Cond.arrayClass .boolean ∈ sxTs ∧ Cond.arrayClass .byte ∈ sxTs ∧ Cond.arrayClass .long ∈ sxTs
/-- the words of a throw, but its own link and text -/
def sx_thr (X : String) : Prop := Cond.instantiable X 6 ∈ sxTs ∧ Cond.initialized X ∈ sxTs ∧ Bundle.fit X = true ∧ ∀ (own : String) (ic : Nat), Cond.methodLink own ic (Bundle.initS X) ∈ sxTs → ∀ a ∈ Bundle.ownAtoms own ic X ["java/lang/RuntimeException", "java/lang/Exception"], a ∈ sxTs
/-- a line of links: tag, a, b, where its word stands -/
noncomputable def sx_lkB (own : String) (idx : Nat) (q : Nat × Nat × Nat × Nat × Nat) : Bool := match sxCl[bif Nat.beq q.1 0 then 0 else q.2.1]? with
  | none => false
  | some z =>
  bif Nat.beq q.1 0 then sxwB q.2.2.2 (.constant own idx (Int32.ofNat q.2.1)) else
  bif Nat.beq q.1 46 then Nat.blt q.2.2.1 z.2.2 && (sxwB q.2.2.2 (.fieldLink own idx (z.2.1 q.2.2.1).1 (z.2.1 q.2.2.1).2.1 (z.2.1 q.2.2.1).2.2.1) || sxwB q.2.2.2 (.fieldLinkNest own idx (z.2.1 q.2.2.1).1 (z.2.1 q.2.2.1).2.1 (z.2.1 q.2.2.1).2.2.1 "KeyGroups")) else
  bif Nat.beq q.1 47 || Nat.beq q.1 147 then Nat.blt (q.2.2.1 % 1000) z.2.2 && sxwB q.2.2.2 (.fieldLink own idx (z.2.1 (q.2.2.1 % 1000)).1 (z.2.1 (q.2.2.1 % 1000)).2.1 (z.2.1 (q.2.2.1 % 1000)).2.2.1) && (match parseFieldDescriptor (z.2.1 (q.2.2.1 % 1000)).2.2.1 with
    | some .int => Nat.beq (q.2.2.1 / 1000) 0
    | some .boolean => Nat.beq (q.2.2.1 / 1000) 1
    | some ty => Nat.beq (q.2.2.1 / 1000) 2 && ty.isReference
    | none => false) && (bif Nat.beq q.1 47 then !(z.2.1 (q.2.2.1 % 1000)).2.2.2 else decide ((z.2.1 (q.2.2.1 % 1000)).1 = own)) else
  bif Nat.beq q.1 48 then sxwB q.2.2.2 (.classLink own idx z.1) && sxwB (sxCwf q.2.1).1 (.instantiable z.1 z.2.2) && sxwB (sxCwf q.2.1).2.1 (.initialized z.1) && Nat.beq (sxD q.2.1).length z.2.2 && (sxD q.2.1).all (fun v => decide (v = .null) || decide (v = .int 0)) && (List.range z.2.2).all (fun j => match parseFieldDescriptor (z.2.1 j).2.2.1 with
    | some ty => decide (defaultValue ty = (sxD q.2.1).getD j .null)
    | none => true) else
  bif Nat.beq q.1 53 then sxwB q.2.2.2 (.classLink own idx z.1) && sxra.contains q.2.1 && sxwB (sxCwf q.2.1).2.2 (.arrayOver (.object z.1)) else
  bif Nat.beq q.1 54 then sxwB q.2.2.2 (.methodLink own idx Lib.objectInit) else
  bif Nat.beq q.1 55 then sxwB q.2.2.2 (.methodLink own idx arraycopyName) else
  Nat.beq q.1 70 && sxwB q.2.2.2 (.classLink own idx z.1)
/-- a line of a call's link -/
noncomputable def sx_lcB (own : String) (idx : Nat) (q : Nat × Nat × Nat × Nat × Nat) : Bool := match sxP q.2.1 with
  | none => false
  | some _ => bif Nat.ble 56 q.1 && Nat.blt q.1 59 && Nat.beq q.1 (sxM q.2.1).2.2.2.1 && Nat.beq q.2.2.1 (sxM q.2.1).2.2.2.2.1 then (sxwB q.2.2.2 (.methodLink own idx (sxI q.2.1).1) || (Nat.beq q.1 57 && sxwB q.2.2.2 (.methodLinkNest own idx (sxI q.2.1).1 "KeyGroups"))) else false
/-- a line of a throw -/
noncomputable def sx_ltB (own : String) (idx : Nat) (q : Nat × Nat × Nat × Nat × Nat) : Bool := match sxCl[q.2.1]? with
  | none => false
  | some z => Nat.beq q.1 62 && (Nat.ble 13 q.2.1 && Nat.ble q.2.1 15) && Nat.beq z.2.2 0 && sxwB q.2.2.2 (.classLink own idx z.1) && sxTh.any (fun t => Nat.beq t.1 q.2.1 && Nat.beq t.2.1 q.2.2.1 && (match sxw t.2.2.1 with
    | some (.stringRef o k _) => decide (o = own) && Nat.beq k (q.2.2.1 / 65536)
    | _ => false) && sxwB t.2.2.2 (.methodLink own (q.2.2.1 % 65536) (Bundle.initS z.1)))
