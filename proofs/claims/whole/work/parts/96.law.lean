/-! ===== the law at the machine ===== -/
def sx_P (b : Addr) (xs : List Int32) (args : Array Value) (s : State) : Prop := args = #[.ref b] ∧ s.IntsAt b xs ∧ xs.length ≤ 3072 ∧ (Jvm.Cond.and given_1 narrow_1).before args s = true
def sx_Q (_ : Array Value) (s : State) (o : Outcome) (t : State) : Prop := o = .returned (some (.int 1)) ∧ Framed s o t [] room_1.cells room_1.slots
theorem sx_fr0 : sxfr 0 ≤ 12 ∧ sxlo 0 ≤ 524 := by decide +kernel
theorem sx_P0 : ∃ M, sxP 0 = some M ∧ M.1 = 7 := ⟨_, rfl, rfl⟩
theorem sx_I0 : sxI 0 = (x, code, ret, []) := rfl
theorem sx_walk (l : Launch) (hfl : l.flags = flags0) (b : Addr) (xs : List Int32) (hT : xs.length ≤ 3072 → sx_True xs) : MetFree l x (headSpec (Jvm.Cond.code x code maxLocals ret :: tables_1) room_1) (sx_P b xs) (fun _ _ _ _ _ => True) sx_Q := by
  refine MetFree.of_bodyS (code := code) (maxLocals := maxLocals) (ret := ret) (by decide) ?_ ?_
  · intro args s m h hn
    obtain ⟨meth, c, h1, h2, h3, h4, h5, h6, -, -⟩ := Cond.code_spec hn (atoms_spec (ws := Jvm.Cond.code x code maxLocals ret :: tables_1) h _ List.mem_cons_self)
    exact ⟨meth, c, h1, h2, h3, h4, h5, h6⟩
  · intro p e s m args below meth c s₁ B hml0 hP _
    obtain ⟨rfl, hx, hbd, hgv⟩ := hP
    obtain ⟨scr, harrAt, hlist, hof, hsmall⟩ := hx
    obtain ⟨hcb, hkn, -, -⟩ := State.arrayAt?_spec harrAt
    have hts0 : ∀ c ∈ (Jvm.Cond.code x code maxLocals ret :: tables_1), c.before #[Value.ref b] s = true := atoms_spec (ws := Jvm.Cond.code x code maxLocals ret :: tables_1) B.pre
    have hhold := sx_hold (fun w hw => hts0 w (List.mem_cons_of_mem _ hw)) (hts0 _ List.mem_cons_self) hgv
    have hml : c.maxLocals = 7 := B.maxLocals_eq (hts0 _ List.mem_cons_self)
    have X₀ : Stand p l e room_1 s m #[Value.ref b] below meth c s₁ [] 0 0 := Stand.of_body B
    have hh0 : s₁.heap = s.heap := by rw [B.state]; rfl
    have hsz : scr.slots.size = xs.length := by rw [← Array.length_toList, hlist, List.length_map]
    have hval : ∀ j : Nat, j < xs.length → scr.slots[j]? = some (.int (xs.getD j 0)) := fun j hj => by
      rw [← Array.getElem?_toList, hlist]
      simp [hj]
    have hbl : b < s.heap.size := (Array.getElem?_eq_some_iff.mp hcb).1
    have hX : va_X b xs.length (fun j => sx_lg 0 xs j) s s.heap := ⟨scr, hcb, hof, hkn, hsz, fun j hj => by show _ = some (Value.int (sx_lg 0 xs j)); rw [hval j hj, sx_lg_getD]⟩
    obtain ⟨w, hw1, hw2, hKR⟩ := sx_known hhold b
    have hst := sx_stay_all hhold
    obtain ⟨n, hf, hex, hb1, hb2⟩ := hT hbd
    obtain ⟨M, hM, hM1⟩ := sx_P0
    obtain ⟨en, hen⟩ := sx_exec_at hex hM
    have hen0 : en.2.2.2.1 = 0 := by
      cases hM
      cases hen
      rfl
    have hmA : sx_mAt (sxI 0) M.1 s m meth c := by
      obtain ⟨m', meth', c', k1, k2, k3, k4, k5, k6, k7, k8, k9, k10⟩ := sx_mAt_of (q := sxI 0) (nL := 7) (args := #[Value.ref b]) (sx_cwB_ok (a := 0) (by decide +kernel)) hhold
      have e1 : m' = m := by
        have k1' : s.methodNamed? x = some m' := k1
        exact Option.some.inj (k1'.symm.trans B.named)
      subst e1
      have e2 : meth' = meth := Option.some.inj (k2.symm.trans B.method)
      subst e2
      have e3 : c' = c := by
        have hc := B.here.code
        have hvm : s₁.vm = s.vm := by rw [B.state]; rfl
        rw [State.code?_eq, hvm, k2] at hc
        have hc : meth'.code = some c := hc
        exact Option.some.inj (k3.symm.trans hc)
      subst e3
      rw [hM1]
      exact ⟨k1, k2, k3, k4, k5, k6, k7, k8, k9, k10⟩
    have hsim := sx_sim (g := sxg) (P := sxP) (S := xs) (lim := sxlim) (w := w) sx_ok sx_cl_ok (by rw [hw1, hw2]; exact hbl) n 0 M 0 en [(0, .ref 0)] [] (0, 0, []) _ hex hM hen p l e room_1 s m #[Value.ref b] below meth c 0 0 B.exec (Launch.traces_off hfl B.admits) hmA
      (by rw [hw2]; exact hst) hKR (by rw [hw1]; exact hX) (by show room_1.cells - 0 ≤ room_1.cells; omega) (by show room_1.slots - 0 ≤ room_1.slots; omega) sx_fr0.1 sx_fr0.2
    rw [hen0, hM1] at hsim
    have hlm := lv_entry [Value.ref b] (n := 7) (by show 1 ≤ 7; omega)
    have K := hsim (Nat.le_refl _) (Nat.le_refl _) s.heap [] _ ⟨rfl, by rw [hw2]; rfl, fun k c9 h9 => by cases h9⟩ ⟨fun q _ => rfl, fun l9 h9 => by cases h9⟩ (show sx_LR w 7 [(0, .ref 0)] _ by
      unfold sx_LR
      show lv_has _ 7 [(0, Value.ref w.1)]
      rw [hw1]
      exact hlm)
    obtain ⟨t, a1, o, b1, b2, b3, ⟨L, b4, b5⟩, -, -, -, -, b6⟩ := K s₁ (by rw [hh0]) X₀
    refine ⟨t, o, ?_, b1, b2, ?_⟩
    · rw [show maxLocals = 7 from rfl]
      have a2 : Steps p.tables e below (s₁.setTop (F0 m 0 (lg_sl [Value.ref b] ++ List.replicate (7 - (lg_sl [Value.ref b]).length) Slot.unset).toArray [])) t := a1
      rw [← lg_entry_eq] at a2
      exact a2
    · have b6 : o = .returned (some (.int 1)) := b6
      refine ⟨b6, ⟨_, b6⟩, b3, sx_same_new b4 (fun q hq => by rw [← hw2]; exact b5 q hq) (by show hf.1 - 0 ≤ room_1.cells; omega) (by show hf.2.1 - 0 ≤ room_1.slots; omega)⟩
theorem sx_pre_spec {args : Array Value} {s : State} (h : (Jvm.Cond.and given_1 narrow_1).before args s = true) (hr : rest_1_c.before args s = true) : ∃ (b : Addr) (xs : List Int32), sx_P b xs args s := by
  have hs := flat_of_before _ h
  have hq := flat_of_before _ hr
  have hc : (Cond.count 1).before args s = true := hs _ (by decide +kernel)
  have harr : (Cond.arrayOf (.arg 0) .int).before args s = true := hs _ (by decide +kernel)
  have hle : (Cond.le (.length (.arg 0)) (.int 3072)).before args s = true := hs _ (by decide +kernel)
  have hlen : (Cond.isInt (.length (.arg 0))).before args s = true := hq _ (by decide +kernel)
  have hall : (Cond.all (.arg 0) (.isInt (.elem (.arg 0) (.index 0)))).before args s = true := hq _ (by decide +kernel)
  obtain ⟨b, xs, hb, hx⟩ := State.ints_of_pre rfl harr hlen hall
  have hsm : xs.length < 2 ^ 31 := hx.choose_spec.2.2.2
  have hev : (Term.length (.arg 0)).eval args s none [] s = some (.int xs.length.toInt32) := hx.length_eval hb
  have hv := Cond.le_ints hev (show (Term.int 3072).eval args s none [] s = some (.int 3072) from rfl)
  have hd : xs.length.toInt32 ≤ 3072 := by
    simpa [Cond.before, Cond.holds, hv] using hle
  have hN : xs.length ≤ 3072 := (Int32.ofNat_le_ofNat hsm (by decide)).mp (show Int32.ofNat xs.length ≤ Int32.ofNat 3072 from hd)
  exact ⟨b, xs, Cond.one_arg hc (show args[0]? = some (.ref b) from hb), hx, hN, h⟩
theorem sx_limb (hT : ∀ xs : List Int32, xs.length ≤ 3072 → sx_True xs) (L : Cond) (hL : ∀ (args : Array Value) (s t : State), L.after args s (.returned (some (.int 1))) t = true) :
    ArmFor flags0 classFile x code maxLocals ret World_1 tables_1 room_1 Calls_1 rest_1 Pre_1
      (fun tb e a s o t => postC L tb e a s o t ∧ Framed s o t (fieldLocs frame_1_writes a s ++ arrayLocs frame_1_arrays a s ++ staticLocs frame_1_statics s) room_1.cells room_1.slots) := by
  intro l hfl _ _ p e ha hc hk s m args below hf hfit hheap happ hpre
  obtain ⟨b, xs, hP⟩ := sx_pre_spec hpre.2.2 hpre.2.1
  obtain ⟨k, o, h1, h2, h3, rfl, hF⟩ := sx_walk l hfl b xs (hT xs) p e ha hc hk s m args below hf ((Spec.applies_iff_loose hf).mp happ).1 hP trivial
  exact ⟨k, _, h1, h2, h3, hL args s _, hF⟩
/-- what is owed, out of what SI computes on every script -/
theorem sx_claim (hT : ∀ xs : List Int32, xs.length ≤ 3072 → sx_True xs) : Claimed_1_1 ∧ Claimed_1_2 := ⟨sx_limb hT limb_1_1 (fun args s t => by simp [limb_1_1, Cond.after, Cond.holds, Cond.value]), sx_limb hT limb_1_2 (fun args s t => Cond.after_iff.mpr (by
  first | (rw [show limb_1_2 = Cond.eq .result (.int 1) from rfl, Cond.eq_ints (x := 1) (y := 1) rfl rfl]; simp; done) | (simp [limb_1_2, Cond.value, Term.eval]; done)))⟩
