/-- a text is loaded, by ldc (two bytes) or ldc_w (three) -/
def sx_lds (cc : ByteArray) (pc ln k : Nat) : Prop := ln = 2 ∧ decode cc pc = .ok (.ldc k, 2) ∨ ln = 3 ∧ decode cc pc = .ok (.ldc_w k, 3)
theorem sx_ldcS {p : Program} {l : Launch} {e : Env} {R : Room} {s : State} {m : MethodId} {args : Array Value} {below : List Frame} {meth : Method} {c : Code} {T : State} {locs : List Loc} {cells slots : Nat}
    (X : Stand p l e R s m args below meth c T locs cells slots) (hexec : p.tables.exec = Jvm.exec) {own text : String} {index ln : Nat} {a : Addr} (hown : s.vm.findClass own = some m.cls)
    (hconst : (Cond.stringRef own index text).before args s = true) (hev : (Term.string own index).eval args s none [] s = some (.ref a)) {g : JFrame} (hg : g.method = m) (hdg : sx_lds c.code g.pc ln index) :
    ∀ target, Steps p.tables e below (T.setTop { g with pc := g.pc + ln, stack := .ref a :: g.stack }) target → Steps p.tables e below (T.setTop g) target := by
  rcases hdg with ⟨rfl, hdg⟩ | ⟨rfl, hdg⟩
  · exact X.ldcString hexec hown hconst hev hg hdg
  · obtain ⟨k, cf, i, a', hk, hcf, hcp, -, hr, hev'⟩ := Cond.stringRef_spec hown hconst
    cases hev.symm.trans hev'
    obtain ⟨k', hk', he⟩ := X.warmed.alike.2.2 _ _ hk
    have hr' : k'.resolved[index]? = some (some (.string a)) := by
      rcases X.warmed.entry hk hk' index with h | ⟨h, -⟩
      · rw [h]; exact hr
      · rw [hr] at h; cases h
    intro target hrest
    subst hg
    jvm_step X.here [hexec, hdg, ldc_w.wp_string (e := e) (s := T) (f := g) X.here.top hk' (by rw [he]; exact hcf) hcp hr']
    exact hrest
section SXU
variable {p : Program} {l : Launch} {e : Env} {R : Room} {s : State} {m : MethodId} {args : Array Value} {below : List Frame} {meth : Method} {c : Code} {cc : ByteArray} {nL : Nat} {own : String} {Ts : List Cond} {w : sx_Wd} {cl : List vw_C} {ra : List Nat} {S : List Int32} {lim : Nat × Nat} {n0 z0 fr lo : Nat}
variable {pc : Nat} {ls : sx_L} {st : List Value} {h : sx_H} {en : sx_N} {r : sx_R}
set_option maxHeartbeats 1000000 in
theorem sx_w_throw {ln : Nat} (E : sx_Ev p R s m args c cc nL own Ts w cl ra S lim n0 z0 fr lo) (hlocks : meth.locks = false) (htr : e.platform.stackTraces = false) (hout : ∀ x ∈ c.exceptionTable.toList, covers x (pc + 4 + ln + 3) = false) {idx k ic : Nat} {text X : String} {names : List String} {T0 : u_T}
    (hq : cl[en.2.1]? = some (X, T0, 0)) (hlk : Cond.classLink own idx X ∈ Ts) (hin6 : Cond.instantiable X 6 ∈ Ts) (hini : Cond.initialized X ∈ Ts) (hstr : Cond.stringRef own k text ∈ Ts) (hfX : Bundle.fit X = true) (hnames : ∀ n ∈ names, Bundle.fit n = true)
    (hat : ∀ a ∈ Bundle.ownAtoms own ic X names, a ∈ Ts)
    (hd0 : decode cc pc = .ok (.new idx, 3)) (hd3 : decode cc (pc + 3) = .ok (.dup, 1)) (hd4 : sx_lds cc (pc + 4) ln k) (hd6 : decode cc (pc + 4 + ln) = .ok (.invokespecial ic, 3)) (hd9 : decode cc (pc + 4 + ln + 3) = .ok (.athrow, 1))
    (hfr9 : names.length + 3 < fr) (hlo9 : 9 + (13 * (names.length + 1) + 42) ≤ lo)
    (hs : (bif Nat.blt h.1 lim.1 && Nat.ble (h.2.1 + 6) lim.2 && Nat.ble (st.map fun v => v.category).sum 8 then some ((Sum.inr h.1, sx_push h 6 (.inl (en.2.1, []))) : sx_R) else none) = some r) :
    sx_At p l e R s m args below meth c (sx_Qe below s w cl ra n0 z0 r) nL w cl ra n0 z0 pc ls st h := by
  obtain ⟨hx, hb, hml, hown, hts, hK, hcl, hXs, hbB, hrc, hrs, hfr, hlo⟩ := E
  cases hc : (Nat.blt h.1 lim.1 && Nat.ble (h.2.1 + 6) lim.2 && Nat.ble (st.map fun v => v.category).sum 8) with
  | false => rw [hc] at hs; cases hs
  | true =>
    rw [hc] at hs
    cases hs
    rw [Bool.and_eq_true, Bool.and_eq_true, Nat.blt_eq] at hc
    obtain ⟨⟨c1, c2⟩, c3⟩ := hc
    have c2 := Nat.le_of_ble_eq_true c2
    have c3 := Nat.le_of_ble_eq_true c3
    intro a1 a2 H locs lm hH hS hL
    intro T hT X9
    have hsz : H.size = w.2.1 + h.1 := hH.2.1
    have X' := sx_rebase X9 (by omega) (by omega)
    have hal := X9.warmed.alike
    have hWs : s.WarmedH (T.setFrames (.invoking m args :: below)).vm := X9.warmed
    have hown' : (T.setFrames (.invoking m args :: below)).vm.findClass own = some m.cls := by
      show T.vm.findClass own = _
      rw [hal.findClass]; exact hown
    have hw : ∀ {x : Cond}, x ∈ Ts → x.before args (T.setFrames (.invoking m args :: below)) = true := fun hm => hts _ hm _ _ hWs (fun q hq9 => by show T.heap[q]? = _; rw [hT]; exact hS.1 q hq9)
    have hKn := hK.1.1 _ _ hq
    have hfX' : (T.setFrames (.invoking m args :: below)).vm.findClass X = some (w.2.2.2.2.1 en.2.1) := by
      show T.vm.findClass X = _
      rw [hal.findClass]; exact hKn.2.1
    have hstr' : (Cond.stringRef own k text).before args (T.setFrames (.invoking m args :: below)) = true := hw hstr
    obtain ⟨k9, cf9, i9, a9, -, -, -, -, -, hev9⟩ := Cond.stringRef_spec hown' hstr'
    have key : W p l e ({ frames := R.frames, cells := R.cells - (h.1 - n0), slots := R.slots - (h.2.1 - z0), locals := R.locals } : Room) (T.setFrames (.invoking m args :: below)) m args below meth c T.heap [] 0 0
        (fun U => U.status = .running ∧ Ended U below (.threw H.size) ∧ (T.setFrames (.invoking m args :: below)).WarmedH U.vm ∧ (T.setFrames (.invoking m args :: below)).sameButNew ({ U with vm := T.vm } : State) [] 1 6 ∧ ∃ ce : Cell, U.heap[H.size]? = some ce ∧ ce.cls = w.2.2.2.2.1 en.2.1 ∧ ce.vm = .none)
        (F0 m pc lm (st.map (sx_v w))) := by
      refine W.newcK (h := H.size) hx hb hown' (hw hlk) (hw hin6) (hw hini) rfl hd0 (by show 0 + 1 ≤ R.cells - (h.1 - n0); omega) (by show 0 + 6 ≤ R.slots - (h.2.1 - z0); omega) hfX' (by rw [hT]) fun H1 kC hkC e1 z1 o1 => ?_
      refine lv_dup hx hb hd3 rfl ?_
      intro T2 hT2 X2
      have stl := sx_ldcS X2 hx hown' hstr' hev9 (g := F0 m (pc + 4) lm (.ref H.size :: .ref H.size :: st.map (sx_v w))) rfl (by rw [hb]; exact hd4)
      obtain ⟨U, u1, u2, u3, u4, u5, ce, u6, u7⟩ := X2.ctorThrowS hx htr (own := own) (cls := X) (names := names) (ic := ic) hown' hfX hnames
        (fun x9 hx9 => hw (hat x9 hx9)) (fun x hx9 => by cases hx9) (a := H.size) hfX' hkC (by rw [hT2]; exact e1) (by show T.heap.size ≤ H.size; rw [hT]; exact Nat.le_refl _) (msg := .ref a9) rfl
        (g := F0 m (pc + 4 + ln) lm (.ref a9 :: .ref H.size :: .ref H.size :: st.map (sx_v w))) rfl (by rw [hml]; exact hL.1) rfl rfl (rest := st.map (sx_v w)) rfl (by rw [hb]; exact hd6) (by rw [hb]; exact hd9) hout (by show names.length + 3 < R.frames; omega)
        (by
          show 2 * 0 + ((Value.ref H.size :: st.map (sx_v w)).map fun v => v.category).sum + _ ≤ R.locals
          rw [List.map_cons, List.sum_cons, sx_cat_map]
          show 2 * 0 + (1 + _) + _ ≤ _
          omega) hlocks
      refine ⟨U, stl _ u1, u2, u3, u4, u5, ce, u6, ?_, u7.vm⟩
      exact Option.some.inj (u7.cls.symm.trans hfX')
    obtain ⟨U, v1, v2, v3, v4, v5, ce, v6, v7, v8⟩ := key T rfl X'
    have hsame := sx_rebase_same X9 v5
    have hold : ∀ q : Nat, q < H.size → U.heap[q]? = H[q]? := fun q hq9 => by
      have hc9 : H[q]? = some H[q] := Array.getElem?_eq_getElem hq9
      rw [hc9]
      exact v5.old_cell (by show T.heap[q]? = _; rw [hT]; exact hc9)
    have hsU : U.heap.size = H.size + 1 := by
      have g1 : H.size < U.heap.size := (Array.getElem?_eq_some_iff.mp v6).1
      have g2 : U.heap.size ≤ T.heap.size + 1 := v5.2.2.1
      rw [hT] at g2
      omega
    refine ⟨U, v1, .threw H.size, v2, v3, State.WarmedH.trans X9.warmed v4, ⟨locs, ?_, hS.2⟩, hH.push (n := 6) ?_ trivial hsU hold, fun q hq9 => by rw [hold q (by omega)]; exact hS.1 q hq9, by show n0 ≤ h.1 + 1; omega, by show z0 ≤ h.2.1 + 6; omega, by show Outcome.threw H.size = .threw (w.2.1 + h.1); rw [hsz]⟩
    · have e2 : h.1 - n0 + 1 = h.1 + 1 - n0 := by omega
      have e3 : h.2.1 - z0 + 6 = h.2.1 + 6 - z0 := by omega
      rw [e2, e3, List.append_nil] at hsame
      exact hsame
    · exact ⟨_, hq, ce, by show U.heap[w.2.1 + h.1]? = _; rw [← hsz]; exact v6, v7, v8, fun k9 h9 => absurd h9 (Nat.not_lt_zero k9)⟩
end SXU
