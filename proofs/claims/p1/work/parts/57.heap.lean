section SXK
variable {p : Program} {l : Launch} {e : Env} {R : Room} {s : State} {m : MethodId} {args : Array Value} {below : List Frame} {meth : Method} {c : Code} {Q : State → Prop} {cc : ByteArray} {nL : Nat} {own : String} {Ts : List Cond} {w : sx_Wd} {cl : List vw_C} {ra : List Nat} {S : List Int32} {lim : Nat × Nat} {n0 z0 fr lo : Nat} {D : Nat → List Value}
variable {pc : Nat} {ls ls1 : sx_L} {st st1 : List Value} {h h1 : sx_H} {t : Option Nat} {en : sx_N}
theorem sx_w_narL (E : sx_Ev p R s m args c cc nL own Ts w cl ra S lim n0 z0 fr lo) (harr : Cond.arrayClass .long ∈ Ts) (hs : sx_i52 lim en ls st h = some (t, ls1, st1, h1)) (hd : decode cc pc = .ok (.newarray .long, 2))
    (kk : t = none → sx_At p l e R s m args below meth c Q nL w cl ra n0 z0 (pc + 2) ls1 st1 h1) : sx_At p l e R s m args below meth c Q nL w cl ra n0 z0 pc ls st h := by
  obtain ⟨hx, hb, hml, hown, hts, hK, hcl, hX, hbB, hrc, hrs, -⟩ := E
  have hts := sx_now (args := args) hts
  unfold sx_i52 at hs
  split at hs
  · next x r =>
    split at hs
    · next n hn =>
      obtain ⟨l1, l2, rfl, rfl, rfl, rfl⟩ := sx_new_eq hs
      obtain ⟨g1, g2, g3⟩ := sx_ix_eq hn
      subst g2
      intro a1 a2 H locs lm hH hS hL
      have hsz : H.size = w.2.1 + h.1 := hH.2.1
      have hfc : s.vm.findClass ("[" ++ FieldType.long.toString) = some (w.2.2.1 3) := (hK.1.2 3 (w.2.2.1 3, .long) rfl).2
      refine va_newaK (atype := .long) hx hb (hts _ harr) rfl hd (n := nI n) (rest := r.map (sx_v w)) rfl (nI_pos g3) (nI_clamp g3) (by show n * 8 ≤ _; omega) (by omega) (by omega) hsz fun H1 cA e1 z1 o1 _ hcA => ?_
      have hcA : cA = w.2.2.1 3 := Option.some.inj (hcA.symm.trans hfc)
      subst hcA
      have e2 : h.1 - n0 + 1 = h.1 + 1 - n0 := by omega
      have e3 : h.2.1 - z0 + n = h.2.1 + n - z0 := by omega
      rw [e2, e3]
      refine kk rfl (by show n0 ≤ h.1 + 1; omega) (by show z0 ≤ h.2.1 + _; omega) H1 locs lm (hH.push (n := n) ?_ trivial (by rw [z1, hsz]) (fun q hq => o1 q (by omega))) (hS.new (by omega) (fun q hq => o1 q (by omega))) hL
      show H1[w.2.1 + h.1]? = some (arrV (w.2.2.1 3) n (fun j => .long (sx_ag 0 [] j)))
      rw [e1]
      rfl
    · cases hs
  · cases hs
theorem sx_w_anew (E : sx_Ev p R s m args c cc nL own Ts w cl ra S lim n0 z0 fr lo) {idx : Nat} {q : vw_C} (hq : cl[en.2.1]? = some q) (hqr : en.2.1 ∈ ra) (hlink : Cond.classLink own idx q.1 ∈ Ts) (hover : Cond.arrayOver (.object q.1) ∈ Ts) (hs : sx_i53 lim en ls st h = some (t, ls1, st1, h1)) (hd : decode cc pc = .ok (.anewarray idx, 3))
    (kk : t = none → sx_At p l e R s m args below meth c Q nL w cl ra n0 z0 (pc + 3) ls1 st1 h1) : sx_At p l e R s m args below meth c Q nL w cl ra n0 z0 pc ls st h := by
  obtain ⟨hx, hb, hml, hown, hts, hK, hcl, hX, hbB, hrc, hrs, -⟩ := E
  have hts := sx_now (args := args) hts
  unfold sx_i53 at hs
  split at hs
  · next x r =>
    split at hs
    · next n hn =>
      obtain ⟨l1, l2, rfl, rfl, rfl, rfl⟩ := sx_new_eq hs
      obtain ⟨g1, g2, g3⟩ := sx_ix_eq hn
      subst g2
      intro a1 a2 H locs lm hH hS hL
      have hsz : H.size = w.2.1 + h.1 := hH.2.1
      obtain ⟨q', q1, -, kA0, comp0, -, -, -, hfc⟩ := hK.2 _ hqr
      cases hq.symm.trans q1
      refine W.anew hx hb hown (hts _ hlink) (hts _ hover) rfl hd (n := nI n) (rest := r.map (sx_v w)) rfl (nI_pos g3) (by rw [nI_clamp g3]; omega) (by omega) (by rw [nI_clamp g3]; omega) fun cA kA comp f1 f2 f3 f4 => ?_
      have hcA : cA = w.2.2.2.1 en.2.1 := Option.some.inj (f1.symm.trans hfc)
      subst hcA
      rw [nI_clamp g3]
      generalize hH1 : H.push ({ cls := w.2.2.2.1 en.2.1, slots := Array.replicate n .null, vm := .none } : Cell) = H1
      have z1 : H1.size = H.size + 1 := by rw [← hH1, Array.size_push]
      have e1 : H1[H.size]? = some (arrV (w.2.2.2.1 en.2.1) n (fun _ => .null)) := by rw [← hH1, Array.getElem?_push_size, ← arrV_new]
      have o1 : ∀ q : Nat, q < H.size → H1[q]? = H[q]? := fun q hq => by rw [← hH1, Array.getElem?_push, if_neg (Nat.ne_of_lt hq)]
      have e2 : h.1 - n0 + 1 = h.1 + 1 - n0 := by omega
      have e3 : h.2.1 - z0 + n = h.2.1 + n - z0 := by omega
      rw [e2, e3]
      have k9 := kk rfl (by show n0 ≤ h.1 + 1; omega) (by show z0 ≤ h.2.1 + _; omega) H1 locs lm (hH.push (n := n) (c := .inr (.inr (.inr (en.2.1, n, [])))) (by
        show H1[w.2.1 + h.1]? = some (arrV (w.2.2.2.1 en.2.1) n (fun j => va_rf (sx_o w (sx_ag none [] j))))
        rw [← hsz, e1]
        rfl) hqr z1 o1) (hS.new (by omega) o1) hL
      rw [hsz]
      exact k9
    · cases hs
  · cases hs
theorem sx_cat_map (r : List Value) : ((r.map (sx_v w)).map fun v => v.category).sum = (r.map fun v => v.category).sum := by
  rw [List.map_map]
  congr 1
  exact List.map_congr_left (fun v _ => sx_v_cat w v)
theorem sx_w_obj (E : sx_Ev p R s m args c cc nL own Ts w cl ra S lim n0 z0 fr lo) {idx : Nat} (h1f : 1 ≤ fr) (h1l : 20 ≤ lo) (hlink : Cond.methodLink own idx Lib.objectInit ∈ Ts) (hinst : Cond.instanceMethod Lib.objectInit ∈ Ts) (hcode : Cond.code Lib.objectInit ⟨#[0xb1]⟩ 1 none ∈ Ts) (hs : sx_i54 en ls st h = some (t, ls1, st1, h1)) (hd : decode cc pc = .ok (.invokespecial idx, 3))
    (kk : t = none → sx_At p l e R s m args below meth c Q nL w cl ra n0 z0 (pc + 3) ls1 st1 h1) : sx_At p l e R s m args below meth c Q nL w cl ra n0 z0 pc ls st h := by
  obtain ⟨hx, hb, hml, hown, hts, hK, hcl, hX, hbB, hrc, hrs, hfr, hlo⟩ := E
  have hts := sx_now (args := args) hts
  unfold sx_i54 at hs
  split at hs
  · next k r =>
    cases hc : Nat.ble (r.map fun v => v.category).sum 8 with
    | false => rw [hc] at hs; cases hs
    | true =>
      rw [hc] at hs
      cases hs
      have hc := Nat.le_of_ble_eq_true hc
      intro a1 a2 H locs lm hH hS hL
      obtain ⟨a, ha⟩ : ∃ a : Nat, sx_v w (.ref k) = .ref a := by cases k <;> exact ⟨_, rfl⟩
      refine W.objInit (a := a) (rest := st1.map (sx_v w)) hx hb hown (hts _ hlink) (hts _ hinst) (hts _ hcode) rfl (by rw [hml]; exact hL.1) (by show sx_v w (.ref k) :: _ = _; rw [ha]) hd (by omega) ?_ (kk rfl a1 a2 H locs lm hH hS hL)
      show 2 * 0 + _ + 12 ≤ _
      rw [sx_cat_map]
      omega
  · cases hs
theorem sx_cpy_eq (f g : List (List Int32)) (sp dp : Nat) : ∀ n : Nat, (fun j => sx_ag 0 (sx_cpy f g sp dp n) j) = va_cpy (fun j => sx_ag 0 f j) (fun j => sx_ag 0 g j) sp dp n := by
  intro n
  induction n with
  | zero =>
    funext j
    show sx_ag 0 g j = va_cpy _ _ sp dp 0 j
    unfold va_cpy
    rw [if_neg (by omega)]
  | succ n ih =>
    funext j
    show sx_ag 0 (sx_as 0 (sx_cpy f g sp dp n) (dp + n) (sx_ag 0 f (sp + n))) j = _
    rw [sx_ag_as]
    have ih := congrFun ih j
    unfold va_cpy at ih ⊢
    by_cases e : j = dp + n
    · rw [if_pos e, if_pos (by omega), show sp + (j - dp) = sp + n by omega]
    · rw [if_neg e]
      by_cases e2 : dp ≤ j ∧ j < dp + n
      · rw [if_pos (by omega)]
        rw [if_pos e2] at ih
        exact ih
      · rw [if_neg (by omega)]
        rw [if_neg e2] at ih
        exact ih
theorem sx_w_copy (E : sx_Ev p R s m args c cc nL own Ts w cl ra S lim n0 z0 fr lo) {idx : Nat} (h1f : 1 ≤ fr) (h1l : 8 + (nativeFrameWords "java/lang/System" "arraycopy" 5 + 11) ≤ lo) (hlink : Cond.methodLink own idx arraycopyName ∈ Ts) (hnat : Cond.native arraycopyName ∈ Ts) (hstat : Cond.static arraycopyName ∈ Ts) (hini : Cond.initialized "java/lang/System" ∈ Ts) (hs : sx_i55 en ls st h = some (t, ls1, st1, h1)) (hd : decode cc pc = .ok (.invokestatic idx, 3))
    (kk : t = none → sx_At p l e R s m args below meth c Q nL w cl ra n0 z0 (pc + 3) ls1 st1 h1) : sx_At p l e R s m args below meth c Q nL w cl ra n0 z0 pc ls st h := by
  obtain ⟨hx, hb, hml, hown, hts, hK, hcl, hX, hbB, hrc, hrs, hfr, hlo⟩ := E
  have hts := sx_now (args := args) hts
  unfold sx_i55 at hs
  split at hs
  · next n dp v1 sp v0 r =>
    split at hs
    · next k0 n0a f k n1a g ha0 ha1 =>
      split at hs
      · next s1 d1 m1 hsp hdp hn =>
        cases hc : (Nat.ble (s1 + m1) n0a && Nat.ble (d1 + m1) n1a && Nat.ble (r.map fun v => v.category).sum 8) with
        | false => rw [hc] at hs; cases hs
        | true =>
          rw [hc] at hs
          cases hs
          rw [Bool.and_eq_true, Bool.and_eq_true] at hc
          obtain ⟨⟨c1, c2⟩, c3⟩ := hc
          have c1 := Nat.le_of_ble_eq_true c1
          have c2 := Nat.le_of_ble_eq_true c2
          have c3 := Nat.le_of_ble_eq_true c3
          obtain ⟨rfl, hg0⟩ := sx_arr_eq ha0
          obtain ⟨rfl, hg1⟩ := sx_arr_eq ha1
          obtain ⟨p1, rfl, p3⟩ := sx_ix_eq hsp
          obtain ⟨p4, rfl, p6⟩ := sx_ix_eq hdp
          obtain ⟨p7, rfl, p9⟩ := sx_ix_eq hn
          intro a1 a2 H locs lm hH hS hL
          intro T hT X
          have hc0 : H[w.2.1 + k0]? = some (vp_cell (w.2.2.1 0) (n0a, .inl (fun j => sx_ag 0 f j))) := (hH.2.2 k0 _ hg0).1
          have hc1 : H[w.2.1 + k]? = some (vp_cell (w.2.2.1 0) (n1a, .inl (fun j => sx_ag 0 g j))) := (hH.2.2 k _ hg1).1
          obtain ⟨-, kk0, hk0, cm0, hkk0⟩ := (hK.1.2 0 (w.2.2.1 0, .int) rfl).1 n0a (fun j => .int (sx_ag 0 f j))
          obtain ⟨vm', X', step⟩ := X.arraycopy hx hown (hts _ hlink) (hts _ hnat) (hts _ hstat) (hts _ hini) (src := w.2.1 + k0) (dst := w.2.1 + k) (cs := vp_cell (w.2.2.1 0) (n0a, .inl (fun j => sx_ag 0 f j))) (cd := vp_cell (w.2.2.1 0) (n1a, .inl (fun j => sx_ag 0 g j))) (srcPos := nI s1) (destPos := nI d1) (n := nI m1) (by rw [hT]; exact hc0) (by rw [hT]; exact hc1)
            (fun _ h => by cases h) (fun _ h => by cases h) (fun h => by cases h) (fun h => by cases h) hk0 hk0 hkk0 hkk0 (by simp [refKind]) (nI_pos p3) (nI_pos p6) (nI_pos p9)
            (by rw [nI_toInt p3, nI_toInt p9]; show ¬ _ > ((arrV (w.2.2.1 0) n0a (fun j => .int (sx_ag 0 f j))).slots.size : Int); rw [arrV_size]; omega)
            (by rw [nI_toInt p6, nI_toInt p9]; show ¬ _ > ((arrV (w.2.2.1 0) n1a (fun j => .int (sx_ag 0 g j))).slots.size : Int); rw [arrV_size]; omega)
            (fun vm₁ _ i hi => by
              rw [nI_clamp p9] at hi
              have e9 : (vp_cell (w.2.2.1 0) (n0a, .inl (fun j => sx_ag 0 f j))).slots.getD ((nI s1).toNatClampNeg + i) .null = .int (sx_ag 0 f (s1 + i)) := by
                show (arrV (w.2.2.1 0) n0a (fun j => .int (sx_ag 0 f j))).slots.getD _ _ = _
                rw [nI_clamp p3, Array.getD_eq_getD_getElem?, arrV_read _ _ (by omega)]
                rfl
              rw [e9]
              exact ⟨rfl, trivial⟩)
            (g := F0 m pc lm ((Value.int (nI m1) :: Value.int (nI d1) :: Value.ref (k + 1) :: Value.int (nI s1) :: Value.ref (k0 + 1) :: st1).map (sx_v w))) rfl (by rw [hml]; exact hL.1) (rest := st1.map (sx_v w)) rfl (by rw [hb]; exact hd) (by omega) (by show 2 * 0 + _ + _ ≤ _; rw [sx_cat_map]; omega)
          have e1 : copied (vp_cell (w.2.2.1 0) (n0a, .inl (fun j => sx_ag 0 f j))) (vp_cell (w.2.2.1 0) (n1a, .inl (fun j => sx_ag 0 g j))) (nI s1) (nI d1) (nI m1) = vp_cell (w.2.2.1 0) (n1a, .inl (va_cpy (fun j => sx_ag 0 f j) (fun j => sx_ag 0 g j) (nI s1).toNatClampNeg (nI d1).toNatClampNeg (nI m1).toNatClampNeg)) := va_copied (fun z => .int z) (w.2.2.1 0) (w.2.2.1 0) (fun j => sx_ag 0 f j) (fun j => sx_ag 0 g j) (by rw [nI_clamp p3, nI_clamp p9]; exact c1)
          have hlt : w.2.1 + k < T.heap.size := by rw [hT]; exact (Array.getElem?_eq_some_iff.mp hc1).1
          have e2 : copied (vp_cell (w.2.2.1 0) (n0a, .inl (fun j => sx_ag 0 f j))) (vp_cell (w.2.2.1 0) (n1a, .inl (fun j => sx_ag 0 g j))) (nI s1) (nI d1) (nI m1) = vp_cell (w.2.2.1 0) (n1a, .inl (fun j => sx_ag 0 (sx_cpy f g s1 d1 m1) j)) := by
            rw [sx_cpy_eq, e1, nI_clamp p3, nI_clamp p6, nI_clamp p9]
          rw [e2] at X' step
          obtain ⟨t9, b1, b2⟩ := kk rfl a1 a2 ((T.setVm vm').setCell (w.2.1 + k) (vp_cell (w.2.2.1 0) (n1a, .inl (fun j => sx_ag 0 (sx_cpy f g s1 d1 m1) j)))).heap _ lm
            (hH.set hg1 (c := .inr (.inl (0, n1a, sx_cpy f g s1 d1 m1))) (heapAt_setCell_self (s := T.setVm vm') _ hlt) (hH.2.2 k _ hg1).2 (by rw [size_setCell]; show T.heap.size = H.size; rw [hT]) (fun q hq => by rw [heapAt_setCell_ne _ (Ne.symm hq)]; show T.heap[q]? = H[q]?; rw [hT]))
            ⟨fun q hq => by rw [heapAt_setCell_ne _ (show w.2.1 + k ≠ q by omega)]; show T.heap[q]? = _; rw [hT]; exact hS.1 q hq, fun x hx9 => by
              rcases List.mem_append.mp hx9 with q | q
              · exact hS.2 x q
              · obtain ⟨y, -, rfl⟩ := List.mem_map.mp q
                exact Nat.le_add_right _ _⟩ hL _ rfl X'
          exact ⟨t9, step t9 b1, b2⟩
      · cases hs
    · cases hs
  · cases hs
end SXK
