theorem sx_locs_args (w : sx_Wd) (as : List Value) : ∀ (i : Nat), as.all (fun v => Nat.beq v.category 1) = true → (sx_locs as i).map (fun q => (q.1, sx_v w q.2)) = lv_args i (as.map (sx_v w)) := by
  induction as with
  | nil => intro i _; rfl
  | cons v as ih =>
    intro i h
    rw [List.all_cons, Bool.and_eq_true] at h
    have hv := Nat.eq_of_beq_eq_true h.1
    show (i, sx_v w v) :: (sx_locs as (i + 1)).map _ = (i, sx_v w v) :: lv_args (if (sx_v w v).category = 2 then i + 2 else i + 1) (as.map (sx_v w))
    rw [sx_v_cat, hv, if_neg (by decide), ih (i + 1) h.2]
theorem sx_sl_len (w : sx_Wd) (as : List Value) (h : as.all (fun v => Nat.beq v.category 1) = true) : (lg_sl (as.map (sx_v w))).length = as.length := by
  induction as with
  | nil => rfl
  | cons v as ih =>
    rw [List.all_cons, Bool.and_eq_true] at h
    have hv := Nat.eq_of_beq_eq_true h.1
    show ((if (sx_v w v).category = 2 then [Slot.val (sx_v w v), .second] else [.val (sx_v w v)]) ++ lg_sl (as.map (sx_v w))).length = as.length + 1
    rw [sx_v_cat, hv, if_neg (by decide), List.length_append, ih h.2]
    simp
    omega
section SXD
variable {p : Program} {l : Launch} {e : Env} {R : Room} {s : State} {m : MethodId} {args : Array Value} {below : List Frame} {meth : Method} {c : Code} {cc : ByteArray} {nL : Nat} {own : String} {Ts : List Cond} {w : sx_Wd} {cl : List vw_C} {ra : List Nat} {S : List Int32} {lim : Nat × Nat} {n0 z0 fr lo : Nat}
variable {pc : Nat} {ls : sx_L} {st : List Value} {h : sx_H} {en : sx_N} {r r1 : sx_R} {cd : List (List sx_N)}
set_option maxHeartbeats 2000000 in
theorem sx_w_call (E : sx_Ev p R s m args c cc nL own Ts w cl ra S lim n0 z0 fr lo) (hlocks : meth.locks = false) {hs hm : List (Nat × Nat × Nat × Nat)} (htab : c.exceptionTable.toList = tableOf hm) (hhok : sx_hOK Ts cl cd own hs hm)
    {idx frj loj : Nat} {N : sx_Mt} {q : sx_Inf} (hok : sx_vok Ts own en.1 idx q N.1 en.2.2.1) (hcw : sx_cw Ts q N.1) (hz9 : en.1 = 56 → ∃ z : vw_C, cl[N.2.1]? = some z ∧ z.1 = q.1.cls) (hfrj : frj + 1 ≤ fr) (hloj : 8 + (N.1 + 11) + loj ≤ lo) (hnl : en.2.2.1 ≤ N.1)
    {as rest : List Value} (hargs : sx_args en.2.2.1 st [] = some (as, rest)) (hcond : (Nat.ble (rest.map fun v => v.category).sum 8 && as.all (fun v => Nat.beq v.category 1) && sx_recv en.1 N.2.1 h as && (Nat.ble h.1 lim.1 && Nat.ble h.2.1 lim.2)) = true)
    (hcal : ∀ (s' : State) (mk : MethodId) (a' : Array Value) (below' : List Frame) (methk : Method) (ck : Code), sx_mAt q N.1 s' mk methk ck → (∀ x ∈ Ts, sx_stays s' w.2.1 x) → sx_KR w cl ra s' → va_X w.1 S.length (fun j => sx_lg 0 S j) s' s'.heap →
      sx_At p l e ({ frames := frj, cells := lim.1 - h.1, slots := lim.2 - h.2.1, locals := loj } : Room) s' mk a' below' methk ck (sx_Qe below' s' w cl ra h.1 h.2.1 r1) N.1 w cl ra h.1 h.2.1 0 (sx_locs as 0) [] h)
    (hd : decode cc pc = .ok (sx_inv en.1 idx, 3))
    (kk : ∀ v, r1.1 = .inl v → sx_At p l e R s m args below meth c (sx_Qe below s w cl ra n0 z0 r) nL w cl ra n0 z0 (pc + 3) ls (v.toList ++ rest) r1.2)
    (kx : ∀ x, r1.1 = .inr x → (hs = [] ∧ r = (.inr x, r1.2)) ∨ ∃ (o : Nat × List Value) (t : Nat), sx_get r1.2 x = some (.inl o) ∧ sx_hand hs pc o.1 = some t ∧ sx_xOK Ts cl hs o.1 ∧ ∀ en1 : sx_N, sx_at cd t = some en1 → sx_At p l e R s m args below meth c (sx_Qe below s w cl ra n0 z0 r) nL w cl ra n0 z0 en1.2.2.2.1 ls [.ref (x + 1)] r1.2) :
    sx_At p l e R s m args below meth c (sx_Qe below s w cl ra n0 z0 r) nL w cl ra n0 z0 pc ls st h := by
  obtain ⟨hx, hb, hml, hown, hts, hK, hcl, hX, hbB, hrc, hrs, hfr, hlo⟩ := id E
  rw [Bool.and_eq_true, Bool.and_eq_true, Bool.and_eq_true, Bool.and_eq_true] at hcond
  obtain ⟨⟨⟨hc1, hc2⟩, hc3⟩, hc4, hc5⟩ := hcond
  have hc4 := Nat.le_of_ble_eq_true hc4
  have hc5 := Nat.le_of_ble_eq_true hc5
  have hc1 := Nat.le_of_ble_eq_true hc1
  obtain ⟨pre, hst, hpl9, has⟩ := sx_args_eq _ _ _ _ _ hargs
  rw [List.append_nil] at has
  have hasl : as.length = en.2.2.1 := by rw [has, List.length_reverse]; exact hpl9
  intro a1 a2 H locs lm hH hS hL
  intro T hT X
  obtain ⟨mk, methk, ck, hk⟩ := sx_mAt_of (args := args) hcw (sx_now hts)
  have hstk : st.map (sx_v w) = (as.map (sx_v w)).reverse ++ rest.map (sx_v w) := by
    rw [hst, List.map_append, has, List.map_reverse, List.reverse_reverse]
  obtain ⟨vm₁, X1, hstep⟩ := sx_invoke (rest := rest.map (sx_v w)) (lm := lm) X hx hb hown (sx_now hts) hK (by rw [hT]; exact hH) hok hk hz9 hasl hc3 hd
  rw [hstk]
  have hW1 : s.WarmedH vm₁ := X1.warmed
  have hal := hW1.alike
  obtain ⟨k1, k2, k3, k4, k5, k6, k7, k8, k9, k10⟩ := id hk
  have hsize : (F0 m pc lm (rest.map (sx_v w))).locals.size = c.maxLocals := by rw [hml]; exact hL.1
  have hcat : 2 * (F0 m pc lm (rest.map (sx_v w))).monitorRoom + ((F0 m pc lm (rest.map (sx_v w))).stack.map fun v => v.category).sum ≤ 8 := by
    show 2 * 0 + ((rest.map (sx_v w)).map fun v => v.category).sum ≤ 8
    rw [sx_cat_map]
    omega
  have hdc : decode c.code (F0 m pc lm (rest.map (sx_v w))).pc = .ok (sx_inv en.1 idx, 3) := by rw [hb]; exact hd
  obtain ⟨kP, hkP, hkPn⟩ := className_of_methodNamed k1
  obtain ⟨Xk, hent⟩ := X1.into (g := F0 m pc lm (rest.map (sx_v w))) rfl hsize hdc ((as.map (sx_v w)).toArray) (R' := ({ frames := frj, cells := lim.1 - h.1, slots := lim.2 - h.2.1, locals := loj } : Room)) (by show vm₁.method? mk = some methk; rw [hal.method?]; exact k2) k3 k8
    (sx_plainM (U := T.setVm vm₁) hW1 k1 k2 hok.2.1) (by show frj + 1 ≤ R.frames; omega) (by show _ + (ck.maxLocals + 11) + loj ≤ R.locals; rw [k5]; omega) (by show h.1 - n0 + (lim.1 - h.1) ≤ R.cells; omega) (by show h.2.1 - z0 + (lim.2 - h.2.1) ≤ R.slots; omega)
  generalize hs' : (T.setVm vm₁).calling (F0 m pc lm (rest.map (sx_v w))) mk (as.map (sx_v w)).toArray = s' at Xk
  have hvm' : s'.vm = vm₁ := by rw [← hs']; rfl
  have hheap' : s'.heap = H := by rw [← hs', ← hT]; rfl
  have hWs' : s.WarmedH s'.vm := by rw [hvm']; exact hW1
  have hqs' : ∀ q : Nat, q < w.2.1 → s'.heap[q]? = s.heap[q]? := fun q hq => by rw [hheap']; exact hS.1 q hq
  have hmAt : sx_mAt q N.1 s' mk methk ck := by
    refine ⟨?_, by rw [hvm', hal.method?]; exact k2, k3, k4, k5, k6, k7, k8, k9, k10⟩
    rw [← hs']
    exact X1.named k1
  have hXs' : va_X w.1 S.length (fun j => sx_lg 0 S j) s' s'.heap := (hX.moved hWs'.alike).kept (hqs' _ hbB)
  have hlen9 := sx_sl_len w as hc2
  have hlm := lv_entry (as.map (sx_v w)) (n := N.1) (by rw [hlen9, hasl]; exact hnl)
  have hW9 := hcal s' mk (as.map (sx_v w)).toArray (.java (F0 m pc lm (rest.map (sx_v w))) :: below) methk ck hmAt (fun x hx9 => (hts x hx9).later hWs' hqs') (hK.moved hWs'.alike) hXs' (Nat.le_refl _) (Nat.le_refl _) H [] _ hH ⟨fun q hq => by rw [hheap'], fun _ h9 => by cases h9⟩ (show sx_LR w N.1 (sx_locs as 0) _ by unfold sx_LR; rw [sx_locs_args w as 0 hc2]; exact hlm)
  rw [Nat.sub_self, Nat.sub_self] at hW9
  obtain ⟨t, hst1, o, hrun, hend, hWt, ⟨L, hsame, hLb⟩, hHR, hold, hn9, hz10, hout⟩ := hW9 _ (by show T.heap = H; exact hT) Xk
  have hst2 : ∀ acts, Steps p.tables e below (doInvoke e ((T.setVm vm₁).setTop (F0 m pc lm (rest.map (sx_v w)))) acts mk (as.map (sx_v w)).toArray).1 t := fun acts => by
    have h9 := sx_Steps hst1
    rw [k5, lg_entry_eq] at h9
    rw [hent acts, k5, lg_entry_eq]
    exact h9
  rw [← hs'] at hWt hsame
  have hcells : h.1 - n0 + (r1.2.1 - h.1) = r1.2.1 - n0 := by omega
  have hslots : h.2.1 - z0 + (r1.2.2.1 - h.2.1) = r1.2.2.1 - z0 := by omega
  have hSR : ∀ (T' : State), T'.heap = t.heap → sx_SR w s T'.heap (locs ++ L) := fun T' h9 => ⟨fun q hq => by rw [h9, hold q hq]; exact hqs' q hq, fun x hx9 => by
    rcases List.mem_append.mp hx9 with h8 | h8
    · exact hS.2 x h8
    · exact hLb x h8⟩
  cases hr1 : r1.1 with
  | inl v =>
    rw [hr1] at hout
    have hout : o = .returned (v.map (sx_v w)) := hout
    subst hout
    obtain ⟨T', X', -, -, ht⟩ := X1.outOf (g := F0 m pc lm (rest.map (sx_v w))) rfl hdc hend hWt hsame
    rw [hcells, hslots] at X'
    have hh : T'.heap = t.heap := by rw [ht]; rfl
    have hk9 := kk v hr1 (by omega) (by omega) T'.heap (locs ++ L) lm (by rw [hh]; exact hHR) (hSR T' hh) hL
    obtain ⟨t2, b1, b2⟩ := hk9 T' rfl X'
    refine ⟨t2, hstep t2 (fun acts => (hst2 acts).trans ?_), b2⟩
    rw [ht]
    have e9 : (Option.map (sx_v w) v).toList ++ rest.map (sx_v w) = (v.toList ++ rest).map (sx_v w) := by
      rw [List.map_append]
      cases v <;> rfl
    show Steps p.tables e below (T'.setTop (F0 m (pc + 3) lm ((Option.map (sx_v w) v).toList ++ rest.map (sx_v w)))) t2
    rw [e9]
    exact b1
  | inr x =>
    rw [hr1] at hout
    have hout : o = .threw (w.2.1 + x) := hout
    subst hout
    obtain ⟨T', X', hWT', -, ht⟩ := X1.outOfThrown (g := F0 m pc lm (rest.map (sx_v w))) rfl hend hWt hsame
    rw [hcells, hslots] at X'
    have hh : T'.heap = t.heap := by rw [ht, Stand.throwing_heap]
    rcases kx x hr1 with ⟨rfl, rfl⟩ | ⟨o9, t9, g1, g2, g3, g4⟩
    · have hm0 : hm = [] := by
        have := hhok.1
        simpa using this.symm
      obtain ⟨u1, u2, u3, u4, u5⟩ := X'.leaveThrown (w.2.1 + x) (g := F0 m pc lm (rest.map (sx_v w))) rfl rfl rfl (fun y hy => by rw [htab, hm0] at hy; cases hy) hlocks
      refine ⟨_, hstep _ (fun acts => (hst2 acts).trans (by rw [ht]; exact u1)), .threw (w.2.1 + x), u2, u3, u4, ⟨locs ++ L, u5, (hSR T' hh).2⟩, ?_, ?_, by show n0 ≤ r1.2.1; omega, by show z0 ≤ r1.2.2.1; omega, rfl⟩
      · show sx_HR w cl ra r1.2 T'.heap
        rw [hh]; exact hHR
      · exact (hSR T' hh).1
    · have hc9 := hHR.2.2 x _ g1
      obtain ⟨⟨y9, y1, cell, y2, y3, y4, -⟩, -⟩ := hc9
      have hpl : e.platform.magicAccessors = ({} : Platform).magicAccessors := by rw [X.admits.platform]
      obtain ⟨vm', en1, v1, v2, v3⟩ := sx_search (e := e) (cd := cd) (f := F0 m pc lm (rest.map (sx_v w))) (a := w.2.1 + x) hpl hown hts hK y1 hs hm hhok g3 g2 ((T'.setTop (F0 m pc lm (rest.map (sx_v w)))).pushFrame (.throwing (w.2.1 + x))) cell (by rw [Stand.throwing_vm]; exact X'.warmed) (by rw [Stand.throwing_heap, hh]; exact y2) y3 y4 (fun q hq => by rw [Stand.throwing_heap]; exact (hSR T' hh).1 q hq)
      have X'' := X'.noted v1
      obtain ⟨t2, b1, b2⟩ := g4 en1 v3 (by omega) (by omega) T'.heap (locs ++ L) lm (by rw [hh]; exact hHR) (hSR T' hh) hL (T'.setVm vm') rfl X''
      refine ⟨t2, hstep t2 (fun acts => (hst2 acts).trans ?_), b2⟩
      rw [ht]
      exact sx_caught X' rfl (by rw [htab]; exact v2) b1
end SXD
