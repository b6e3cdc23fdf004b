/-! ===== instructions on the heap ===== -/
section SXH
variable {p : Program} {l : Launch} {e : Env} {R : Room} {s : State} {m : MethodId} {args : Array Value} {below : List Frame} {meth : Method} {c : Code} {Q : State → Prop} {cc : ByteArray} {nL : Nat} {own : String} {Ts : List Cond} {w : sx_Wd} {cl : List vw_C} {ra : List Nat} {S : List Int32} {lim : Nat × Nat} {n0 z0 fr lo : Nat}
variable {pc : Nat} {ls ls1 : sx_L} {st st1 : List Value} {h h1 : sx_H} {t : Option Nat} {en : sx_N}
theorem sx_arr_eq {v : Value} {k : Nat} {x : sx_C} (e : sx_arr h v = some (k, x)) : v = .ref (k + 1) ∧ sx_get h k = some x := by
  unfold sx_arr at e
  split at e
  · next k0 =>
    split at e
    · next c0 hc => cases e; exact ⟨rfl, hc⟩
    · cases e
  · cases e
theorem sx_in {i : Int32} {n j : Nat} (hj : sx_ix i n = some j) : vp_in i n ∧ i.toNatClampNeg = j := by
  obtain ⟨h1, h2, h3⟩ := sx_ix_eq hj
  subst h2
  exact ⟨fun q => by
    rcases q with q | q
    · exact nI_pos h3 q
    · rw [nI_clamp h3] at q; omega, nI_clamp h3⟩
/-- one cell of the world -/
theorem sx_one {H : Heap} (hH : sx_HR w cl ra h H) {k : Nat} {x : sx_C} (hk : sx_get h k = some x) : va_P w.2.2.2.2 cl [(w.2.1 + k, sx_ce w x)] H := by
  intro i q hq
  cases i with
  | zero => cases hq; exact (hH.2.2 k x hk).1
  | succ i => cases hq
theorem sx_w_alen (E : sx_Ev p R s m args c cc nL own Ts w cl ra S lim n0 z0 fr lo) (hs : sx_i37 S en ls st h = some (t, ls1, st1, h1)) (hd : decode cc pc = .ok (.arraylength, 1))
    (kk : t = none → sx_At p l e R s m args below meth c Q nL w cl ra n0 z0 (pc + 1) ls1 st1 h1) : sx_At p l e R s m args below meth c Q nL w cl ra n0 z0 pc ls st h := by
  obtain ⟨hx, hb, hml, hown, hts, hK, hcl, hX, hbB, -⟩ := E
  have hts := sx_now (args := args) hts
  unfold sx_i37 at hs
  split at hs
  · next r =>
    cases hs
    intro a1 a2 H locs lm hH hS hL
    obtain ⟨scr, x1, x2, x3, x4, x5⟩ := hX
    refine W.alen (n := Int32.ofNat S.length) hx hb (by rw [hS.1 _ hbB]; exact x1) x2 (by rw [x4] <;> rfl) rfl rfl hd ?_
    exact kk rfl a1 a2 H locs lm hH hS hL
  · next v r _ =>
    split at hs
    · next k a ha =>
      cases hs
      obtain ⟨rfl, hg⟩ := sx_arr_eq ha
      obtain ⟨ty, n, f⟩ := a
      intro a1 a2 H locs lm hH hS hL
      have h3 : ty < 3 := (hH.2.2 k _ hg).2
      refine va_alen (D := w.2.2.2.2) (cl := cl) (tys := sx_tys w) (ty := (match ty with | 0 => .int | 1 => .boolean | 2 => .byte | _ => .long)) hx hb hK.1 (sx_one hH hg) 0 ty rfl ?_ rfl hd ?_
      · match ty, h3 with
        | 0, _ => rfl
        | 1, _ => rfl
        | 2, _ => rfl
      · exact kk rfl a1 a2 H locs lm hH hS hL
    · next k a ha =>
      cases hs
      obtain ⟨rfl, hg⟩ := sx_arr_eq ha
      obtain ⟨ci, n, f⟩ := a
      intro a1 a2 H locs lm hH hS hL
      obtain ⟨q, -, hA, -⟩ := hK.2 ci (hH.2.2 k _ hg).2
      refine W.alen (n := Int32.ofNat n) hx hb (hH.2.2 k _ hg).1 (hA n (fun j => va_rf (sx_o w (sx_ag none f j)))) (by show (vp_cell _ _).slots.size.toInt32 = _; rw [vp_cell_q, arrV_size] <;> rfl) rfl rfl hd ?_
      exact kk rfl a1 a2 H locs lm hH hS hL
    · cases hs
  · cases hs
theorem sx_w_iald (E : sx_Ev p R s m args c cc nL own Ts w cl ra S lim n0 z0 fr lo) (hs : sx_i38 S en ls st h = some (t, ls1, st1, h1)) (hd : decode cc pc = .ok (.iaload, 1))
    (kk : t = none → sx_At p l e R s m args below meth c Q nL w cl ra n0 z0 (pc + 1) ls1 st1 h1) : sx_At p l e R s m args below meth c Q nL w cl ra n0 z0 pc ls st h := by
  obtain ⟨hx, hb, hml, hown, hts, hK, hcl, hX, hbB, -⟩ := E
  have hts := sx_now (args := args) hts
  unfold sx_i38 at hs
  split at hs
  · next i r =>
    split at hs
    · next j hj =>
      cases hs
      obtain ⟨g1, g2⟩ := sx_in hj
      obtain ⟨g3, -, -⟩ := sx_ix_eq hj
      intro a1 a2 H locs lm hH hS hL
      obtain ⟨scr, x1, x2, x3, x4, x5⟩ := hX
      refine W.iald (v := .int (sx_lg 0 S j)) hx hb (by rw [hS.1 _ hbB]; exact x1) x2 x3 (by rw [x4]; exact g1) (by rw [g2]; exact x5 j g3) rfl rfl hd ?_
      exact kk rfl a1 a2 H locs lm hH hS hL
    · cases hs
  · next i v r _ =>
    split at hs
    · next k n f ha =>
      split at hs
      · next j hj =>
        cases hs
        obtain ⟨rfl, hg⟩ := sx_arr_eq ha
        obtain ⟨g1, g2⟩ := sx_in hj
        intro a1 a2 H locs lm hH hS hL
        refine va_iald (D := w.2.2.2.2) (cl := cl) (tys := sx_tys w) hx hb hK.1 (sx_one hH hg) 0 0 rfl rfl g1 hd ?_
        rw [g2]
        exact kk rfl a1 a2 H locs lm hH hS hL
      · cases hs
    · cases hs
  · cases hs
theorem sx_w_bald (E : sx_Ev p R s m args c cc nL own Ts w cl ra S lim n0 z0 fr lo) (hs : sx_i39 en ls st h = some (t, ls1, st1, h1)) (hd : decode cc pc = .ok (.baload, 1))
    (kk : t = none → sx_At p l e R s m args below meth c Q nL w cl ra n0 z0 (pc + 1) ls1 st1 h1) : sx_At p l e R s m args below meth c Q nL w cl ra n0 z0 pc ls st h := by
  obtain ⟨hx, hb, hml, hown, hts, hK, hcl, hX, hbB, -⟩ := E
  have hts := sx_now (args := args) hts
  unfold sx_i39 at hs
  split at hs
  · next i v r =>
    split at hs
    · next k n f ha =>
      split at hs
      · next j hj =>
        cases hs
        obtain ⟨rfl, hg⟩ := sx_arr_eq ha
        obtain ⟨g1, g2⟩ := sx_in hj
        intro a1 a2 H locs lm hH hS hL
        refine va_zald (D := w.2.2.2.2) (cl := cl) (tys := sx_tys w) hx hb hK.1 (sx_one hH hg) 0 1 rfl rfl g1 hd ?_
        rw [g2]
        exact kk rfl a1 a2 H locs lm hH hS hL
      · cases hs
    · next k n f ha =>
      split at hs
      · next j hj =>
        cases hs
        obtain ⟨rfl, hg⟩ := sx_arr_eq ha
        obtain ⟨g1, g2⟩ := sx_in hj
        intro a1 a2 H locs lm hH hS hL
        refine va_bald (D := w.2.2.2.2) (cl := cl) (tys := sx_tys w) hx hb hK.1 (sx_one hH hg) 0 2 rfl rfl g1 hd ?_
        rw [g2]
        exact kk rfl a1 a2 H locs lm hH hS hL
      · cases hs
    · cases hs
  · cases hs
theorem sx_w_lald (E : sx_Ev p R s m args c cc nL own Ts w cl ra S lim n0 z0 fr lo) (hs : sx_i40 en ls st h = some (t, ls1, st1, h1)) (hd : decode cc pc = .ok (.laload, 1))
    (kk : t = none → sx_At p l e R s m args below meth c Q nL w cl ra n0 z0 (pc + 1) ls1 st1 h1) : sx_At p l e R s m args below meth c Q nL w cl ra n0 z0 pc ls st h := by
  obtain ⟨hx, hb, hml, hown, hts, hK, hcl, hX, hbB, -⟩ := E
  have hts := sx_now (args := args) hts
  unfold sx_i40 at hs
  split at hs
  · next i v r =>
    split at hs
    · next k n f ha =>
      split at hs
      · next j hj =>
        cases hs
        obtain ⟨rfl, hg⟩ := sx_arr_eq ha
        obtain ⟨g1, g2⟩ := sx_in hj
        intro a1 a2 H locs lm hH hS hL
        refine va_lald (D := w.2.2.2.2) (cl := cl) (tys := sx_tys w) hx hb hK.1 (sx_one hH hg) 0 3 rfl rfl g1 hd ?_
        rw [g2]
        exact kk rfl a1 a2 H locs lm hH hS hL
      · cases hs
    · cases hs
  · cases hs
theorem sx_w_aald (E : sx_Ev p R s m args c cc nL own Ts w cl ra S lim n0 z0 fr lo) (hs : sx_i41 en ls st h = some (t, ls1, st1, h1)) (hd : decode cc pc = .ok (.aaload, 1))
    (kk : t = none → sx_At p l e R s m args below meth c Q nL w cl ra n0 z0 (pc + 1) ls1 st1 h1) : sx_At p l e R s m args below meth c Q nL w cl ra n0 z0 pc ls st h := by
  obtain ⟨hx, hb, hml, hown, hts, hK, hcl, hX, hbB, -⟩ := E
  have hts := sx_now (args := args) hts
  unfold sx_i41 at hs
  split at hs
  · next i v r =>
    split at hs
    · next k ci n f ha =>
      split at hs
      · next j hj =>
        cases hs
        obtain ⟨rfl, hg⟩ := sx_arr_eq ha
        obtain ⟨g1, g2⟩ := sx_in hj
        obtain ⟨g3, -, -⟩ := sx_ix_eq hj
        intro a1 a2 H locs lm hH hS hL
        obtain ⟨q, -, hA, -⟩ := hK.2 ci (hH.2.2 k _ hg).2
        refine W.aald (v := va_rf (sx_o w (sx_ag none f j))) (ty := .object q.1) hx hb (hH.2.2 k _ hg).1 (hA n (fun j => va_rf (sx_o w (sx_ag none f j)))) rfl (fun q => by cases q) (by show ¬ (i < 0 ∨ (arrV _ _ _).slots.size ≤ _); rw [arrV_size]; exact g1) (by show (arrV _ _ _).slots[_]? = _; rw [g2, arrV_read _ _ g3]) rfl rfl hd ?_
        rw [← sx_v_rf]
        exact kk rfl a1 a2 H locs lm hH hS hL
      · cases hs
    · cases hs
  · cases hs
theorem sx_upV (w : sx_Wd) (f : List (List (Option Nat))) (j q : Nat) : (fun i => va_rf (sx_o w (sx_ag none (sx_as none f j (some (q + 1))) i))) = updV (fun i => va_rf (sx_o w (sx_ag none f i))) j (.ref (w.2.1 + q)) := by
  funext i
  rw [sx_ag_as]
  unfold updV
  by_cases e : i = j
  · rw [if_pos e, if_pos e]; rfl
  · rw [if_neg e, if_neg e]
theorem sx_upI (f : List (List Int32)) (j : Nat) (x : Int32) : (fun i => Value.int (sx_ag 0 (sx_as 0 f j x) i)) = updV (fun i => .int (sx_ag 0 f i)) j (.int x) := by
  funext i
  rw [sx_ag_as]
  unfold updV
  by_cases e : i = j
  · rw [if_pos e, if_pos e]
  · rw [if_neg e, if_neg e]
theorem sx_upL (f : List (List Int64)) (j : Nat) (x : Int64) : (fun i => Value.long (sx_ag 0 (sx_as 0 f j x) i)) = updV (fun i => .long (sx_ag 0 f i)) j (.long x) := by
  funext i
  rw [sx_ag_as]
  unfold updV
  by_cases e : i = j
  · rw [if_pos e, if_pos e]
  · rw [if_neg e, if_neg e]
theorem sx_w_iast (E : sx_Ev p R s m args c cc nL own Ts w cl ra S lim n0 z0 fr lo) (hs : sx_i42 en ls st h = some (t, ls1, st1, h1)) (hd : decode cc pc = .ok (.iastore, 1))
    (kk : t = none → sx_At p l e R s m args below meth c Q nL w cl ra n0 z0 (pc + 1) ls1 st1 h1) : sx_At p l e R s m args below meth c Q nL w cl ra n0 z0 pc ls st h := by
  obtain ⟨hx, hb, hml, hown, hts, hK, hcl, hX, hbB, -⟩ := E
  have hts := sx_now (args := args) hts
  unfold sx_i42 at hs
  split at hs
  · next x i v r =>
    split at hs
    · next k n f ha =>
      split at hs
      · next j hj =>
        rw [sx_frc_eq] at hs
        cases hs
        obtain ⟨rfl, hg⟩ := sx_arr_eq ha
        obtain ⟨g1, g2⟩ := sx_in hj
        intro a1 a2 H locs lm hH hS hL
        refine W.iast hx hb (hH.2.2 k _ hg).1 ((hK.1.2 0 (w.2.2.1 0, .int) rfl).1 n (fun j => .int (sx_ag 0 f j))) (fun q => by cases q) (by show ¬ (i < 0 ∨ (arrV _ _ _).slots.size ≤ _); rw [arrV_size]; exact g1) rfl rfl hd fun H1 e1 z o1 => ?_
        refine kk rfl a1 a2 H1 _ lm (hH.set hg ?_ (hH.2.2 k _ hg).2 z o1) (hS.put (Nat.le_add_right _ _) o1) hL
        show H1[w.2.1 + k]? = some (arrV (w.2.2.1 0) n (fun i => .int (sx_ag 0 (sx_as 0 f j x) i)))
        rw [sx_upI, ← arrV_store, e1, g2]
        rfl
      · cases hs
    · cases hs
  · cases hs
theorem sx_w_bast (E : sx_Ev p R s m args c cc nL own Ts w cl ra S lim n0 z0 fr lo) (hs : sx_i43 en ls st h = some (t, ls1, st1, h1)) (hd : decode cc pc = .ok (.bastore, 1))
    (kk : t = none → sx_At p l e R s m args below meth c Q nL w cl ra n0 z0 (pc + 1) ls1 st1 h1) : sx_At p l e R s m args below meth c Q nL w cl ra n0 z0 pc ls st h := by
  obtain ⟨hx, hb, hml, hown, hts, hK, hcl, hX, hbB, -⟩ := E
  have hts := sx_now (args := args) hts
  unfold sx_i43 at hs
  split at hs
  · next x i v r =>
    split at hs
    · next k n f ha =>
      split at hs
      · next j hj =>
        rw [sx_frc_eq] at hs
        cases hs
        obtain ⟨rfl, hg⟩ := sx_arr_eq ha
        obtain ⟨g1, g2⟩ := sx_in hj
        intro a1 a2 H locs lm hH hS hL
        refine W.zast hx hb (hH.2.2 k _ hg).1 ((hK.1.2 1 (w.2.2.1 1, .boolean) rfl).1 n (fun j => .int (sx_ag 0 f j))) (fun q => by cases q) (by show ¬ (i < 0 ∨ (arrV _ _ _).slots.size ≤ _); rw [arrV_size]; exact g1) rfl rfl hd fun H1 e1 z o1 => ?_
        refine kk rfl a1 a2 H1 _ lm (hH.set hg ?_ (hH.2.2 k _ hg).2 z o1) (hS.put (Nat.le_add_right _ _) o1) hL
        show H1[w.2.1 + k]? = some (arrV (w.2.2.1 1) n (fun i => .int (sx_ag 0 (sx_as 0 f j (vp_nar .boolean x)) i)))
        rw [sx_upI, ← arrV_store, e1, g2]
        rfl
      · cases hs
    · next k n f ha =>
      split at hs
      · next j hj =>
        rw [sx_frc_eq] at hs
        cases hs
        obtain ⟨rfl, hg⟩ := sx_arr_eq ha
        obtain ⟨g1, g2⟩ := sx_in hj
        intro a1 a2 H locs lm hH hS hL
        refine W.bast hx hb (hH.2.2 k _ hg).1 ((hK.1.2 2 (w.2.2.1 2, .byte) rfl).1 n (fun j => .int (sx_ag 0 f j))) (fun q => by cases q) (by show ¬ (i < 0 ∨ (arrV _ _ _).slots.size ≤ _); rw [arrV_size]; exact g1) rfl rfl hd fun H1 e1 z o1 => ?_
        refine kk rfl a1 a2 H1 _ lm (hH.set hg ?_ (hH.2.2 k _ hg).2 z o1) (hS.put (Nat.le_add_right _ _) o1) hL
        show H1[w.2.1 + k]? = some (arrV (w.2.2.1 2) n (fun i => .int (sx_ag 0 (sx_as 0 f j (vp_nar .byte x)) i)))
        rw [sx_upI, ← arrV_store, e1, g2]
        rfl
      · cases hs
    · cases hs
  · cases hs
theorem sx_w_last (E : sx_Ev p R s m args c cc nL own Ts w cl ra S lim n0 z0 fr lo) (hs : sx_i44 en ls st h = some (t, ls1, st1, h1)) (hd : decode cc pc = .ok (.lastore, 1))
    (kk : t = none → sx_At p l e R s m args below meth c Q nL w cl ra n0 z0 (pc + 1) ls1 st1 h1) : sx_At p l e R s m args below meth c Q nL w cl ra n0 z0 pc ls st h := by
  obtain ⟨hx, hb, hml, hown, hts, hK, hcl, hX, hbB, -⟩ := E
  have hts := sx_now (args := args) hts
  unfold sx_i44 at hs
  split at hs
  · next x i v r =>
    split at hs
    · next k n f ha =>
      split at hs
      · next j hj =>
        cases hs
        obtain ⟨rfl, hg⟩ := sx_arr_eq ha
        obtain ⟨g1, g2⟩ := sx_in hj
        intro a1 a2 H locs lm hH hS hL
        refine W.last hx hb (hH.2.2 k _ hg).1 ((hK.1.2 3 (w.2.2.1 3, .long) rfl).1 n (fun j => .long (sx_ag 0 f j))) (fun q => by cases q) (by show ¬ (i < 0 ∨ (arrV _ _ _).slots.size ≤ _); rw [arrV_size]; exact g1) rfl rfl hd fun H1 e1 z o1 => ?_
        refine kk rfl a1 a2 H1 _ lm (hH.set hg ?_ (hH.2.2 k _ hg).2 z o1) (hS.put (Nat.le_add_right _ _) o1) hL
        show H1[w.2.1 + k]? = some (arrV (w.2.2.1 3) n (fun i => .long (sx_ag 0 (sx_as 0 f j x) i)))
        rw [sx_upL, ← arrV_store, e1, g2]
        rfl
      · cases hs
    · cases hs
  · cases hs
theorem sx_w_aast (E : sx_Ev p R s m args c cc nL own Ts w cl ra S lim n0 z0 fr lo) (hs : sx_i45 en ls st h = some (t, ls1, st1, h1)) (hd : decode cc pc = .ok (.aastore, 1))
    (kk : t = none → sx_At p l e R s m args below meth c Q nL w cl ra n0 z0 (pc + 1) ls1 st1 h1) : sx_At p l e R s m args below meth c Q nL w cl ra n0 z0 pc ls st h := by
  obtain ⟨hx, hb, hml, hown, hts, hK, hcl, hX, hbB, -⟩ := E
  have hts := sx_now (args := args) hts
  unfold sx_i45 at hs
  split at hs
  · next q0 i v r =>
    split at hs
    · next k ci n f o ha hq =>
      cases ho : Nat.beq o.1 ci with
      | false => rw [ho] at hs; cases hs
      | true =>
        rw [ho] at hs
        dsimp only [cond] at hs
        split at hs
        · next j hj =>
          cases hs
          have ho := Nat.eq_of_beq_eq_true ho
          obtain ⟨rfl, hg⟩ := sx_arr_eq ha
          obtain ⟨g1, g2⟩ := sx_in hj
          obtain ⟨g3, -, -⟩ := sx_ix_eq hj
          intro a1 a2 H locs lm hH hS hL
          obtain ⟨qc, hqc, hA, hR⟩ := hK.2 ci (hH.2.2 k _ hg).2
          obtain ⟨r', hr', cellV, v1, v2, v3, -⟩ := (hH.2.2 q0 _ hq).1
          have hr' : cl[o.1]? = some r' := hr'
          rw [ho] at hr'
          cases hqc.symm.trans hr'
          have hcls := (hK.1.1 ci qc hqc).2
          obtain ⟨kA, comp, k1, k2, k3, -⟩ := hR
          have hcomp : comp = w.2.2.2.2.1 ci := Option.some.inj (k3.symm.trans hcls.1)
          subst hcomp
          obtain ⟨kC, hkC, -⟩ := hcls.2
          have v2 : cellV.cls = w.2.2.2.2.1 ci := by rw [v2]; show w.2.2.2.2.1 o.1 = _; rw [ho]
          refine W.aast (v := w.2.1 + q0) hx hb (hH.2.2 k _ hg).1 (fun q h => by cases h) (fun h => by cases h) k1 k2 rfl hkC ⟨fun q => g1 (Or.inl q), by show _ < (arrV _ _ _).slots.size; rw [arrV_size, g2]; exact g3⟩ v1 (fun q h => by rw [v3] at h; cases h) (by rw [v2]; exact hkC) (by rw [v2]; exact va_assign hcls) rfl rfl hd fun H1 e1 z o1 => ?_
          refine kk rfl a1 a2 H1 _ lm (hH.set hg ?_ (hH.2.2 k _ hg).2 z o1) (hS.put (Nat.le_add_right _ _) o1) hL
          show H1[w.2.1 + k]? = some (arrV (w.2.2.2.1 ci) n (fun i => va_rf (sx_o w (sx_ag none (sx_as none f j (some (q0 + 1))) i))))
          rw [sx_upV, ← arrV_store, e1, g2]
          rfl
        · cases hs
    · cases hs
  · cases hs
end SXH
