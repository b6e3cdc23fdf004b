section SXG
variable {p : Program} {l : Launch} {e : Env} {R : Room} {s : State} {m : MethodId} {args : Array Value} {below : List Frame} {meth : Method} {c : Code} {Q : State → Prop} {cc : ByteArray} {nL : Nat} {own : String} {Ts : List Cond} {w : sx_Wd} {cl : List vw_C} {ra : List Nat} {S : List Int32} {lim : Nat × Nat} {n0 z0 fr lo : Nat} {D : Nat → List Value}
variable {pc : Nat} {ls ls1 : sx_L} {st st1 : List Value} {h h1 : sx_H} {t : Option Nat} {en : sx_N}
/-- the field b of the class a, as the entry idx of own links it -/
def sx_fok (Ts : List Cond) (cl : List vw_C) (own : String) (idx a b : Nat) : Prop := ∃ q : vw_C, cl[a]? = some q ∧ b < q.2.2 ∧ (Cond.fieldLink own idx (q.2.1 b).1 (q.2.1 b).2.1 (q.2.1 b).2.2.1 ∈ Ts ∨ ∃ host : String, Cond.fieldLinkNest own idx (q.2.1 b).1 (q.2.1 b).2.1 (q.2.1 b).2.2.1 host ∈ Ts)
theorem sx_w_getf (E : sx_Ev p R s m args c cc nL own Ts w cl ra S lim n0 z0 fr lo) (hs : sx_i46 en ls st h = some (t, ls1, st1, h1)) {idx : Nat} (hf : sx_fok Ts cl own idx en.2.1 en.2.2.1) (hd : decode cc pc = .ok (.getfield idx, 3))
    (kk : t = none → sx_At p l e R s m args below meth c Q nL w cl ra n0 z0 (pc + 3) ls1 st1 h1) : sx_At p l e R s m args below meth c Q nL w cl ra n0 z0 pc ls st h := by
  obtain ⟨hx, hb, hml, hown, hts, hK, hcl, hX, hbB, -⟩ := E
  have hts := sx_now (args := args) hts
  unfold sx_i46 at hs
  split at hs
  · next v r =>
    split at hs
    · next k ci fs ha =>
      cases hc : Nat.beq ci en.2.1 with
      | false => rw [hc] at hs; cases hs
      | true =>
        rw [hc] at hs
        dsimp only [cond] at hs
        split at hs
        · next u hu =>
          cases hs
          have hc := Nat.eq_of_beq_eq_true hc
          subst hc
          obtain ⟨rfl, hg⟩ := sx_arr_eq ha
          obtain ⟨⟨C, T, N⟩, q1, q2, q3⟩ := hf
          rw [sx_lo_eq] at hu
          have hu2 : (fs.map (sx_v w))[en.2.2.1]? = some (sx_v w u) := by rw [List.getElem?_map, hu]; rfl
          intro a1 a2 H locs lm hH hS hL
          rcases q3 with q3 | ⟨host, q3⟩
          · exact va_get (D := w.2.2.2.2) (cl := cl) (tys := sx_tys w) hx hb hts (hcl _ _ q1).1 hown hK.1 (sx_one hH hg) 0 rfl q1 en.2.2.1 q2 (hts _ q3) (fun _ h9 => h9) hu2 hd (kk rfl a1 a2 H locs lm hH hS hL)
          · exact va_getN (D := w.2.2.2.2) (cl := cl) (tys := sx_tys w) hx hb hts (hcl _ _ q1).1 hown hK.1 (sx_one hH hg) 0 rfl q1 en.2.2.1 q2 (hts _ q3) (fun _ h9 => h9) hu2 hd (kk rfl a1 a2 H locs lm hH hS hL)
        · cases hs
    · cases hs
  · cases hs
theorem sx_lset_map {α β : Type} (g : α → β) (d x : α) (l : List α) : ∀ n : Nat, n < l.length → (sx_lset d x l n).map g = (l.map g).set n (g x) := by
  induction l with
  | nil => intro n hn; exact absurd hn (Nat.not_lt_zero n)
  | cons a t ih =>
    intro n hn
    cases n with
    | zero => rfl
    | succ n =>
      show g a :: (sx_lset d x t n).map g = g a :: (t.map g).set n (g x)
      rw [ih n (Nat.lt_of_succ_lt_succ hn)]
/-- the field b of the class a, stored into: of ints (0), booleans (1), references (2); a final one in its class' constructor alone -/
def sx_pok (Ts : List Cond) (cl : List vw_C) (own mn : String) (idx a b f : Nat) : Prop := ∃ (q : vw_C) (ty : FieldType), cl[a]? = some q ∧ b < q.2.2 ∧ Cond.fieldLink own idx (q.2.1 b).1 (q.2.1 b).2.1 (q.2.1 b).2.2.1 ∈ Ts ∧ parseFieldDescriptor (q.2.1 b).2.2.1 = some ty ∧
  (f = 0 ∧ ty = .int ∨ f = 1 ∧ ty = .boolean ∨ f = 2 ∧ ty.isReference = true) ∧ ((q.2.1 b).2.2.2 = true → mn = "<init>" ∧ (q.2.1 b).1 = own)
theorem sx_pv_ok {f : Nat} {v : Value} {ty : FieldType} (hv : sx_pv f v = true) (ht : f = 0 ∧ ty = .int ∨ f = 1 ∧ ty = .boolean ∨ f = 2 ∧ ty.isReference = true) : narrow ty (sx_v w v) = sx_v w v ∧ fits ty (sx_v w v) = true := by
  unfold sx_pv at hv
  rcases ht with ⟨rfl, rfl⟩ | ⟨rfl, rfl⟩ | ⟨rfl, ht⟩
  · split at hv
    · exact ⟨rfl, rfl⟩
    · cases hv
    · cases hv
  · split at hv
    · next x =>
      have hv : (decide (x = 0) || decide (x = 1)) = true := hv
      rw [Bool.or_eq_true, decide_eq_true_eq, decide_eq_true_eq] at hv
      rcases hv with rfl | rfl
      · exact ⟨show narrow .boolean (.int 0) = .int 0 by decide, show fits .boolean (.int 0) = true by decide⟩
      · exact ⟨show narrow .boolean (.int 1) = .int 1 by decide, show fits .boolean (.int 1) = true by decide⟩
    · cases hv
    · cases hv
  · split at hv
    · cases hv
    · next k =>
      cases ty with
      | object C => cases k <;> exact ⟨rfl, rfl⟩
      | array u => cases k <;> exact ⟨rfl, rfl⟩
      | _ => cases ht
    · cases hv
theorem sx_w_putf (E : sx_Ev p R s m args c cc nL own Ts w cl ra S lim n0 z0 fr lo) (hs : sx_i47 en ls st h = some (t, ls1, st1, h1)) {idx : Nat} {mn : String} (hmn : meth.name = mn) (hf : sx_pok Ts cl own mn idx en.2.1 (en.2.2.1 % 1000) (en.2.2.1 / 1000)) (hd : decode cc pc = .ok (.putfield idx, 3))
    (kk : t = none → sx_At p l e R s m args below meth c Q nL w cl ra n0 z0 (pc + 3) ls1 st1 h1) : sx_At p l e R s m args below meth c Q nL w cl ra n0 z0 pc ls st h := by
  obtain ⟨hx, hb, hml, hown, hts, hK, hcl, hX, hbB, -⟩ := E
  have hts := sx_now (args := args) hts
  unfold sx_i47 at hs
  split at hs
  · next u v r =>
    split at hs
    · next k ci fs ha =>
      cases hc : (Nat.beq ci en.2.1 && Nat.blt (en.2.2.1 % 1000) fs.length && sx_pv (en.2.2.1 / 1000) u) with
      | false => rw [hc] at hs; cases hs
      | true =>
        rw [hc] at hs
        cases hs
        rw [Bool.and_eq_true, Bool.and_eq_true] at hc
        obtain ⟨⟨hc1, hc2⟩, hc3⟩ := hc
        have hc1 := Nat.eq_of_beq_eq_true hc1
        rw [Nat.blt_eq] at hc2
        subst hc1
        obtain ⟨rfl, hg⟩ := sx_arr_eq ha
        generalize en.2.2.1 % 1000 = kf at *
        obtain ⟨⟨C, T, N⟩, ty, q1, q2, q3, q4, q5, q6⟩ := hf
        obtain ⟨hn, hfit⟩ := sx_pv_ok (w := w) hc3 q5
        intro a1 a2 H locs lm hH hS hL
        obtain ⟨hin, ⟨ty0, hty⟩, hnm⟩ := hcl _ _ q1
        have hap := va_apart (own := own) (D := w.2.2.2.2) (cl := cl) (tys := sx_tys w) hts hin ty0 hty hnm hK.1 q1
        obtain ⟨⟨r', g1, cell, g2, g3, g4, g5⟩, hok⟩ := hH.2.2 k _ hg
        cases q1.symm.trans g1
        obtain ⟨hSl, hfc, kC, hkC, hkind⟩ := hK.1.1 _ _ q1
        obtain ⟨cf, kf9, fi, f, hi, hsl⟩ := hSl kf q2
        have hlay := hts _ (hin _ (u_in_lay q2))
        have hst := (u_facts hfc hkC (u_lays hts hin q2) hi).1
        have fin : ∀ (H1 : Heap), H1[w.2.1 + k]? = some (cell.setSlot f.slot (sx_v w u)) → H1.size = H.size → (∀ q, q ≠ w.2.1 + k → H1[q]? = H[q]?) → W p l e R s m args below meth c H1 (locs ++ [⟨w.2.1 + k, f.slot⟩]) (h.1 - n0) (h.2.1 - z0) Q (F0 m (pc + 3) lm (st1.map (sx_v w))) := by
          intro H1 e1 z o1
          refine kk rfl a1 a2 H1 _ lm (hH.set hg ?_ trivial z o1) (hS.put (Nat.le_add_right _ _) o1) hL
          show ∃ r : vw_C, cl[en.2.1]? = some r ∧ t_OB (w.2.1 + k) (w.2.2.2.2.1 en.2.1) r.2.2 (w.2.2.2.2.2 en.2.1) H1 (vp_V ((sx_lset u u fs kf).map (sx_v w)))
          rw [sx_lset_map (sx_v w) u u fs kf hc2]
          rw [hsl] at e1
          exact ⟨_, q1, t_OB.to (V := updV (vp_V (fs.map (sx_v w))) kf (sx_v w u)) ⟨_, e1, g3, g4, t_set g5 hap q2 _⟩ (fun j _ => vp_updV_set (by rw [List.length_map]; exact hc2) _ j)⟩
        have hltS : f.slot < cell.slots.size := by rw [hsl]; exact k2_hasslot (g5 kf q2)
        cases hF : (T kf).2.2.2 with
        | false =>
          unfold u_lay at hlay
          rw [if_neg (by rw [hF]; decide)] at hlay
          have h6 := u_store hfc hkC hkind hlay hi q4 hn hfit
          exact W.putK hx hb (f := f) ⟨hown, hts _ q3, ⟨_, _, _, hi⟩, hst⟩ (by rw [g3]; exact h6) g2 g4 hltS rfl rfl hd fin
        | true =>
          obtain ⟨hmn2, hdecl⟩ := q6 hF
          unfold u_lay at hlay
          rw [if_pos hF] at hlay
          have hcf : m.cls = cf := by
            obtain ⟨_, _, c', _, _, _, -, -, hf', -, -, -, hown2, -⟩ := Cond.laysFinal_spec hlay
            have e1 : c' = cf := by have := hi.symm.trans hf'; simp at this; exact this.1.symm
            have hdecl : (T kf).1 = own := hdecl
            rw [hdecl] at hown2
            rw [← e1]; exact Option.some.inj (hown.symm.trans hown2)
          have h6 := u_fits hfc hkC hkind (Or.inr hlay) hi q4 hn hfit
          exact W.putFinK hx hb hown (hts _ q3) hi hst hcf (hmn.trans hmn2) (by rw [g3]; exact h6) g2 g4 hltS rfl rfl hd fin
    · cases hs
  · cases hs
/-- a class of which objects are made -/
def sx_nok (Ts : List Cond) (cl : List vw_C) (D : Nat → List Value) (own : String) (idx a : Nat) : Prop := ∃ q : vw_C, cl[a]? = some q ∧ Cond.classLink own idx q.1 ∈ Ts ∧ Cond.instantiable q.1 q.2.2 ∈ Ts ∧ Cond.initialized q.1 ∈ Ts ∧ (D a).length = q.2.2 ∧ ∀ j, j < q.2.2 → ∀ ty, parseFieldDescriptor (q.2.1 j).2.2.1 = some ty → defaultValue ty = (D a).getD j .null
theorem sx_new_eq {n : Nat} {x : sx_C} (hs : sx_new lim ls st h n x = some (t, ls1, st1, h1)) : h.1 < lim.1 ∧ h.2.1 + n ≤ lim.2 ∧ t = none ∧ ls1 = ls ∧ st1 = .ref (h.1 + 1) :: st ∧ h1 = sx_push h n x := by
  unfold sx_new at hs
  cases hc : (Nat.blt h.1 lim.1 && Nat.ble (h.2.1 + n) lim.2) with
  | false => rw [hc] at hs; cases hs
  | true =>
    rw [hc] at hs
    cases hs
    rw [Bool.and_eq_true, Nat.blt_eq] at hc
    exact ⟨hc.1, Nat.le_of_ble_eq_true hc.2, rfl, rfl, rfl, rfl⟩
theorem sx_w_new (E : sx_Ev p R s m args c cc nL own Ts w cl ra S lim n0 z0 fr lo) (hs : sx_i48 lim D en ls st h = some (t, ls1, st1, h1)) {idx : Nat} (hf : sx_nok Ts cl D own idx en.2.1) (hdn : ∀ v ∈ D en.2.1, sx_v w v = v) (hd : decode cc pc = .ok (.new idx, 3))
    (kk : t = none → sx_At p l e R s m args below meth c Q nL w cl ra n0 z0 (pc + 3) ls1 st1 h1) : sx_At p l e R s m args below meth c Q nL w cl ra n0 z0 pc ls st h := by
  obtain ⟨hx, hb, hml, hown, hts, hK, hcl, hX, hbB, hrc, hrs, -⟩ := E
  have hts := sx_now (args := args) hts
  obtain ⟨l1, l2, rfl, rfl, rfl, rfl⟩ := sx_new_eq hs
  obtain ⟨q, q1, q2, q3, q4, q5, q6⟩ := hf
  intro a1 a2 H locs lm hH hS hL
  have hKn := hK.1.1 _ _ q1
  obtain ⟨hin, ⟨ty0, hty⟩, hnm⟩ := hcl _ _ q1
  have hsz : H.size = w.2.1 + h.1 := hH.2.1
  refine W.newcK hx hb hown (hts _ q2) (hts _ q3) (hts _ q4) rfl hd (by omega) (by rw [← q5]; omega) hKn.2.1 hsz fun H1 kC hkC e1 z1 o1 => ?_
  have e2 : h.1 - n0 + 1 = h.1 + 1 - n0 := by omega
  have e3 : h.2.1 - z0 + q.2.2 = h.2.1 + (D en.2.1).length - z0 := by rw [q5]; omega
  rw [e2, e3]
  have hmap : (D en.2.1).map (sx_v w) = D en.2.1 := by
    rw [List.map_congr_left (g := id) (fun v hv => hdn v hv), List.map_id]
  refine kk rfl (by show n0 ≤ h.1 + 1; omega) (by show z0 ≤ h.2.1 + _; omega) H1 locs lm (hH.push (n := (D en.2.1).length) ?_ trivial (by rw [z1, hsz]) (fun q hq => o1 q (by omega))) (hS.new (by omega) (fun q hq => o1 q (by omega))) hL
  show ∃ r : vw_C, cl[en.2.1]? = some r ∧ t_OB (w.2.1 + h.1) (w.2.2.2.2.1 en.2.1) r.2.2 (w.2.2.2.2.2 en.2.1) H1 (vp_V ((D en.2.1).map (sx_v w)))
  rw [hmap]
  exact ⟨q, q1, (u_born ty0 hts hin hKn hkC e1 hty).to (fun j hj => q6 j hj (ty0 j) (hty j hj))⟩
theorem sx_w_nar (E : sx_Ev p R s m args c cc nL own Ts w cl ra S lim n0 z0 fr lo) {k : Nat} {ty : FieldType} {aty : ArrayType} (hk : k < 3) (hT : (sx_tys w)[k]? = some (w.2.2.1 k, ty)) (hty : newarray.typeOf aty = ty) (hdf : defaultValue ty = .int 0) (hcb : componentBytes ty ≤ 4) (harr : Cond.arrayClass ty ∈ Ts) (hs : sx_nar lim k en ls st h = some (t, ls1, st1, h1)) (hd : decode cc pc = .ok (.newarray aty, 2))
    (hra : va_RA s (w.2.2.1 k) ty → s.vm.findClass ("[" ++ ty.toString) = some (w.2.2.1 k))
    (kk : t = none → sx_At p l e R s m args below meth c Q nL w cl ra n0 z0 (pc + 2) ls1 st1 h1) : sx_At p l e R s m args below meth c Q nL w cl ra n0 z0 pc ls st h := by
  obtain ⟨hx, hb, hml, hown, hts, hK, hcl, hX, hbB, hrc, hrs, -⟩ := E
  have hts := sx_now (args := args) hts
  unfold sx_nar at hs
  split at hs
  · next x r =>
    split at hs
    · next n hn =>
      obtain ⟨l1, l2, rfl, rfl, rfl, rfl⟩ := sx_new_eq hs
      obtain ⟨g1, g2, g3⟩ := sx_ix_eq hn
      subst hty
      subst g2
      intro a1 a2 H locs lm hH hS hL
      have hsz : H.size = w.2.1 + h.1 := hH.2.1
      have hfc := hra (hK.1.2 k _ hT).2
      refine va_newaK hx hb (hts _ harr) rfl hd (n := nI n) (rest := r.map (sx_v w)) rfl (nI_pos g3) (nI_clamp g3) (by have := Nat.mul_le_mul (Nat.le_of_lt_succ g1) hcb; omega) (by omega) (by omega) hsz fun H1 cA e1 z1 o1 _ hcA => ?_
      have hcA : cA = w.2.2.1 k := Option.some.inj (hcA.symm.trans hfc)
      subst hcA
      have e2 : h.1 - n0 + 1 = h.1 + 1 - n0 := by omega
      have e3 : h.2.1 - z0 + n = h.2.1 + n - z0 := by omega
      rw [e2, e3]
      refine kk rfl (by show n0 ≤ h.1 + 1; omega) (by show z0 ≤ h.2.1 + _; omega) H1 locs lm (hH.push (n := n) ?_ hk (by rw [z1, hsz]) (fun q hq => o1 q (by omega))) (hS.new (by omega) (fun q hq => o1 q (by omega))) hL
      show H1[w.2.1 + h.1]? = some (arrV (w.2.2.1 k) n (fun j => .int (sx_ag 0 [] j)))
      rw [e1, hdf]
      rfl
    · cases hs
  · cases hs
end SXG
