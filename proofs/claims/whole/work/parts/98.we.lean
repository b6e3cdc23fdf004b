/-! ===== SW: calls, ends, longs, choices ===== -/
theorem sx_thrownT {lim : Nat × Nat} {P : Nat → Option sx_Mt} {D : Nat → List Value} {S : List Int32} {j i : Nat} {M N : sx_Mt} {en : sx_N} {ls : sx_L} {st as rest : List Value} {h h1 : sx_H} {x n : Nat} {r : sx_R} (hP : P j = some M) (ha : sx_at M.2.2.2.2 i = some en) (hb : Nat.blt en.1 56 = false) (h59 : Nat.blt en.1 59 = true) (hargs : sx_args en.2.2.1 st [] = some (as, rest)) (hN : P en.2.1 = some N)
    (hc : (Nat.ble (rest.map fun v => v.category).sum 8 && as.all (fun v => Nat.beq v.category 1) && sx_recv en.1 N.2.1 h as && (Nat.ble h.1 lim.1 && Nat.ble h.2.1 lim.2)) = true)
    (hg : sx_exec lim P D S n en.2.1 0 (sx_locs as 0) [] h = some (.inr x, h1)) (k : sx_thrown (sx_exec lim P D S n) j M en ls x h1 = some r) : sx_exec lim P D S (n + 1) j i ls st h = some r := by
  rw [sx_exec_succ]
  unfold sx_body
  simp only [hP, ha, hb, cond_false]
  unfold sx_special
  simp only [h59, cond_true]
  unfold sx_call
  simp only [hargs, hN, hc, cond_true, hg]
  exact k
section
variable {S : List Int32} {j i a b o : Nat} {ls : sx_L} {st : List Value} {H : sw_H} {Q Q' : sw_Q} {M N : sx_Mt} {as rest : List Value}
theorem sw_rcv {q ci : Nat} {t : List Value} (ht : sw_ty H q = 8 * ci + 8) (h : sx_H) (r : sw_rel S H h) : sx_recv o ci h (sw_p q :: t) = true := by
  obtain ⟨k0, fs, e, hk, hg, har, hl⟩ := sw_obj r ht
  unfold sx_recv
  simp only [har, Nat.beq_refl]
  cases Nat.beq o 58 <;> rfl
theorem sw_rcs {ci : Nat} (h : sx_H) (_ : sw_rel S H h) : sx_recv 58 ci h as = true := rfl
theorem sw_call (hx : sz_is j i o a b = true) (h1 : Nat.blt o 56 = false) (h2 : Nat.blt o 59 = true) (hP : sxP j = some M) (hM : M.2.2.2.1 = []) (hN : sxP a = some N) (hargs : sx_args b st [] = some (as, rest)) (hc : (Nat.ble (rest.map fun v => v.category).sum 8 && as.all (fun v => Nat.beq v.category 1)) = true) (hr : ∀ h, sw_rel S H h → sx_recv o N.2.1 h as = true) (hf : sw_ok S a 0 (sx_locs as 0) [] H Q') (k : ∀ v G, sw_ext H G → Q' (.inl v) G → sw_ok S j (i + 1) ls (v.toList ++ rest) G Q) (ke : ∀ x G, sw_ext H G → Q' (.inr x) G → Q (.inr x) G) : sw_ok S j i ls st H Q := by
  intro h r
  obtain ⟨M1, pc, ln, ins, hP1, ha⟩ := sz_is_ok hx
  rw [hP] at hP1
  have hP1 := Option.some.inj hP1
  subst hP1
  obtain ⟨n, rr, g1, G, e, r1, x1, q1⟩ := hf h r
  have hcc : (Nat.ble (rest.map fun v => v.category).sum 8 && as.all (fun v => Nat.beq v.category 1) && sx_recv o N.2.1 h as && (Nat.ble h.1 sxlim.1 && Nat.ble h.2.1 sxlim.2)) = true := by
    rw [hc, hr h r, show Nat.ble h.1 sxlim.1 = true from Nat.ble_eq.mpr r.2.2.1, show Nat.ble h.2.1 sxlim.2 = true from Nat.ble_eq.mpr r.2.2.2.1]
    rfl
  match rr, e, q1 with
  | .inl v, e, q1 =>
    obtain ⟨n2, r2, g3, G2, e2, r3, x2, q2⟩ := k v G x1 q1 g1 r1
    exact ⟨n + n2 + 1, r2, g3, G2, sx_called hP ha h1 h2 hargs hN hcc (sx_monok e n2) (by rw [Nat.add_comm n n2]; exact sx_monok e2 n), r3, sw_ext_trans x1 x2, q2⟩
  | .inr x, e, q1 =>
    refine ⟨n + 1, .inr x, g1, G, sx_thrownT hP ha h1 h2 hargs hN hcc e ?_, r1, x1, ke x G x1 q1⟩
    unfold sx_thrown
    rw [hM]
/-- a call under handlers -/
theorem sw_callh {pc ln : Nat} {ins : Instr} (hP : sxP j = some M) (ha : sx_at M.2.2.2.2 i = some (o, a, b, pc, ln, ins)) (h1 : Nat.blt o 56 = false) (h2 : Nat.blt o 59 = true) {hs : List (Nat × Nat × Nat × Nat)} {h0 : Nat × Nat × Nat × Nat} (hM : M.2.2.2.1 = h0 :: hs) (hN : sxP a = some N) (hargs : sx_args b st [] = some (as, rest)) (hc : (Nat.ble (rest.map fun v => v.category).sum 8 && as.all (fun v => Nat.beq v.category 1)) = true) (hr : ∀ h, sw_rel S H h → sx_recv o N.2.1 h as = true) (hf : sw_ok S a 0 (sx_locs as 0) [] H Q') (k : ∀ v G, sw_ext H G → Q' (.inl v) G → sw_ok S j (i + 1) ls (v.toList ++ rest) G Q) (ke : ∀ x G, sw_ext H G → Q' (.inr x) G → ∃ c t, sw_ty G (x + 2) = 8 * c + 8 ∧ sx_hand (h0 :: hs) pc c = some t ∧ sw_ok S j t ls [sw_p (x + 2)] G Q) : sw_ok S j i ls st H Q := by
  intro h r
  obtain ⟨n, rr, g1, G, e, r1, x1, q1⟩ := hf h r
  have hcc : (Nat.ble (rest.map fun v => v.category).sum 8 && as.all (fun v => Nat.beq v.category 1) && sx_recv o N.2.1 h as && (Nat.ble h.1 sxlim.1 && Nat.ble h.2.1 sxlim.2)) = true := by
    rw [hc, hr h r, show Nat.ble h.1 sxlim.1 = true from Nat.ble_eq.mpr r.2.2.1, show Nat.ble h.2.1 sxlim.2 = true from Nat.ble_eq.mpr r.2.2.2.1]
    rfl
  match rr, e, q1 with
  | .inl v, e, q1 =>
    obtain ⟨n2, r2, g3, G2, e2, r3, x2, q2⟩ := k v G x1 q1 g1 r1
    exact ⟨n + n2 + 1, r2, g3, G2, sx_called hP ha h1 h2 hargs hN hcc (sx_monok e n2) (by rw [Nat.add_comm n n2]; exact sx_monok e2 n), r3, sw_ext_trans x1 x2, q2⟩
  | .inr x, e, q1 =>
    obtain ⟨c, t, w1, w2, w3⟩ := ke x G x1 q1
    obtain ⟨k0, fs, ee, hk, hg, har, _⟩ := sw_obj r1 w1
    have ek : k0 = x := by omega
    subst ek
    obtain ⟨n2, r2, g3, G2, e2, r3, x2, q2⟩ := w3 g1 r1
    refine ⟨n + n2 + 1, r2, g3, G2, sx_thrownT hP ha h1 h2 hargs hN hcc (sx_monok e n2) ?_, r3, sw_ext_trans x1 x2, q2⟩
    unfold sx_thrown
    rw [hM]
    simp only [hg, w2]
    rw [Nat.add_comm n n2]
    exact sx_monok e2 n
section
variable {q0 : sw_H → Prop} {q1 : Int → sw_H → Prop} {q2 : Nat → sw_H → Prop} {ef : Nat → sw_H → Prop}
theorem sw_c0_ {G : sw_H} {v : Option Value} (q : sw_q0 q0 ef (.inl v) G) : v = none ∧ q0 G := by
  match v, q with
  | none, q => exact ⟨rfl, q⟩
theorem sw_c1_ {G : sw_H} {v : Option Value} (q : sw_q1 q1 ef (.inl v) G) : ∃ z, v = some (sw_i z) ∧ sw_c z ∧ q1 z G := by
  match v, q with
  | some (.int x), q => exact ⟨x.toInt, by rw [sw_it], sw_c_to x, q⟩
theorem sw_c2_ {G : sw_H} {v : Option Value} (q : sw_q2 q2 ef (.inl v) G) : ∃ z, v = some (sw_p z) ∧ q2 z G := by
  match v, q with
  | some (.ref x), q => exact ⟨x + 1, rfl, q⟩
theorem sw_v0 (hx : sz_is j i o a b = true) (h1 : Nat.blt o 56 = false) (h2 : Nat.blt o 59 = true) (hP : sxP j = some M) (hM : M.2.2.2.1 = []) (hN : sxP a = some N) (hargs : sx_args b st [] = some (as, rest)) (hc : (Nat.ble (rest.map fun v => v.category).sum 8 && as.all (fun v => Nat.beq v.category 1)) = true) (hr : ∀ h, sw_rel S H h → sx_recv o N.2.1 h as = true) (hf : sw_ok S a 0 (sx_locs as 0) [] H (sw_q0 q0 ef)) (k : ∀ G, sw_ext H G → q0 G → sw_ok S j (i + 1) ls rest G Q) (ke : ∀ x G, sw_ext H G → ef (x + 2) G → Q (.inr x) G) : sw_ok S j i ls st H Q :=
  sw_call hx h1 h2 hP hM hN hargs hc hr hf (fun v G x q => by
    obtain ⟨e, q9⟩ := sw_c0_ q
    subst e
    exact k G x q9) (fun x G e q => ke x G e q)
theorem sw_v1 (hx : sz_is j i o a b = true) (h1 : Nat.blt o 56 = false) (h2 : Nat.blt o 59 = true) (hP : sxP j = some M) (hM : M.2.2.2.1 = []) (hN : sxP a = some N) (hargs : sx_args b st [] = some (as, rest)) (hc : (Nat.ble (rest.map fun v => v.category).sum 8 && as.all (fun v => Nat.beq v.category 1)) = true) (hr : ∀ h, sw_rel S H h → sx_recv o N.2.1 h as = true) (hf : sw_ok S a 0 (sx_locs as 0) [] H (sw_q1 q1 ef)) (k : ∀ z G, sw_c z → sw_ext H G → q1 z G → sw_ok S j (i + 1) ls (sw_i z :: rest) G Q) (ke : ∀ x G, sw_ext H G → ef (x + 2) G → Q (.inr x) G) : sw_ok S j i ls st H Q :=
  sw_call hx h1 h2 hP hM hN hargs hc hr hf (fun v G x q => by
    obtain ⟨z, e, c, q9⟩ := sw_c1_ q
    subst e
    exact k z G c x q9) (fun x G e q => ke x G e q)
theorem sw_v2 (hx : sz_is j i o a b = true) (h1 : Nat.blt o 56 = false) (h2 : Nat.blt o 59 = true) (hP : sxP j = some M) (hM : M.2.2.2.1 = []) (hN : sxP a = some N) (hargs : sx_args b st [] = some (as, rest)) (hc : (Nat.ble (rest.map fun v => v.category).sum 8 && as.all (fun v => Nat.beq v.category 1)) = true) (hr : ∀ h, sw_rel S H h → sx_recv o N.2.1 h as = true) (hf : sw_ok S a 0 (sx_locs as 0) [] H (sw_q2 q2 ef)) (k : ∀ z G, sw_ext H G → q2 z G → sw_ok S j (i + 1) ls (sw_p z :: rest) G Q) (ke : ∀ x G, sw_ext H G → ef (x + 2) G → Q (.inr x) G) : sw_ok S j i ls st H Q :=
  sw_call hx h1 h2 hP hM hN hargs hc hr hf (fun v G x q => by
    obtain ⟨z, e, q9⟩ := sw_c2_ q
    subst e
    exact k z G x q9) (fun x G e q => ke x G e q)
theorem sw_ends {h : sx_H} (hx : sz_is j i o a b = true) (hP : sxP j = some M) (ho : Nat.blt o 56 = false) {r : sx_R} (hs : ∀ pc ln ins, sx_special sxlim sxP (sx_exec sxlim sxP sxD S 0) j i M (o, a, b, pc, ln, ins) ls st h = some r) : sx_exec sxlim sxP sxD S 1 j i ls st h = some r := by
  obtain ⟨M1, pc, ln, ins, hP1, ha⟩ := sz_is_ok hx
  rw [hP] at hP1
  have hP1 := Option.some.inj hP1
  subst hP1
  rw [sx_exec_succ]
  unfold sx_body
  simp only [hP, ha, ho, cond_false]
  exact hs pc ln ins
theorem sw_o59 (hx : sz_is j i 59 a b = true) (hP : sxP j = some M) (hM : M.2.2.1 = 0) (k : q0 H) : sw_ok S j i ls [] H (sw_q0 q0 ef) := fun h r =>
  ⟨1, .inl none, h, H, sw_ends hx hP rfl (fun pc ln ins => by
    show sx_ends h (sx_r0 M.2.2.1 []) = _
    rw [hM]
    rfl), r, sw_ext_refl H, k⟩
theorem sw_o60 (hx : sz_is j i 60 a b = true) (hP : sxP j = some M) (hM : M.2.2.1 = 1) {z : Int} (hc : sw_c z) (k : q1 z H) : sw_ok S j i ls [sw_i z] H (sw_q1 q1 ef) := fun h r =>
  ⟨1, .inl (some (sw_i z)), h, H, sw_ends hx hP rfl (fun pc ln ins => by
    show sx_ends h (sx_r1 M.2.2.1 [sw_i z]) = _
    rw [hM]
    rfl), r, sw_ext_refl H, (by show q1 (Int32.ofInt z).toInt H; rw [sw_c_id hc]; exact k)⟩
theorem sw_o60b (hx : sz_is j i 60 a b = true) (hP : sxP j = some M) (hM : M.2.2.1 = 2) {z : Int} (hz : z = 0 ∨ z = 1) (k : q1 z H) : sw_ok S j i ls [sw_i z] H (sw_q1 q1 ef) := fun h r =>
  ⟨1, .inl (some (sw_i z)), h, H, sw_ends hx hP rfl (fun pc ln ins => by
    show sx_ends h (sx_r1 M.2.2.1 [sw_i z]) = _
    rw [hM]
    rcases hz with e | e <;> subst e <;> rfl), r, sw_ext_refl H, (by show q1 (Int32.ofInt z).toInt H; rw [sw_c_id (by unfold sw_c; omega)]; exact k)⟩
theorem sw_o61 (hx : sz_is j i 61 a b = true) (hP : sxP j = some M) (hM : M.2.2.1 = 3) {v d : Nat} (hv : sw_ty H v = d + 1) (k : q2 v H) : sw_ok S j i ls [sw_p v] H (sw_q2 q2 ef) := fun h r =>
  ⟨1, .inl (some (sw_p v)), h, H, sw_ends hx hP rfl (fun pc ln ins => by
    show sx_ends h (sx_r2 M.2.2.1 [sw_p v]) = _
    rw [hM]
    rfl), r, sw_ext_refl H, (by
      have h0 : v ≠ 0 := fun e => by rw [e, sw_ty0 r] at hv; cases hv
      show q2 (v - 1 + 1) H
      rw [show v - 1 + 1 = v by omega]
      exact k)⟩
end
theorem sw_o62 (hx : sz_is j i 62 a b = true) (hP : sxP j = some M) (hst : Nat.ble (st.map fun v => v.category).sum 8 = true) (ha : 13 ≤ a) (l1 : sw_n H < sxlim.1) (l2 : sw_s H + 6 ≤ sxlim.2) (k : Q (.inr (sw_n H)) (sw_nw H (8 * a + 8) 0 6)) : sw_ok S j i ls st H Q := fun h r => by
  obtain ⟨r1, x1⟩ := sw_rel_new (c := .inl (a, [])) (t := 8 * a + 8) (n := 0) (m := 6) r l1 l2 ⟨rfl, rfl, fun hh => by omega, fun f v hv => by cases hv⟩
  refine ⟨1, .inr h.1, _, _, sw_ends hx hP rfl (fun pc ln ins => ?_), r1, x1 (by omega), ?_⟩
  · show (bif Nat.blt h.1 sxlim.1 && Nat.ble (h.2.1 + 6) sxlim.2 && Nat.ble (st.map fun v => v.category).sum 8 then some (Sum.inr h.1, sx_push h 6 (.inl (a, []))) else none) = _
    rw [hst, show Nat.blt h.1 sxlim.1 = true from by rw [Nat.blt_eq, r.1]; exact l1, show Nat.ble (h.2.1 + 6) sxlim.2 = true from Nat.ble_eq.mpr (by rw [r.2.1]; exact l2)]
    rfl
  · rw [r.1]; exact k
/-- choices: what must hold for each target, the numbers from z on -/
def sw_cs (x : Int) (P : Nat → Prop) : List Nat → Int → Prop
  | [], _ => True
  | t :: r, z => (x = z → P t) ∧ sw_cs x P r (z + 1)
theorem sw_cs_at {x : Int} {P : Nat → Prop} : ∀ (L : List Nat) (z : Int), sw_cs x P L z → ∀ (n t : Nat), L[n]? = some t → x = z + n → P t
  | [], _, _, n, t, h, _ => by cases n <;> cases h
  | u :: r, z, c, 0, t, h, e => by
    have h := Option.some.inj h
    subst h
    exact c.1 (by omega)
  | u :: r, z, c, n + 1, t, h, e => sw_cs_at r (z + 1) c.2 n t h (by omega)
theorem sw_o36 {pc ln : Nat} {d lo hi : Int} {offs : Array Int} (hP : sxP j = some M) (ha : sx_at M.2.2.2.2 i = some (36, a, b, pc, ln, .tableswitch d lo hi offs)) {L : List Nat} {t0 : Nat} (hd : sx_to M.2.2.2.2 ((pc : Int) + d) = some t0) (hL : offs.toList.map (fun o => sx_to M.2.2.2.2 ((pc : Int) + o)) = L.map some) (hlen : hi = lo + L.length - 1) {x : Int} (hc : sw_c x) (kd : x < lo ∨ hi < x → sw_ok S j t0 ls st H Q) (kc : sw_cs x (fun t => sw_ok S j t ls st H Q) L lo) : sw_ok S j i ls (sw_i x :: st) H Q := by
  have key : ∀ t, sx_sw M.2.2.2.2 pc d lo hi offs (Int32.ofInt x) = some t → sw_ok S j t ls st H Q → sw_ok S j i ls (sw_i x :: st) H Q := by
    intro t e k h r
    obtain ⟨n, rr, h2, G, e2, r2, x2, q⟩ := k h r
    refine ⟨n + 1, rr, h2, G, sx_next hP ha rfl (t := some t) (ls1 := ls) (st1 := st) (h1 := h) ?_ e2, r2, x2, q⟩
    show sx_i36 M.2.2.2.2 (36, a, b, pc, ln, .tableswitch d lo hi offs) ls (sw_i x :: st) h = _
    unfold sx_i36 sw_i
    simp only [e]
  by_cases c : x < lo ∨ hi < x
  · refine key t0 ?_ (kd c)
    unfold sx_sw
    rw [sw_c_id hc, if_pos c]
    exact hd
  · have hn : (x - lo).toNat < L.length := by omega
    have hl : offs.toList.length = L.length := by
      have := congrArg List.length hL
      simpa using this
    have hg : L[(x - lo).toNat]? = some L[(x - lo).toNat] := List.getElem?_eq_getElem hn
    refine key L[(x - lo).toNat] ?_ (sw_cs_at L lo kc (x - lo).toNat _ hg (by omega))
    unfold sx_sw
    rw [sw_c_id hc, if_neg c]
    have ho : (x - lo).toNat < offs.size := by rw [← Array.length_toList, hl]; exact hn
    have h1 : (offs.toList.map (fun o => sx_to M.2.2.2.2 ((pc : Int) + o)))[(x - lo).toNat]? = some (some L[(x - lo).toNat]) := by
      rw [hL, List.getElem?_map, hg]
      rfl
    rw [List.getElem?_map] at h1
    have h2 : offs[(x - lo).toNat]? = some offs[(x - lo).toNat] := Array.getElem?_eq_getElem ho
    have h3 : offs.toList[(x - lo).toNat]? = offs[(x - lo).toNat]? := by simp
    rw [h3, h2] at h1
    rw [h2]
    exact Option.some.inj h1
/-! longs -/
def sw_l (z : Int) : Value := .long (Int64.ofInt z)
theorem sw_l_to (x : Int64) : Int64.ofInt x.toInt = x := by simp
theorem sw_l_of {z : Int} (h : sw_c z) : (Int64.ofInt z).toInt = z := by
  unfold sw_c at h
  rw [Int64.toInt_ofInt]
  simp only [Int.bmod_def, show ((Int64.size : Nat) : Int) = 18446744073709551616 from rfl]
  omega
theorem sw_l_i {z : Int} (h : sw_c z) : (Int32.ofInt z).toInt64 = Int64.ofInt z := by
  rw [← Int64.toInt_inj, sw_l_of h, Int32.toInt_toInt64, sw_c_id h]
theorem sw_o20 (hx : sz_is j i 20 a b = true) {z : Int} (hz : sw_c z) (k : sw_ok S j (i + 1) ls (sw_l z :: st) H Q) : sw_ok S j i ls (sw_i z :: st) H Q :=
  sw_pp (t := none) hx rfl (fun cd pc ln ins h => rfl) (by unfold sw_l at k; rw [← sw_l_i hz] at k; exact k)
theorem sw_o44 (hx : sz_is j i 44 a b = true) {q : Nat} {z y : Int} (ht : sw_ty H q = 4) (hc : sw_c z) (h0 : 0 ≤ z) (hn : z < sw_ln H q) (hy : sw_c y) (k : sw_ok S j (i + 1) ls st (sw_si H q z.toNat y) Q) : sw_ok S j i ls (sw_l y :: sw_i z :: sw_p q :: st) H Q :=
  sw_pl hx rfl (fun h r cd pc ln ins => by
    obtain ⟨k0, l, e, hk, hg, har, hl, hf⟩ := sw_longs r ht
    refine ⟨none, ls, st, sx_set h k0 (.inr (.inr (.inl (sw_ln H q, sx_as 0 l z.toNat (Int64.ofInt y))))), _, ?_, ?_, sw_ext_si H q z.toNat y, k⟩
    · show sx_i44 (44, a, b, pc, ln, ins) ls (sw_l y :: sw_i z :: sw_p q :: st) h = _
      unfold sx_i44 sw_i sw_l
      simp only [har, sw_ix hc h0 hn]
    · subst e
      refine sw_rel_upd r hk rfl rfl (fun _ => rfl) (fun _ => rfl) (fun b hb => ⟨?_, rfl⟩) ?_
      · funext g
        rw [sw_iv_si, if_neg (fun e => hb e.1)]
      · refine ⟨ht, rfl, hl, fun g hg => ?_⟩
        rw [sw_iv_si, sx_ag_as]
        by_cases eg : g = z.toNat
        · rw [if_pos ⟨rfl, eg⟩, if_pos eg, sw_l_of hy]
        · rw [if_neg (fun x => eg x.2), if_neg eg]
          exact hf g hg)
theorem sw_o40 (hx : sz_is j i 40 a b = true) {q : Nat} {z : Int} (ht : sw_ty H q = 4) (hc : sw_c z) (h0 : 0 ≤ z) (hn : z < sw_ln H q) (k : ∀ v, v = sw_iv H q z.toNat → (Int64.ofInt v).toInt = v → sw_ok S j (i + 1) ls (sw_l v :: st) H Q) : sw_ok S j i ls (sw_i z :: sw_p q :: st) H Q :=
  sw_pl hx rfl (fun h r cd pc ln ins => by
    obtain ⟨k0, l, e, hk, hg, har, hl, hf⟩ := sw_longs r ht
    have hf := hf z.toNat (by omega)
    refine ⟨none, ls, sw_l (sw_iv H q z.toNat) :: st, h, H, ?_, r, sw_ext_refl H, k _ rfl (by rw [hf, sw_l_to])⟩
    unfold sw_l
    rw [hf, sw_l_to]
    show sx_i40 (40, a, b, pc, ln, ins) ls (sw_i z :: sw_p q :: st) h = _
    unfold sx_i40 sw_i
    simp only [har, sw_ix hc h0 hn])
theorem sw_o22 (hx : sz_is j i 22 a b = true) {x y : Int} (hxx : (Int64.ofInt x).toInt = x) (hy : (Int64.ofInt y).toInt = y) (k : ∀ v, sw_c v → (v = 0 ↔ x = y) → sw_ok S j (i + 1) ls (sw_i v :: st) H Q) : sw_ok S j i ls (sw_l y :: sw_l x :: st) H Q :=
  sw_pp (t := none) (ls1 := ls) (st1 := sw_i (lg_cmp (Int64.ofInt x) (Int64.ofInt y)).toInt :: st) hx rfl (fun cd pc ln ins h => by rw [sw_it]; rfl) (k _ (sw_c_to _) (by
    unfold lg_cmp
    by_cases c : Int64.ofInt x = Int64.ofInt y
    · have e : x = y := by rw [← hxx, ← hy, c]
      subst e
      simp
    · have e : x ≠ y := fun e => c (by rw [e])
      simp only [e, iff_false, c, if_false]
      split <;> decide))
end
