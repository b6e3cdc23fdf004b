/-! ===== the law from its entry to its loop ===== -/
theorem sx_next {lim : Nat × Nat} {P : Nat → Option sx_Mt} {D : Nat → List Value} {S : List Int32} {j i : Nat} {M : sx_Mt} {en : sx_N} {ls : sx_L} {st : List Value} {h : sx_H} {t : Option Nat} {ls1 : sx_L} {st1 : List Value} {h1 : sx_H} {n : Nat} {r : sx_R} (hP : P j = some M) (ha : sx_at M.2.2.2.2 i = some en) (hb : Nat.blt en.1 56 = true) (hs : sx_step lim D S M.2.2.2.2 en.1 en ls st h = some (t, ls1, st1, h1)) (k : sx_exec lim P D S n j (t.getD (i + 1)) ls1 st1 h1 = some r) : sx_exec lim P D S (n + 1) j i ls st h = some r := by
  rw [sx_exec_succ]
  unfold sx_body
  simp only [hP, ha, hb, cond_true]
  unfold sx_plain
  simp only [hs]
  exact k
theorem sx_called {lim : Nat × Nat} {P : Nat → Option sx_Mt} {D : Nat → List Value} {S : List Int32} {j i : Nat} {M N : sx_Mt} {en : sx_N} {ls : sx_L} {st as rest : List Value} {h h1 : sx_H} {v : Option Value} {n : Nat} {r : sx_R} (hP : P j = some M) (ha : sx_at M.2.2.2.2 i = some en) (hb : Nat.blt en.1 56 = false) (h59 : Nat.blt en.1 59 = true) (hargs : sx_args en.2.2.1 st [] = some (as, rest)) (hN : P en.2.1 = some N)
    (hc : (Nat.ble (rest.map fun v => v.category).sum 8 && as.all (fun v => Nat.beq v.category 1) && sx_recv en.1 N.2.1 h as && (Nat.ble h.1 lim.1 && Nat.ble h.2.1 lim.2)) = true)
    (hg : sx_exec lim P D S n en.2.1 0 (sx_locs as 0) [] h = some (.inl v, h1)) (k : sx_exec lim P D S n j (i + 1) ls (v.toList ++ rest) h1 = some r) : sx_exec lim P D S (n + 1) j i ls st h = some r := by
  rw [sx_exec_succ]
  unfold sx_body
  simp only [hP, ha, hb, cond_false]
  unfold sx_special
  simp only [h59, cond_true]
  unfold sx_call
  simp only [hargs, hN, hc, cond_true, hg]
  exact k
/-- the heap at the law's loop, its locals there -/
def sxT0 : sy_H := sy_push sxTC 1 (.inr (.inr (.inl (.inr (.inr (.inl (1, [])))))))
def sxlsA : sy_L := [(4, .inl (.int 0)), (3, .inl (.ref sxko)), (2, .inl (.ref sxkm)), (1, .inl (.ref 1)), (0, .inl (.ref 0))]
def sxlsB : sx_L := [(4, .int 0), (3, .ref sxko), (2, .ref sxkm), (1, .ref 1), (0, .ref 0)]
theorem sy_one {n j : Nat} {ls : sy_L} {T0 T1 : sy_H} (e : sy_eq1 (sy_execk sxlim sxP sxKc sxDn 99 n j (sxKc j) 0 [] ls [] T0) T1 = true) {S : List Int32} {ls' : sx_L} (hl : ∀ ρ, sy_ll ρ ls ls') {h : sx_H} (H : sy_h T0 h) : ∃ h1, sx_exec sxlim sxP sxD S n j 0 ls' [] h = some (.inl none, h1) ∧ sy_h T1 h1 := by
  rw [sy_execk_eq] at e
  unfold sy_eq1 at e
  split at e
  · next E T hx =>
    have e := sy_heq_ok e
    subst e
    have hcx : sy_cx (fun _ => 0) S 99 := ⟨fun h9 => absurd h9 (by decide), rfl⟩
    have h0 : sy_e (fun _ => 0) [] := fun k => ⟨Nat.zero_le _, (by decide : sy_b 0 ≤ 4294967295)⟩
    obtain ⟨a, h1, h2, b, h3, h4, h5, h6⟩ := sy_sound sy_K_ok sx_D_ok hcx n j 0 [] ls [] T0 _ ls' [] h hx h0 (hl _) rfl H
    have h1 := List.mem_singleton.mp h1
    subst h1
    have h5 : b = .inl none := h5
    subst h5
    exact ⟨h3, h4, h6⟩
  · cases e
theorem sy_bg_e {α : Type} {m : Nat} {g : α → Nat → Option sy_C} {e : α} (h : ∀ k, g e k = none) (k : Nat) : sy_bg m g (e, e) k = none := by
  unfold sy_bg
  rw [h, h]
  cases Nat.ble m k <;> rfl
theorem sy_ge_0 (k : Nat) : sy_g_0 sy_e0 k = none := rfl
theorem sy_ge_1 (k : Nat) : sy_g_1 sy_e1 k = none := sy_bg_e sy_ge_0 k
theorem sy_ge_2 (k : Nat) : sy_g_2 sy_e2 k = none := sy_bg_e sy_ge_1 k
theorem sy_ge_3 (k : Nat) : sy_g_3 sy_e3 k = none := sy_bg_e sy_ge_2 k
theorem sy_ge_4 (k : Nat) : sy_g_4 sy_e4 k = none := sy_bg_e sy_ge_3 k
theorem sy_ge_5 (k : Nat) : sy_g_5 sy_e5 k = none := sy_bg_e sy_ge_4 k
theorem sy_ge_6 (k : Nat) : sy_g_6 sy_e6 k = none := sy_bg_e sy_ge_5 k
theorem sy_ge_7 (k : Nat) : sy_g_7 sy_e7 k = none := sy_bg_e sy_ge_6 k
theorem sy_ge_8 (k : Nat) : sy_g_8 sy_e8 k = none := sy_bg_e sy_ge_7 k
theorem sy_ge_9 (k : Nat) : sy_g_9 sy_e9 k = none := sy_bg_e sy_ge_8 k
theorem sy_ge_10 (k : Nat) : sy_g_10 sy_e10 k = none := sy_bg_e sy_ge_9 k
theorem sy_ge_11 (k : Nat) : sy_g_11 sy_e11 k = none := sy_bg_e sy_ge_10 k
theorem sx_law_P : sxP 0 = some (7, 999, 2, [], sxc0) := rfl
theorem sx_law_start (S : List Int32) : ∃ h, sy_h sxT0 h ∧ ∀ n r, sx_exec sxlim sxP sxD S n 0 13 sxlsB [] h = some r → ∃ m, sx_exec sxlim sxP sxD S m 0 0 [(0, .ref 0)] [] (0, 0, []) = some r := by
  have H0 : sy_h (0, 0, sy_e11) (0, 0, []) := ⟨rfl, rfl, rfl, fun k c h => by
    have hk := sy_get_lt h
    rw [sy_get_eq _ hk, sy_ge_11] at h
    cases h⟩
  have HA : sy_h (sy_push (0, 0, sy_e11) (sxDn 0).1 (.inl (0, (sxDn 0).2))) (sx_push (0, 0, []) (sxD 0).length (.inl (0, sxD 0))) := by
    rw [(sx_D_ok 0).1]
    exact sy_push_h H0 (by decide) _ ⟨_, rfl, (sx_D_ok 0).2⟩
  obtain ⟨hB, b1, b2⟩ := sy_one sx_ctor1 (S := S) (ls' := [(0, .ref 1)]) (fun ρ => ⟨_, _, rfl, rfl, rfl⟩) HA
  have HB : sy_h (sy_push sxTB (sxDn 1).1 (.inl (1, (sxDn 1).2))) (sx_push hB (sxD 1).length (.inl (1, sxD 1))) := by
    rw [(sx_D_ok 1).1]
    exact sy_push_h b2 (by decide) _ ⟨_, rfl, (sx_D_ok 1).2⟩
  have hB1 : hB.1 = sxTB.1 := b2.2.1.symm
  have hB2 : hB.2.1 = sxTB.2.1 := b2.2.2.1.symm
  obtain ⟨hC, c1, c2⟩ := sy_one sx_ctor2 (S := S) (ls' := [(0, .ref sxkm)]) (fun ρ => ⟨_, _, rfl, rfl, rfl⟩) HB
  have hC1 : hC.1 = sxTC.1 := c2.2.1.symm
  have hC2 : hC.2.1 = sxTC.2.1 := c2.2.2.1.symm
  have hrecv : sx_get (sx_push hB (sxD 1).length (.inl (1, sxD 1))) sxTB.1 = some (.inl (1, sxD 1)) := by
    rw [sx_get_push b2.1, if_pos hB1.symm]
  refine ⟨sx_push hC 1 (.inr (.inr (.inl (1, [])))), sy_push_h (c := .inr (.inr (.inl (.inr (.inr (.inl (1, []))))))) c2 (by decide) 1 rfl, fun n r hk => ?_⟩
  have k13 : sx_exec sxlim sxP sxD S (n + sxn1 + sxn2) 0 13 sxlsB [] (sx_push hC 1 (.inr (.inr (.inl (1, []))))) = some r := sx_mono_le (by omega) hk
  generalize hm : n + sxn1 + sxn2 = m at k13
  simp only [sxn1, sxn2] at hm
  have k12 := sx_next (i := 12) (ls := [(3, .ref sxko), (2, .ref sxkm), (1, .ref 1), (0, .ref 0)]) (st := [.int 0]) (h := sx_push hC 1 (.inr (.inr (.inl (1, []))))) sx_law_P rfl rfl rfl k13
  have k11 := sx_next (i := 11) (ls := [(3, .ref sxko), (2, .ref sxkm), (1, .ref 1), (0, .ref 0)]) (st := []) (h := sx_push hC 1 (.inr (.inr (.inl (1, []))))) sx_law_P rfl rfl rfl k12
  have k10 := sx_next (i := 10) (ls := [(2, .ref sxkm), (1, .ref 1), (0, .ref 0)]) (st := [.ref sxko]) (h := sx_push hC 1 (.inr (.inr (.inl (1, []))))) sx_law_P rfl rfl rfl k11
  have k9 := sx_next (i := 9) (ls := [(2, .ref sxkm), (1, .ref 1), (0, .ref 0)]) (st := [.int 1]) (h := hC) sx_law_P rfl rfl (show sx_new sxlim _ _ hC 1 _ = some (none, _, .ref sxko :: [], _) by
    unfold sx_new
    rw [hC1, hC2]
    rfl) k10
  have k8 := sx_next (i := 8) (ls := [(2, .ref sxkm), (1, .ref 1), (0, .ref 0)]) (st := []) (h := hC) sx_law_P rfl rfl rfl k9
  have k7 := sx_next (i := 7) (ls := [(1, .ref 1), (0, .ref 0)]) (st := [.ref sxkm]) (h := hC) sx_law_P rfl rfl rfl k8
  have k6 := sx_called (i := 6) (ls := [(1, .ref 1), (0, .ref 0)]) (st := [.ref sxkm, .ref sxkm]) (as := [.ref sxkm]) (rest := [.ref sxkm]) (v := none) (h := sx_push hB (sxD 1).length (.inl (1, sxD 1))) (N := (2, 1, 0, [], sxc2)) sx_law_P rfl rfl rfl rfl rfl (by
    have e1 : sx_arr (sx_push hB (sxD 1).length (.inl (1, sxD 1))) (.ref sxkm) = some (sxTB.1, .inl (1, sxD 1)) := by
      show (match sx_get (sx_push hB (sxD 1).length (.inl (1, sxD 1))) sxTB.1 with | some c => some (sxTB.1, c) | none => none) = _
      rw [hrecv]
    have e2 : sx_recv 57 1 (sx_push hB (sxD 1).length (.inl (1, sxD 1))) [.ref sxkm] = true := by
      unfold sx_recv
      simp only [e1]
      rfl
    have e3 : (sx_push hB (sxD 1).length (.inl (1, sxD 1))).1 = sxTB.1 + 1 := by show hB.1 + 1 = _; rw [hB1]
    have e4 : (sx_push hB (sxD 1).length (.inl (1, sxD 1))).2.1 = sxTB.2.1 + (sxD 1).length := by show hB.2.1 + _ = _; rw [hB2]
    show (_ && _ && sx_recv 57 1 _ _ && _) = true
    rw [e2, e3, e4]
    decide +kernel) (sx_mono_le (by omega) c1) k7
  have k5 := sx_next (i := 5) (ls := [(1, .ref 1), (0, .ref 0)]) (st := [.ref sxkm]) (h := sx_push hB (sxD 1).length (.inl (1, sxD 1))) sx_law_P rfl rfl rfl k6
  have k4 := sx_next (i := 4) (ls := [(1, .ref 1), (0, .ref 0)]) (st := []) (h := hB) sx_law_P rfl rfl (t := none) (show sx_new sxlim _ _ hB (sxD 1).length _ = some (none, _, .ref sxkm :: [], _) by
    unfold sx_new
    have hc1 : (Nat.blt sxTB.1 sxlim.1 && Nat.ble (sxTB.2.1 + (sxD 1).length) sxlim.2) = true := by decide +kernel
    rw [hB1, hB2, hc1]
    rfl) k5
  have k3 := sx_next (i := 3) (ls := [(0, .ref 0)]) (st := [.ref 1]) (h := hB) sx_law_P rfl rfl rfl k4
  have k2 := sx_called (i := 2) (ls := [(0, .ref 0)]) (st := [.ref 1, .ref 1]) (as := [.ref 1]) (rest := [.ref 1]) (v := none) (h := sx_push (0, 0, []) (sxD 0).length (.inl (0, sxD 0))) (N := (7, 0, 0, [], sxc1)) sx_law_P rfl rfl rfl rfl rfl rfl (sx_mono_le (by omega) b1) k3
  have k1 := sx_next (i := 1) (ls := [(0, .ref 0)]) (st := [.ref 1]) (h := sx_push (0, 0, []) (sxD 0).length (.inl (0, sxD 0))) sx_law_P rfl rfl rfl k2
  have k0 := sx_next (lim := sxlim) (P := sxP) (D := sxD) (S := S) (j := 0) (i := 0) (ls := [(0, .ref 0)]) (st := []) (h := (0, 0, [])) (t := none) sx_law_P rfl rfl (show sx_new sxlim [(0, .ref 0)] [] (0, 0, []) (sxD 0).length (.inl (0, sxD 0)) = some (none, [(0, .ref 0)], [.ref 1], sx_push (0, 0, []) (sxD 0).length (.inl (0, sxD 0))) by
    unfold sx_new
    have hc0 : (Nat.blt (0 : Nat) sxlim.1 && Nat.ble ((0 : Nat) + (sxD 0).length) sxlim.2) = true := by decide +kernel
    show (bif (Nat.blt (0 : Nat) sxlim.1 && Nat.ble ((0 : Nat) + (sxD 0).length) sxlim.2) then _ else none) = _
    rw [hc0]
    rfl) k1
  exact ⟨_, k0⟩
/-- all leaves of a run from the law's loop end with 1, within the room -/
noncomputable def sy_fin (a : sy_Lf) : Bool := match a.2.1 with
  | .inl (some (.inl (.int x))) => decide (x = 1) && (Nat.ble a.2.2.1 sxlim.1 && Nat.ble a.2.2.2.1 sxlim.2)
  | _ => false
noncomputable def sy_good (q : Nat) (E : sy_E) : Bool := match sy_execk sxlim sxP sxKc sxDn q 100000 0 (sxKc 0) 13 E sxlsA [] sxT0 with
  | some L => L.all sy_fin
  | none => false
theorem sy_good_ok {xs : List Int32} {q : Nat} {E : sy_E} {ρ : Nat → Int32} (hg : sy_good q E = true) (hc : sy_cx ρ xs q) (hE : sy_e ρ E) : sx_True xs := by
  obtain ⟨h, hh, hst⟩ := sx_law_start xs
  unfold sy_good at hg
  split at hg
  · next L hL =>
    rw [sy_execk_eq] at hL
    obtain ⟨a, h1, h2, b, h3, h4, h5, h6⟩ := sy_sound sy_K_ok sx_D_ok hc _ _ _ _ _ _ _ _ sxlsB [] h hL hE ⟨_, _, rfl, rfl, _, _, rfl, rfl, _, _, rfl, rfl, _, _, rfl, rfl, _, _, rfl, rfl, rfl⟩ rfl hh
    have hf := List.all_eq_true.mp hg a h1
    unfold sy_fin at hf
    split at hf
    · next x hx =>
      rw [hx] at h5
      obtain ⟨w, rfl, hw⟩ := h5
      have hw : w = .int x := hw
      subst hw
      simp only [Bool.and_eq_true, decide_eq_true_eq, Nat.ble_eq] at hf
      obtain ⟨rfl, hf1, hf2⟩ := hf
      obtain ⟨m, hm⟩ := hst _ _ h4
      exact ⟨m, h3, hm, by rw [← h6.2.1]; exact hf1, by rw [← h6.2.2.1]; exact hf2⟩
    · cases hf
  · cases hg
