/-! ===== what SF computes, SI computes: runs ===== -/
variable {lim : Nat × Nat} {P : Nat → Option sx_Mt} {D : Nat → List Value} {S : List Int32} {q : Nat} {ρ : Nat → Int32}
theorem sx_mono_thrown {go go' : sx_F} (hg : ∀ j i ls st h r, go j i ls st h = some r → go' j i ls st h = some r) {j : Nat} {M : sx_Mt} {en : sx_N} {ls : sx_L} {x : Nat} {h1 : sx_H} {r : sx_R} (e : sx_thrown go j M en ls x h1 = some r) : sx_thrown go' j M en ls x h1 = some r := by
  unfold sx_thrown at e ⊢
  cases hm : M.2.2.2.1 with
  | nil => simp only [hm] at e ⊢; exact e
  | cons z t9 =>
    simp only [hm] at e ⊢
    split at e
    · next o ho =>
      split at e
      · next t ht => first | exact hg _ _ _ _ _ _ e | (simp only [ho]; simp only [ht]; exact hg _ _ _ _ _ _ e)
      · cases e
    · cases e
theorem sx_mono_body {go go' : sx_F} (hg : ∀ j i ls st h r, go j i ls st h = some r → go' j i ls st h = some r) {j i : Nat} {ls : sx_L} {st : List Value} {h : sx_H} {r : sx_R} (e : sx_body lim P D S go j i ls st h = some r) : sx_body lim P D S go' j i ls st h = some r := by
  unfold sx_body at e ⊢
  cases hP : P j with
  | none => simp only [hP] at e; cases e
  | some M =>
    simp only [hP] at e ⊢
    cases ha : sx_at M.2.2.2.2 i with
    | none => simp only [ha] at e; cases e
    | some en =>
      simp only [ha] at e ⊢
      cases hb : Nat.blt en.1 56 with
      | true =>
        simp only [hb, cond_true] at e ⊢
        unfold sx_plain at e ⊢
        cases he : sx_step lim D S M.2.2.2.2 en.1 en ls st h with
        | none => simp only [he] at e; cases e
        | some a => simp only [he] at e ⊢; exact hg _ _ _ _ _ _ e
      | false =>
        simp only [hb, cond_false] at e ⊢
        unfold sx_special at e ⊢
        cases h59 : Nat.blt en.1 59 with
        | false => simp only [h59, cond_false] at e ⊢; exact e
        | true =>
          simp only [h59, cond_true] at e ⊢
          unfold sx_call at e ⊢
          cases has : sx_args en.2.2.1 st [] with
          | none => simp only [has] at e; cases e
          | some asr =>
          obtain ⟨as, rest⟩ := asr
          cases hN : P en.2.1 with
          | none => simp only [has, hN] at e; cases e
          | some N =>
            simp only [has, hN] at e ⊢
            cases hc : (Nat.ble (rest.map fun v => v.category).sum 8 && as.all (fun v => Nat.beq v.category 1) && sx_recv en.1 N.2.1 h as && (Nat.ble h.1 lim.1 && Nat.ble h.2.1 lim.2)) with
            | false => simp only [hc, cond_false] at e; cases e
            | true =>
              simp only [hc, cond_true] at e ⊢
              split at e
              · next v h1 hgo => simp only [hg _ _ _ _ _ _ hgo]; exact hg _ _ _ _ _ _ e
              · next x h1 hgo => simp only [hg _ _ _ _ _ _ hgo]; exact sx_mono_thrown hg e
              · cases e
theorem sx_mono : ∀ (n : Nat) (j i : Nat) (ls : sx_L) (st : List Value) (h : sx_H) (r : sx_R), sx_exec lim P D S n j i ls st h = some r → sx_exec lim P D S (n + 1) j i ls st h = some r
  | 0, _, _, _, _, _, _, e => by cases e
  | n + 1, j, i, ls, st, h, r, e => by
    rw [sx_exec_succ] at e ⊢
    exact sx_mono_body (sx_mono n) e
theorem sx_mono_le {n m : Nat} (hnm : n ≤ m) {j i : Nat} {ls : sx_L} {st : List Value} {h : sx_H} {r : sx_R} (e : sx_exec lim P D S n j i ls st h = some r) : sx_exec lim P D S m j i ls st h = some r := by
  induction hnm with
  | refl => exact e
  | step _ ih => exact sx_mono _ _ _ _ _ _ _ ih
def sy_rr (ρ : Nat → Int32) (a : sy_R) (b : Option Value ⊕ Nat) : Prop := match a with
  | .inl none => b = .inl none
  | .inl (some v) => ∃ w, b = .inl (some w) ∧ sy_v ρ v w
  | .inr x => b = .inr x
def sy_lf (ρ : Nat → Int32) (a : sy_Lf) (r : Option sx_R) : Prop := sy_e ρ a.1 ∧ ∃ b h1, r = some (b, h1) ∧ sy_rr ρ a.2.1 b ∧ sy_h a.2.2 h1
def sy_in (ρ : Nat → Int32) (L : List sy_Lf) (r : Option sx_R) : Prop := ∃ a, a ∈ L ∧ sy_lf ρ a r
theorem sy_in_sub {L L1 : List sy_Lf} {r : Option sx_R} (h : ∀ x, x ∈ L → x ∈ L1) : sy_in ρ L r → sy_in ρ L1 r := fun ⟨a, h1, h2⟩ => ⟨a, h a h1, h2⟩
theorem sy_two_ok {a b : Option (List sy_Lf)} {L : List sy_Lf} (h : sy_two a b = some L) : ∃ x y, a = some x ∧ b = some y ∧ L = x ++ y := by
  unfold sy_two at h
  split at h
  · next x y => cases h; exact ⟨x, y, rfl, rfl, rfl⟩
  · cases h
theorem sy_seq_ok (f : sy_Lf → Option (List sy_Lf)) : ∀ (L0 L : List sy_Lf), sy_seq f L0 = some L → ∀ a, a ∈ L0 → ∃ La, f a = some La ∧ ∀ x, x ∈ La → x ∈ L
  | [], _, _, a, ha => by cases ha
  | b :: [], L, h, a, ha => by
    have h : f b = some L := h
    rcases List.mem_cons.mp ha with e | h9
    · subst e; exact ⟨L, h, fun _ h => h⟩
    · cases h9
  | b :: c :: t, L, h, a, ha => by
    have h : sy_two (f b) (sy_seq f (c :: t)) = some L := h
    obtain ⟨x, y, h1, h2, rfl⟩ := sy_two_ok h
    rcases List.mem_cons.mp ha with e | h9
    · subst e; exact ⟨x, h1, fun z hz => List.mem_append_left _ hz⟩
    · obtain ⟨La, h3, h4⟩ := sy_seq_ok f (c :: t) y h2 a h9
      exact ⟨La, h3, fun z hz => List.mem_append_right _ (h4 z hz)⟩
theorem sy_args_ok : ∀ (n : Nat) {st acc : List sy_V} {st' acc' : List Value} {as rest : List sy_V}, sy_ss ρ st st' → sy_ss ρ acc acc' → sy_args n st acc = some (as, rest) → ∃ as' rest', sx_args n st' acc' = some (as', rest') ∧ sy_ss ρ as as' ∧ sy_ss ρ rest rest'
  | 0, st, acc, st', acc', as, rest, h1, h2, e => by
    have e : some (acc, st) = some (as, rest) := e
    cases e
    exact ⟨acc', st', rfl, h2, h1⟩
  | n + 1, [], acc, st', acc', as, rest, h1, h2, e => by cases e
  | n + 1, a :: s, acc, st', acc', as, rest, h1, h2, e => by
    obtain ⟨v, r, rfl, hv, hr⟩ := h1
    have e : sy_args n s (a :: acc) = some (as, rest) := e
    have h9 := sy_args_ok n (acc := a :: acc) (acc' := v :: acc') hr ⟨v, acc', rfl, hv, h2⟩ e
    exact h9
theorem sy_locs_ok : ∀ {as : List sy_V} {as' : List Value} (i : Nat), sy_ss ρ as as' → sy_ll ρ (sy_locs as i) (sx_locs as' i)
  | [], as', i, h => by rw [show as' = [] from h]; exact rfl
  | a :: s, as', i, h => by
    obtain ⟨v, r, rfl, hv, hr⟩ := h
    exact ⟨v, _, rfl, hv, sy_locs_ok (i + 1) hr⟩
theorem sy_all_ok : ∀ {as : List sy_V} {as' : List Value}, sy_ss ρ as as' → as.all (fun v => Nat.beq (sy_cat v) 1) = as'.all (fun v => Nat.beq v.category 1)
  | [], as', h => by rw [show as' = [] from h]; rfl
  | a :: s, as', h => by
    obtain ⟨v, r, rfl, hv, hr⟩ := h
    rw [List.all_cons, List.all_cons, sy_all_ok hr, sy_cat_ok hv]
theorem sy_recv_ok {o ci : Nat} {T : sy_H} {h : sx_H} (H : sy_h T h) {as : List sy_V} {as' : List Value} (hs : sy_ss ρ as as') (e : sy_recv o ci T as = true) : sx_recv o ci h as' = true := by
  unfold sy_recv at e
  unfold sx_recv
  cases hb : Nat.beq o 58 with
  | true => rfl
  | false =>
    simp only [hb, cond_false] at e ⊢
    split at e
    · next v r =>
      obtain ⟨w, r1, rfl, hv, hr⟩ := hs
      split at e
      · next k o1 ho =>
        obtain ⟨rfl, hk, y, h1, h2⟩ := sy_arr_ok H ho hv
        obtain ⟨fs, h2, -⟩ := h2
        have h2 := Option.some.inj h2
        subst h2
        simp only [h1]
        exact e
      · cases e
    · cases e
theorem sy_app_ok {a : Option sy_V} {b : Option Value} {rest : List sy_V} {rest' : List Value} (h : sy_rr ρ (.inl a) (.inl b)) (hr : sy_ss ρ rest rest') : sy_ss ρ (a.toList ++ rest) (b.toList ++ rest') := by
  cases a with
  | none =>
    have h : (Sum.inl b : Option Value ⊕ Nat) = .inl none := h
    cases h
    exact hr
  | some v =>
    obtain ⟨w, hw, hv⟩ := h
    cases hw
    exact ⟨w, rest', rfl, hv, hr⟩
theorem sy_e_cut {E : sy_E} (hE : sy_e ρ E) (k : Nat) {a b : Nat} (h : a ≤ sy_b (ρ k) ∧ sy_b (ρ k) ≤ b) : sy_e ρ (sx_lset (0, 4294967295) (a, b) E k) := by
  intro j
  unfold sy_of
  rw [sx_lg_lset]
  by_cases e : j = k
  · rw [if_pos e, e]; exact h
  · rw [if_neg e]; exact hE j
theorem sy_ends_ok {E : sy_E} {T : sy_H} {h : sx_H} (hE : sy_e ρ E) (H : sy_h T h) {v : Option (Option sy_V)} {w : Option (Option Value)} {L : List sy_Lf} (hv : ∀ a, v = some a → ∃ b, w = some b ∧ sy_rr ρ (.inl a) (.inl b)) (e : sy_ends E T v = some L) : sy_in ρ L (sx_ends h w) := by
  unfold sy_ends at e
  split at e
  · next a =>
    cases e
    obtain ⟨b, rfl, hb⟩ := hv a rfl
    exact ⟨_, List.mem_singleton.mpr rfl, hE, _, _, rfl, hb, H⟩
  · cases e
theorem sy_r0_ok {rk : Nat} {st : List sy_V} {st' : List Value} (hs : sy_ss ρ st st') (a : Option sy_V) (e : sy_r0 rk st = some a) : ∃ b, sx_r0 rk st' = some b ∧ sy_rr ρ (.inl a) (.inl b) := by
  unfold sy_r0 at e
  split at e
  · have hs : st' = [] := hs
    subst hs
    cases hb : Nat.beq rk 0 with
    | false => rw [hb] at e; cases e
    | true =>
      rw [hb] at e
      cases e
      exact ⟨none, by simp only [sx_r0, hb, cond_true], rfl⟩
  · cases e
theorem sy_r1_ok {E : sy_E} (hE : sy_e ρ E) {rk : Nat} {st : List sy_V} {st' : List Value} (hs : sy_ss ρ st st') (a : Option sy_V) (e : sy_r1 E rk st = some a) : ∃ b, sx_r1 rk st' = some b ∧ sy_rr ρ (.inl a) (.inl b) := by
  unfold sy_r1 at e
  split at e
  · next x =>
    obtain ⟨v, r, rfl, hv, hr⟩ := hs
    have hr : r = [] := hr
    subst hr
    cases hb : Nat.beq rk 1 with
    | true =>
      simp only [hb, cond_true] at e
      cases hi : sy_isI x with
      | false => rw [hi] at e; cases e
      | true =>
        rw [hi] at e
        cases e
        obtain ⟨y, rfl⟩ := sy_isI_ok hi hv
        exact ⟨_, by simp only [sx_r1, hb, cond_true], _, rfl, hv⟩
    | false =>
      simp only [hb, cond_false] at e
      split at e
      · next x1 ex =>
        have e1 := sy_c_ok hE ex hv
        subst e1
        cases hd : (Nat.beq rk 2 && (decide (x1 = 0) || decide (x1 = 1))) with
        | false => rw [hd] at e; cases e
        | true =>
          rw [hd] at e
          cases e
          exact ⟨_, by simp only [sx_r1, hb, hd, cond_true, cond_false], _, rfl, rfl⟩
      · cases e
  · cases e
theorem sy_r2_ok {rk : Nat} {st : List sy_V} {st' : List Value} (hs : sy_ss ρ st st') (a : Option sy_V) (e : sy_r2 rk st = some a) : ∃ b, sx_r2 rk st' = some b ∧ sy_rr ρ (.inl a) (.inl b) := by
  unfold sy_r2 at e
  split at e
  · next x =>
    obtain ⟨v, r, rfl, hv, hr⟩ := hs
    have hr : r = [] := hr
    subst hr
    have hv : v = .ref x := hv
    subst hv
    cases hb : Nat.beq rk 3 with
    | false => rw [hb] at e; cases e
    | true =>
      rw [hb] at e
      cases e
      exact ⟨_, by simp only [sx_r2, hb, cond_true], _, rfl, rfl⟩
  · cases e
/-- the packed codes are right -/
def sy_Kok (P : Nat → Option sx_Mt) (Kc : Nat → Nat) : Prop := (∀ j i, Nat.beq (Nat.mod (sy_x (Kc j) i) 256) 0 = false → ∃ M pc ln ins, P j = some M ∧ sx_at M.2.2.2.2 i = some ((sy_en (sy_x (Kc j) i)).1, (sy_en (sy_x (Kc j) i)).2.1, (sy_en (sy_x (Kc j) i)).2.2.1, pc, ln, ins)) ∧ ∀ j M, P j = some M → Nat.mod (Nat.div (Kc j) 65536) 256 = M.2.2.1 ∧ Nat.mod (Nat.div (Kc j) 16777216) 65536 = M.2.1
variable {Kc : Nat → Nat} {Dn : Nat → Nat × List (List Value)}
theorem sy_runs (hK : sy_Kok P Kc) : ∀ {n j i : Nat} {E : sy_E} {ls : sy_L} {st : List sy_V} {T : sy_H} {L : List sy_Lf}, sy_exec lim P Kc Dn q n j (Kc j) i E ls st T = some L → ∃ M, P j = some M
  | 0, _, _, _, _, _, _, _, e => by cases e
  | n + 1, j, i, E, ls, st, T, L, e => by
    rw [sy_exec_succ] at e
    unfold sy_body at e
    cases hb : Nat.beq (Nat.mod (sy_x (Kc j) i) 256) 0 with
    | true => rw [hb] at e; cases e
    | false =>
      obtain ⟨M, -, -, -, h1, -⟩ := hK.1 j i hb
      exact ⟨M, h1⟩
theorem sy_sound (hK : sy_Kok P Kc) (hD : sy_Dok D Dn) (hc : sy_cx ρ S q) : ∀ (n j i : Nat) (E : sy_E) (ls : sy_L) (st : List sy_V) (T : sy_H) (L : List sy_Lf) (ls' : sx_L) (st' : List Value) (h : sx_H), sy_exec lim P Kc Dn q n j (Kc j) i E ls st T = some L → sy_e ρ E → sy_ll ρ ls ls' → sy_ss ρ st st' → sy_h T h → sy_in ρ L (sx_exec lim P D S n j i ls' st' h)
  | 0, _, _, _, _, _, _, _, _, _, _, e, _, _, _, _ => by cases e
  | n + 1, j, i, E, ls, st, T, L, ls', st', h, e, hE, hl, hs, H => by
    have ih := sy_sound hK hD hc n
    have hmono : ∀ {L1 : List sy_Lf}, sy_in ρ L1 (sx_exec lim P D S n j i ls' st' h) → sy_in ρ L1 (sx_exec lim P D S (n + 1) j i ls' st' h) := by
      rintro L1 ⟨a, h1, h2, b, h3, h4, h5⟩
      exact ⟨a, h1, h2, b, h3, sx_mono _ _ _ _ _ _ _ h4, h5⟩
    have hcuts : ∀ {k c : Nat}, sy_cuts (sy_exec lim P Kc Dn q n) j (Kc j) i E ls st T k c = some L → sy_in ρ L (sx_exec lim P D S (n + 1) j i ls' st' h) := by
      intro k c e
      obtain ⟨x, y, h1, h2, rfl⟩ := sy_two_ok e
      have hk := hE k
      by_cases hlt : sy_b (ρ k) < c
      · exact hmono (sy_in_sub (fun z hz => List.mem_append_left _ hz) (ih _ _ _ _ _ _ _ _ _ _ h1 (sy_e_cut hE k ⟨hk.1, by omega⟩) hl hs H))
      · exact hmono (sy_in_sub (fun z hz => List.mem_append_right _ hz) (ih _ _ _ _ _ _ _ _ _ _ h2 (sy_e_cut hE k ⟨by omega, hk.2⟩) hl hs H))
    rw [sy_exec_succ] at e
    unfold sy_body at e
    cases h0 : Nat.beq (Nat.mod (sy_x (Kc j) i) 256) 0 with
    | true => rw [h0] at e; cases e
    | false =>
    rw [h0] at e
    obtain ⟨M, pc, ln, ins, hP, ha⟩ := hK.1 j i h0
    have e : sy_body1 lim P Kc Dn q (sy_exec lim P Kc Dn q n) j (Kc j) i E ls st T (sy_en (sy_x (Kc j) i)) = some L := e
    have hen : sy_en (sy_x (Kc j) i) = ((sy_en (sy_x (Kc j) i)).1, (sy_en (sy_x (Kc j) i)).2.1, (sy_en (sy_x (Kc j) i)).2.2.1, 0, 0, .nop) := rfl
    generalize (sy_en (sy_x (Kc j) i)).1 = o at ha hen
    generalize (sy_en (sy_x (Kc j) i)).2.1 = oa at ha hen
    generalize (sy_en (sy_x (Kc j) i)).2.2.1 = ob at ha hen
    rw [hen] at e
    clear hen h0
    unfold sy_body1 at e
    simp only at e
    cases h36 : Nat.beq o 36 with
    | true =>
      simp only [h36, cond_true] at e
      unfold sy_b36 at e
      split at e
      · exact hcuts e
      · unfold sy_swi at e
        simp only [hP, ha] at e
        cases he : sy_i36 M.2.2.2.2 (o, oa, ob, pc, ln, ins) E ls st T with
        | none => simp only [he] at e; cases e
        | some r9 =>
          obtain ⟨t, ls1, st1, T1⟩ := r9
          simp only [he] at e
          obtain ⟨ls2, st2, h2, k1, k2, k3, k4⟩ := sy_i36_s M.2.2.2.2 ρ E _ ls st T ls' st' h _ hc hE hl hs H he
          have ho := Nat.eq_of_beq_eq_true h36
          subst ho
          rw [sx_exec_succ]
          unfold sx_body
          simp only [hP, ha]
          show sy_in ρ L (sx_plain lim D S _ j i M _ ls' st' h)
          unfold sx_plain
          have k1 : sx_step lim D S M.2.2.2.2 36 (36, oa, ob, pc, ln, ins) ls' st' h = some (t, ls2, st2, h2) := k1
          simp only [k1]
          exact ih _ _ _ _ _ _ _ _ _ _ e hE k2 k3 k4
    | false =>
      simp only [h36, cond_false] at e
      unfold sy_bw at e
      split at e
      · exact hcuts e
      · unfold sy_bn at e
        rw [sx_exec_succ]
        unfold sx_body
        simp only [hP, ha]
        have hbb : Nat.ble 56 o = !Nat.blt o 56 := by
          cases hq : Nat.blt o 56 with
          | true => rw [Nat.blt_eq] at hq; exact Bool.eq_false_iff.mpr (fun h9 => by rw [Nat.ble_eq] at h9; omega)
          | false =>
            have hq := Bool.eq_false_iff.mp hq
            rw [ne_eq, Nat.blt_eq] at hq
            exact Nat.ble_eq.mpr (by omega)
        rw [hbb] at e
        cases hb : Nat.blt o 56 with
        | true =>
          simp only [hb, cond_true, cond_false, Bool.not_true] at e ⊢
          unfold sy_plain at e
          unfold sx_plain
          cases he : sy_step lim Dn q o (o, oa, ob, 0, 0, .nop) E ls st T with
          | none => simp only [he] at e; cases e
          | some r9 =>
            obtain ⟨t, ls1, st1, T1⟩ := r9
            simp only [he] at e
            obtain ⟨ls2, st2, h2, k1, k2, k3, k4⟩ := sy_step_s lim hD M.2.2.2.2 o ρ E o oa ob pc ln ins ls st T ls' st' h _ hc hE hl hs H he
            simp only [k1]
            exact ih _ _ _ _ _ _ _ _ _ _ e hE k2 k3 k4
        | false =>
          simp only [hb, cond_false, cond_true, Bool.not_false] at e ⊢
          unfold sy_special at e
          unfold sx_special
          cases h59 : Nat.blt o 59 with
          | true =>
            simp only [h59, cond_true] at e ⊢
            unfold sy_call at e
            unfold sx_call
            cases has : sy_args ob st [] with
            | none => simp only [has] at e; cases e
            | some asr =>
              obtain ⟨as, rest⟩ := asr
              simp only [has] at e
              obtain ⟨as', rest', k1, k2, k3⟩ := sy_args_ok _ hs (show sy_ss ρ [] [] from rfl) has
              cases hcd : (Nat.ble (rest.map sy_cat).sum 8 && as.all (fun v => Nat.beq (sy_cat v) 1) && sy_recv o (Nat.mod (Nat.div (Kc oa) 16777216) 65536) T as && (Nat.ble T.1 lim.1 && Nat.ble T.2.1 lim.2)) with
              | false => simp only [hcd, cond_false] at e; cases e
              | true =>
                simp only [hcd, cond_true] at e
                cases hL0 : sy_exec lim P Kc Dn q n oa (Kc oa) 0 E (sy_locs as 0) [] T with
                | none => simp only [hL0] at e; cases e
                | some L0 =>
                  simp only [hL0] at e
                  obtain ⟨N, hN⟩ := sy_runs hK hL0
                  have hcd' : (Nat.ble (rest'.map fun v => v.category).sum 8 && as'.all (fun v => Nat.beq v.category 1) && sx_recv o N.2.1 h as' && (Nat.ble h.1 lim.1 && Nat.ble h.2.1 lim.2)) = true := by
                    rw [sy_cats_ok k3, sy_all_ok k2, H.2.1, H.2.2.1, (hK.2 oa N hN).2] at hcd
                    simp only [Bool.and_eq_true] at hcd ⊢
                    exact ⟨⟨hcd.1.1, sy_recv_ok H k2 hcd.1.2⟩, hcd.2⟩
                  simp only [k1, hN, hcd', cond_true]
                  obtain ⟨a, m1, m2, b, h1, m3, m4, m5⟩ := ih _ _ _ _ _ _ _ _ _ _ hL0 hE (sy_locs_ok 0 k2) (show sy_ss ρ [] [] from rfl) H
                  obtain ⟨La, p1, p2⟩ := sy_seq_ok _ _ _ e a m1
                  refine sy_in_sub p2 ?_
                  simp only [m3]
                  unfold sy_aft at p1
                  split at p1
                  · next v hv =>
                    rw [hv] at m4
                    cases b with
                    | inr y =>
                      cases v with
                      | none => cases m4
                      | some v => obtain ⟨w, hw, -⟩ := m4; cases hw
                    | inl b => exact ih _ _ _ _ _ _ _ _ _ _ p1 m2 hl (sy_app_ok m4 k3) m5
                  · next x hx =>
                    rw [hx] at m4
                    have m4 : b = .inr x := m4
                    subst m4
                    unfold sy_thrown at p1
                    simp only [hP] at p1
                    show sy_in ρ La (sx_thrown _ j M _ ls' x h1)
                    unfold sx_thrown
                    cases hm : M.2.2.2.1 with
                    | nil =>
                      simp only [hm] at p1 ⊢
                      cases p1
                      exact ⟨_, List.mem_singleton.mpr rfl, m2, _, _, rfl, rfl, m5⟩
                    | cons z9 t9 =>
                      simp only [hm, ha] at p1 ⊢
                      cases ho : sy_get a.2.2 x with
                      | none => simp only [ho] at p1; cases p1
                      | some c9 =>
                        rcases c9 with o9 | c9
                        · obtain ⟨fs, ho', -⟩ := m5.2.2.2 x _ ho
                          simp only [ho] at p1
                          cases ht : sx_hand (z9 :: t9) pc o9.1 with
                          | none => simp only [ht] at p1; cases p1
                          | some t =>
                            simp only [ht] at p1
                            simp only [ho', ht]
                            exact ih _ _ _ _ _ _ _ _ _ _ p1 m2 hl ⟨_, _, rfl, rfl, rfl⟩ m5
                        · simp only [ho] at p1; cases p1
          | false =>
            simp only [h59, cond_false] at e ⊢
            have hrk := (hK.2 j M hP).1
            rw [hrk] at e
            cases h61 : Nat.blt o 61 with
            | true =>
              simp only [h61, cond_true] at e ⊢
              cases h5 : Nat.beq o 59 with
              | true =>
                simp only [h5, cond_true] at e ⊢
                exact sy_ends_ok hE H (sy_r0_ok hs) e
              | false =>
                simp only [h5, cond_false] at e ⊢
                exact sy_ends_ok hE H (sy_r1_ok hE hs) e
            | false =>
              simp only [h61, cond_false] at e ⊢
              cases h6 : Nat.beq o 61 with
              | true =>
                simp only [h6, cond_true] at e ⊢
                exact sy_ends_ok hE H (sy_r2_ok hs) e
              | false =>
                simp only [h6, cond_false] at e ⊢
                cases h62 : Nat.beq o 62 with
                | false => simp only [h62, cond_false] at e; cases e
                | true =>
                  simp only [h62, cond_true] at e ⊢
                  rw [sy_cats_ok hs, H.2.1, H.2.2.1] at e
                  cases hcd : (Nat.blt h.1 lim.1 && Nat.ble (h.2.1 + 6) lim.2 && Nat.ble (st'.map fun v => v.category).sum 8) with
                  | false => rw [hcd] at e; cases e
                  | true =>
                    rw [hcd] at e
                    simp only [hcd, cond_true, Bool.true_and] at e ⊢
                    cases hb2 : Nat.ble (h.1 + 1) 2048 with
                    | false => rw [hb2] at e; cases e
                    | true =>
                      rw [hb2] at e
                      cases e
                      rw [Nat.ble_eq] at hb2
                      exact ⟨_, List.mem_singleton.mpr rfl, hE, _, _, rfl, rfl, sy_push_h H (by rw [H.2.1]; omega) 6 ⟨[], rfl, fun b => rfl⟩⟩
