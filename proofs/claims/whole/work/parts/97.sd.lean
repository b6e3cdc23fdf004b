/-! ===== what SF computes, SI computes: the heap's instructions ===== -/
variable {S : List Int32} {q : Nat}
theorem sy_ix_ok {ρ : Nat → Int32} {E : sy_E} (hE : sy_e ρ E) {a : sy_V} {v : Value} {n j : Nat} (h : sy_ix E a n = some j) (hv : sy_v ρ a v) : ∃ x, v = .int x ∧ sx_ix x n = some j := by
  unfold sy_ix at h
  split at h
  · next x hx => exact ⟨x, sy_c_ok hE hx hv, h⟩
  · cases h
theorem sy_ce_l {x y : sx_C} (h : sy_ce (.inr (.inr (.inl x))) (some y)) : y = x := Option.some.inj h
theorem sy_ce_r {t n : Nat} {y : sx_C} (h : sy_ce (.inr (.inr (.inr (t, n)))) (some y)) : ∃ l, y = .inr (.inl (t, n, l)) := by
  obtain ⟨l, hl⟩ := h
  exact ⟨l, Option.some.inj hl⟩
theorem sy_ce_p {t n A : Nat} {y : sx_C} (h : sy_ce (.inr (.inl (t, n, A))) (some y)) : ∃ l, y = .inr (.inl (t, n, l)) ∧ ∀ j, (sx_ag 0 l j).toBitVec.toNat = sy_pg A j := by
  obtain ⟨l, hl, hf⟩ := h
  exact ⟨l, Option.some.inj hl, hf⟩
theorem sy_ofNat_toNat (x : Int32) : Int32.ofNat x.toBitVec.toNat = x := by
  apply Int32.toBitVec_inj.mp
  apply BitVec.eq_of_toNat_eq
  have h := x.toBitVec.isLt
  rw [Int32.toBitVec_ofNat', BitVec.toNat_ofNat]
  omega
theorem sy_pg_v {l : List (List Int32)} {A : Nat} (hf : ∀ j, (sx_ag 0 l j).toBitVec.toNat = sy_pg A j) (j : Nat) : Value.int (sx_ag 0 l j) = .int (Int32.ofNat (sy_pg A j)) := by
  rw [← hf, sy_ofNat_toNat]
theorem sy_ast_ok {l : List (List Int32)} {A : Nat} (hf : ∀ j, (sx_ag 0 l j).toBitVec.toNat = sy_pg A j) (t n j : Nat) (x : Int32) : sy_ce (.inr (.inl (t, n, sy_ps A j x.toBitVec.toNat))) (some (.inr (.inl (t, n, sx_as 0 l j x)))) := by
  refine ⟨_, rfl, fun i => ?_⟩
  rw [sx_ag_as, sy_pg_ps j i x.toBitVec.isLt]
  by_cases e : i = j
  · rw [if_pos e, if_pos e]
  · rw [if_neg e, if_neg e, hf]
theorem sy_pc_ok {l g : List (List Int32)} {F G : Nat} (hF : ∀ j, (sx_ag 0 l j).toBitVec.toNat = sy_pg F j) (hG : ∀ j, (sx_ag 0 g j).toBitVec.toNat = sy_pg G j) (sp dp : Nat) : ∀ m j, (sx_ag 0 (sx_cpy l g sp dp m) j).toBitVec.toNat = sy_pg (sy_pc F G sp dp m) j
  | 0, j => hG j
  | m + 1, j => by
    have e1 : sx_cpy l g sp dp (m + 1) = sx_as 0 (sx_cpy l g sp dp m) (dp + m) (sx_ag 0 l (sp + m)) := rfl
    have e2 : sy_pc F G sp dp (m + 1) = sy_ps (sy_pc F G sp dp m) (dp + m) (sy_pg F (sp + m)) := rfl
    have hlt : sy_pg F (sp + m) < 4294967296 := Nat.mod_lt _ (by omega)
    rw [e1, e2, sx_ag_as, sy_pg_ps _ _ hlt]
    by_cases e : j = dp + m
    · rw [if_pos e, if_pos e, hF]
    · rw [if_neg e, if_neg e, sy_pc_ok hF hG sp dp m]
theorem sy_i37_s : sy_snd S q (sy_i37 q) (sx_i37 S) := by
  intro ρ E en ls st T ls' st' h a hc hE hl hs H e
  unfold sy_i37 at e
  split at e
  · next r =>
    obtain ⟨v, r1, rfl, hv, hr⟩ := hs
    have hv : v = .ref 0 := hv
    subst hv
    cases hb : Nat.beq q 99 with
    | true => rw [hb] at e; cases e
    | false =>
      rw [hb] at e
      cases e
      exact ⟨_, .int (Int32.ofNat S.length) :: r1, h, by simp only [sx_i37], hl, ⟨_, _, rfl, (show Value.int (Int32.ofNat S.length) = .int (Int32.ofNat q) by rw [(hc.1 hb).1]), hr⟩, H⟩
  · next v r hne =>
    obtain ⟨w, r1, rfl, hv, hr⟩ := hs
    split at e
    · next k a1 ha =>
      cases e
      obtain ⟨rfl, hk, x, h1, h2⟩ := sy_arr_ok H ha hv
      obtain ⟨l, rfl, -⟩ := sy_ce_p (t := a1.1) (n := a1.2.1) (A := a1.2.2) h2
      exact ⟨_, _, h, by simp only [sx_i37, h1], hl, ⟨_, _, rfl, rfl, hr⟩, H⟩
    · next k a1 ha =>
      cases e
      obtain ⟨rfl, hk, x, h1, h2⟩ := sy_arr_ok H ha hv
      have h2 := sy_ce_l h2
      subst h2
      exact ⟨_, _, h, by simp only [sx_i37, h1], hl, ⟨_, _, rfl, rfl, hr⟩, H⟩
    · next k a1 ha =>
      cases e
      obtain ⟨rfl, hk, x, h1, h2⟩ := sy_arr_ok H ha hv
      obtain ⟨l, rfl⟩ := sy_ce_r (t := a1.1) (n := a1.2) h2
      exact ⟨_, _, h, by simp only [sx_i37, h1], hl, ⟨_, _, rfl, rfl, hr⟩, H⟩
    · cases e
  · cases e
theorem sy_i38_s : sy_snd S q (sy_i38 q) (sx_i38 S) := by
  intro ρ E en ls st T ls' st' h a hc hE hl hs H e
  unfold sy_i38 at e
  split at e
  · next i r =>
    obtain ⟨vi, r1, rfl, hi, v, r2, rfl, hv, hr⟩ := hs
    have hv : v = .ref 0 := hv
    subst hv
    cases hb : Nat.beq q 99 with
    | true => rw [hb] at e; cases e
    | false =>
      rw [hb] at e
      have e : (match sy_ix E i q with
        | some j => some (none, ls, .inr j :: r, T)
        | none => none) = some a := e
      split at e
      · next j ej =>
        cases e
        obtain ⟨x, rfl, hx⟩ := sy_ix_ok hE ej hi
        have hq : sx_ix x S.length = some j := by rw [(hc.1 hb).1]; exact hx
        refine ⟨_, _, h, by simp only [sx_i38, hq], hl, ⟨_, _, rfl, ⟨_, rfl, fun _ => (hc.1 hb).2 j (sx_ix_eq hx).1⟩, hr⟩, H⟩
      · cases e
  · next i w r hne =>
    obtain ⟨vi, r1, rfl, hi, v, r2, rfl, hv, hr⟩ := hs
    generalize ho : sy_arr T w = o at e
    unfold sy_ald at e
    split at e
    · next k n A =>
      unfold sy_ald1 at e
      split at e
      · next j ej =>
        cases e
        obtain ⟨x, rfl, hx⟩ := sy_ix_ok hE ej hi
        obtain ⟨rfl, hk, y, h1, h2⟩ := sy_arr_ok H ho hv
        obtain ⟨l, rfl, hf⟩ := sy_ce_p h2
        exact ⟨_, _, h, by simp only [sx_i38, h1, hx], hl, ⟨_, _, rfl, sy_pg_v hf j, hr⟩, H⟩
      · cases e
    · next k n =>
      unfold sy_ald2 at e
      split at e
      · next j ej =>
        cases e
        obtain ⟨x, rfl, hx⟩ := sy_ix_ok hE ej hi
        obtain ⟨rfl, hk, y, h1, h2⟩ := sy_arr_ok H ho hv
        obtain ⟨l, rfl⟩ := sy_ce_r h2
        exact ⟨_, _, h, by simp only [sx_i38, h1, hx]; rfl, hl, ⟨_, _, rfl, ⟨_, rfl, fun h9 => by omega⟩, hr⟩, H⟩
      · cases e
    · cases e
  · cases e
theorem sy_i39_s : sy_snd S q sy_i39 sx_i39 := by
  intro ρ E en ls st T ls' st' h a hc hE hl hs H e
  unfold sy_i39 at e
  split at e
  · next i w r =>
    obtain ⟨vi, r1, rfl, hi, v, r2, rfl, hv, hr⟩ := hs
    split at e
    · next k n A ha =>
      unfold sy_ald1 at e
      split at e
      · next j ej =>
        cases e
        obtain ⟨x, rfl, hx⟩ := sy_ix_ok hE ej hi
        obtain ⟨rfl, hk, y, h1, h2⟩ := sy_arr_ok H ha hv
        obtain ⟨l, rfl, hf⟩ := sy_ce_p h2
        exact ⟨_, _, h, by simp only [sx_i39, h1, hx], hl, ⟨_, _, rfl, sy_pg_v hf j, hr⟩, H⟩
      · cases e
    · next k n A ha =>
      unfold sy_ald1 at e
      split at e
      · next j ej =>
        cases e
        obtain ⟨x, rfl, hx⟩ := sy_ix_ok hE ej hi
        obtain ⟨rfl, hk, y, h1, h2⟩ := sy_arr_ok H ha hv
        obtain ⟨l, rfl, hf⟩ := sy_ce_p h2
        exact ⟨_, _, h, by simp only [sx_i39, h1, hx], hl, ⟨_, _, rfl, sy_pg_v hf j, hr⟩, H⟩
      · cases e
    · cases e
  · cases e
theorem sy_i40_s : sy_snd S q sy_i40 sx_i40 := by
  intro ρ E en ls st T ls' st' h a hc hE hl hs H e
  unfold sy_i40 at e
  split at e
  · next i w r =>
    obtain ⟨vi, r1, rfl, hi, v, r2, rfl, hv, hr⟩ := hs
    split at e
    · next k n l ha =>
      split at e
      · next j ej =>
        cases e
        obtain ⟨x, rfl, hx⟩ := sy_ix_ok hE ej hi
        obtain ⟨rfl, hk, y, h1, h2⟩ := sy_arr_ok H ha hv
        have h2 := sy_ce_l h2
        subst h2
        exact ⟨_, _, h, by simp only [sx_i40, h1, hx], hl, ⟨_, _, rfl, rfl, hr⟩, H⟩
      · cases e
    · cases e
  · cases e
theorem sy_i41_s : sy_snd S q sy_i41 sx_i41 := by
  intro ρ E en ls st T ls' st' h a hc hE hl hs H e
  unfold sy_i41 at e
  split at e
  · next i w r =>
    obtain ⟨vi, r1, rfl, hi, v, r2, rfl, hv, hr⟩ := hs
    split at e
    · next k ci n l ha =>
      split at e
      · next j ej =>
        cases e
        obtain ⟨x, rfl, hx⟩ := sy_ix_ok hE ej hi
        obtain ⟨rfl, hk, y, h1, h2⟩ := sy_arr_ok H ha hv
        have h2 := sy_ce_l h2
        subst h2
        exact ⟨_, _, h, by simp only [sx_i41, h1, hx], hl, ⟨_, _, rfl, rfl, hr⟩, H⟩
      · cases e
    · cases e
  · cases e
theorem sy_i42_s : sy_snd S q sy_i42 sx_i42 := by
  intro ρ E en ls st T ls' st' h a hc hE hl hs H e
  unfold sy_i42 at e
  split at e
  · next x i w r =>
    obtain ⟨vx, r0, rfl, hx, vi, r1, rfl, hi, v, r2, rfl, hv, hr⟩ := hs
    split at e
    · next k n A ha =>
      split at e
      · next j ej =>
        obtain ⟨i1, rfl, hi1⟩ := sy_ix_ok hE ej hi
        obtain ⟨rfl, hk, y, h1, h2⟩ := sy_arr_ok H ha hv
        obtain ⟨l, rfl, hf⟩ := sy_ce_p h2
        split at e
        · next x1 ex =>
          unfold sy_ast at e
          cases e
          have e1 := sy_c_ok hE ex hx
          subst e1
          exact ⟨_, _, _, by simp only [sx_i42, h1, hi1, sx_frc_eq], hl, hr, sy_set_h H hk (sy_ast_ok hf _ _ _ _)⟩
        · cases hb : sy_isI x with
          | false => rw [hb] at e; cases e
          | true =>
            rw [hb] at e
            cases e
            obtain ⟨x1, rfl⟩ := sy_isI_ok hb hx
            exact ⟨_, _, _, by simp only [sx_i42, h1, hi1, sx_frc_eq]; rfl, hl, hr, sy_set_h H hk ⟨_, rfl⟩⟩
      · cases e
    · next k n ha =>
      split at e
      · next j ej =>
        obtain ⟨i1, rfl, hi1⟩ := sy_ix_ok hE ej hi
        obtain ⟨rfl, hk, y, h1, h2⟩ := sy_arr_ok H ha hv
        obtain ⟨l, rfl⟩ := sy_ce_r h2
        cases hb : sy_isI x with
        | false => rw [hb] at e; cases e
        | true =>
          rw [hb] at e
          cases e
          obtain ⟨x1, rfl⟩ := sy_isI_ok hb hx
          exact ⟨_, _, _, by simp only [sx_i42, h1, hi1, sx_frc_eq]; rfl, hl, hr, sy_keep H ha hk⟩
      · cases e
    · cases e
  · cases e
theorem sy_i43_s : sy_snd S q sy_i43 sx_i43 := by
  intro ρ E en ls st T ls' st' h a hc hE hl hs H e
  unfold sy_i43 at e
  split at e
  · next x i w r =>
    obtain ⟨vx, r0, rfl, hx, vi, r1, rfl, hi, v, r2, rfl, hv, hr⟩ := hs
    split at e
    · next k n A ha =>
      split at e
      · next j ej =>
        obtain ⟨i1, rfl, hi1⟩ := sy_ix_ok hE ej hi
        obtain ⟨rfl, hk, y, h1, h2⟩ := sy_arr_ok H ha hv
        obtain ⟨l, rfl, hf⟩ := sy_ce_p h2
        split at e
        · next x1 ex =>
          unfold sy_ast at e
          cases e
          have e1 := sy_c_ok hE ex hx
          subst e1
          exact ⟨_, _, _, by simp only [sx_i43, h1, hi1, sx_frc_eq], hl, hr, sy_set_h H hk (sy_ast_ok hf _ _ _ _)⟩
        · cases e
      · cases e
    · next k n A ha =>
      split at e
      · next j ej =>
        obtain ⟨i1, rfl, hi1⟩ := sy_ix_ok hE ej hi
        obtain ⟨rfl, hk, y, h1, h2⟩ := sy_arr_ok H ha hv
        obtain ⟨l, rfl, hf⟩ := sy_ce_p h2
        split at e
        · next x1 ex =>
          unfold sy_ast at e
          cases e
          have e1 := sy_c_ok hE ex hx
          subst e1
          exact ⟨_, _, _, by simp only [sx_i43, h1, hi1, sx_frc_eq], hl, hr, sy_set_h H hk (sy_ast_ok hf _ _ _ _)⟩
        · cases hb : sy_isI x with
          | false => rw [hb] at e; cases e
          | true =>
            rw [hb] at e
            cases e
            obtain ⟨x1, rfl⟩ := sy_isI_ok hb hx
            exact ⟨_, _, _, by simp only [sx_i43, h1, hi1, sx_frc_eq]; rfl, hl, hr, sy_set_h H hk ⟨_, rfl⟩⟩
      · cases e
    · next k n ha =>
      split at e
      · next j ej =>
        obtain ⟨i1, rfl, hi1⟩ := sy_ix_ok hE ej hi
        obtain ⟨rfl, hk, y, h1, h2⟩ := sy_arr_ok H ha hv
        obtain ⟨l, rfl⟩ := sy_ce_r h2
        cases hb : sy_isI x with
        | false => rw [hb] at e; cases e
        | true =>
          rw [hb] at e
          cases e
          obtain ⟨x1, rfl⟩ := sy_isI_ok hb hx
          exact ⟨_, _, _, by simp only [sx_i43, h1, hi1, sx_frc_eq]; rfl, hl, hr, sy_keep H ha hk⟩
      · cases e
    · cases e
  · cases e
theorem sy_i44_s : sy_snd S q sy_i44 sx_i44 := by
  intro ρ E en ls st T ls' st' h a hc hE hl hs H e
  unfold sy_i44 at e
  split at e
  · next x i w r =>
    obtain ⟨vx, r0, rfl, hx, vi, r1, rfl, hi, v, r2, rfl, hv, hr⟩ := hs
    have hx : vx = .long x := hx
    subst hx
    split at e
    · next k n l ha =>
      split at e
      · next j ej =>
        cases e
        obtain ⟨i1, rfl, hi1⟩ := sy_ix_ok hE ej hi
        obtain ⟨rfl, hk, y, h1, h2⟩ := sy_arr_ok H ha hv
        have h2 := sy_ce_l h2
        subst h2
        exact ⟨_, _, _, by simp only [sx_i44, h1, hi1], hl, hr, sy_set_h H hk rfl⟩
      · cases e
    · cases e
  · cases e
theorem sy_i45_s : sy_snd S q sy_i45 sx_i45 := by
  intro ρ E en ls st T ls' st' h a hc hE hl hs H e
  unfold sy_i45 at e
  split at e
  · next p i w r =>
    obtain ⟨vx, r0, rfl, hx, vi, r1, rfl, hi, v, r2, rfl, hv, hr⟩ := hs
    have hx : vx = .ref (p + 1) := hx
    subst hx
    split at e
    · next k ci n l o ha ho =>
      cases hb : Nat.beq o.1 ci with
      | false => rw [hb] at e; cases e
      | true =>
        rw [hb] at e
        have e : (match sy_ix E i n with
          | some j => some (none, ls, r, sy_set T k (.inr (.inr (.inl (.inr (.inr (.inr (ci, n, sx_as none l j (some (p + 1))))))))))
          | none => none) = some a := e
        split at e
        · next j ej =>
          cases e
          obtain ⟨i1, rfl, hi1⟩ := sy_ix_ok hE ej hi
          obtain ⟨rfl, hk, y, h1, h2⟩ := sy_arr_ok H ha hv
          have h2 := sy_ce_l h2
          subst h2
          obtain ⟨fs, h3, -⟩ := H.2.2.2 p _ ho
          exact ⟨_, _, _, by simp only [sx_i45, h1, h3, hi1, hb, cond_true], hl, hr, sy_set_h H hk rfl⟩
        · cases e
    · cases e
  · cases e
theorem sy_i46_s : sy_snd S q sy_i46 sx_i46 := by
  intro ρ E en ls st T ls' st' h a hc hE hl hs H e
  unfold sy_i46 at e
  split at e
  · next w r =>
    obtain ⟨v, r2, rfl, hv, hr⟩ := hs
    split at e
    · next k ci f ha =>
      obtain ⟨rfl, hk, y, h1, h2⟩ := sy_arr_ok H ha hv
      obtain ⟨fs, h2, h3⟩ := h2
      have h2 := Option.some.inj h2
      subst h2
      cases hb : Nat.beq ci en.2.1 with
      | false => rw [hb] at e; cases e
      | true =>
        rw [hb] at e
        have e : (match sy_fd f en.2.2.1 with
          | some w => some (none, ls, .inl w :: r, T)
          | none => none) = some a := e
        split at e
        · next z ez =>
          cases e
          have ez1 : sx_lo fs en.2.2.1 = some z := (h3 _).trans ez
          exact ⟨_, _, h, by simp only [sx_i46, h1, hb, ez1, cond_true], hl, ⟨_, _, rfl, rfl, hr⟩, H⟩
        · cases e
    · cases e
  · cases e
theorem sy_fs_ok {fs : List Value} {f : List (List Value)} (h : ∀ b, sx_lo fs b = sy_fd f b) {k : Nat} {z w : Value} (hz : sy_fd f k = some z) : k < fs.length ∧ ∀ b, sx_lo (sx_lset w w fs k) b = sy_fd (sy_fs f k w) b := by
  have h1 : fs[k]? = some z := by rw [← sx_lo_eq, h, hz]
  have hlt : k < fs.length := (List.getElem?_eq_some_iff.mp h1).1
  have h2 : (sx_lg [] f (k / 8))[k % 8]? = some z := by rw [← sx_lo_eq]; exact hz
  have hlt2 : k % 8 < (sx_lg [] f (k / 8)).length := (List.getElem?_eq_some_iff.mp h2).1
  refine ⟨hlt, fun b => ?_⟩
  rw [sx_lo_eq, sx_lset_at w w fs k hlt]
  rw [sy_fd_eq, sy_fs_eq, sx_lg_lset]
  by_cases e1 : b / 8 = k / 8
  · rw [if_pos e1, sx_lo_eq, sx_lset_at _ _ _ _ hlt2]
    by_cases e2 : b % 8 = k % 8
    · rw [if_pos e2, if_pos (by omega)]
    · rw [if_neg e2, if_neg (by omega), ← sx_lo_eq, h, ← sx_lo_eq, ← e1]
      rfl
  · rw [if_neg e1, if_neg (by omega), ← sx_lo_eq, h]
    rfl
theorem sy_i47_s : sy_snd S q sy_i47 sx_i47 := by
  intro ρ E en ls st T ls' st' h a hc hE hl hs H e
  unfold sy_i47 at e
  split at e
  · next z w r =>
    obtain ⟨vz, r1, rfl, hz, v, r2, rfl, hv, hr⟩ := hs
    split at e
    · next k ci f w1 ha hw =>
      obtain ⟨rfl, hk, y, h1, h2⟩ := sy_arr_ok H ha hv
      obtain ⟨fs, h2, h3⟩ := h2
      have h2 := Option.some.inj h2
      subst h2
      have e1 := sy_val_ok hE hw hz
      subst e1
      cases hb : (Nat.beq ci en.2.1 && sx_pv (en.2.2.1 / 1000) vz) with
      | false => rw [hb] at e; cases e
      | true =>
        rw [hb] at e
        have e : (match sy_fd f (en.2.2.1 % 1000) with
          | some _ => some (none, ls, r, sy_set T k (.inl (ci, sy_fs f (en.2.2.1 % 1000) vz)))
          | none => none) = some a := e
        split at e
        · next z0 ez =>
          cases e
          obtain ⟨k1, k2⟩ := sy_fs_ok (w := vz) h3 ez
          rw [Bool.and_eq_true] at hb
          have hb2 : Nat.blt (en.2.2.1 % 1000) fs.length = true := by rw [Nat.blt_eq]; exact k1
          exact ⟨_, _, _, by simp only [sx_i47, h1, hb.1, hb2, hb.2, Bool.and_self, cond_true], hl, hr, sy_set_h H hk ⟨_, rfl, k2⟩⟩
        · cases e
    · cases e
  · cases e
/-- what new objects hold, in rows -/
def sy_Dok (D : Nat → List Value) (Dn : Nat → Nat × List (List Value)) : Prop := ∀ c, (Dn c).1 = (D c).length ∧ ∀ b, sx_lo (D c) b = sy_fd (Dn c).2 b
theorem sy_i48_s (lim : Nat × Nat) {D : Nat → List Value} {Dn : Nat → Nat × List (List Value)} (hD : sy_Dok D Dn) : sy_snd S q (sy_i48 lim Dn) (sx_i48 lim D) := by
  intro ρ E en ls st T ls' st' h a hc hE hl hs H e
  unfold sy_i48 at e
  rw [(hD en.2.1).1] at e
  exact sy_new_ok (c := .inl (en.2.1, (Dn en.2.1).2)) (x := .inl (en.2.1, D en.2.1)) hl hs H ⟨_, rfl, (hD en.2.1).2⟩ e
theorem sy_nar_s (lim : Nat × Nat) (t : Nat) : sy_snd S q (sy_nar lim t) (sx_nar lim t) := by
  intro ρ E en ls st T ls' st' h a hc hE hl hs H e
  unfold sy_nar at e
  split at e
  · next x r =>
    obtain ⟨v, r2, rfl, hv, hr⟩ := hs
    split at e
    · next n en1 =>
      obtain ⟨x1, rfl, hx⟩ := sy_ix_ok hE en1 hv
      have h9 := sy_new_ok (c := .inr (.inl (t, n, 0))) (x := .inr (.inl (t, n, []))) hl hr H ⟨[], rfl, fun j => by rw [sy_pg_zero]; rfl⟩ e
      simp only [sx_nar, hx]
      exact h9
    · cases e
  · cases e
theorem sy_i52_s (lim : Nat × Nat) : sy_snd S q (sy_i52 lim) (sx_i52 lim) := by
  intro ρ E en ls st T ls' st' h a hc hE hl hs H e
  unfold sy_i52 at e
  split at e
  · next x r =>
    obtain ⟨v, r2, rfl, hv, hr⟩ := hs
    split at e
    · next n en1 =>
      obtain ⟨x1, rfl, hx⟩ := sy_ix_ok hE en1 hv
      have h9 := sy_new_ok (c := .inr (.inr (.inl (.inr (.inr (.inl (n, []))))))) (x := .inr (.inr (.inl (n, [])))) hl hr H rfl e
      simp only [sx_i52, hx]
      exact h9
    · cases e
  · cases e
theorem sy_i53_s (lim : Nat × Nat) : sy_snd S q (sy_i53 lim) (sx_i53 lim) := by
  intro ρ E en ls st T ls' st' h a hc hE hl hs H e
  unfold sy_i53 at e
  split at e
  · next x r =>
    obtain ⟨v, r2, rfl, hv, hr⟩ := hs
    split at e
    · next n en1 =>
      obtain ⟨x1, rfl, hx⟩ := sy_ix_ok hE en1 hv
      have h9 := sy_new_ok (c := .inr (.inr (.inl (.inr (.inr (.inr (en.2.1, n, []))))))) (x := .inr (.inr (.inr (en.2.1, n, [])))) hl hr H rfl e
      simp only [sx_i53, hx]
      exact h9
    · cases e
  · cases e
theorem sy_i54_s : sy_snd S q sy_i54 sx_i54 := by
  intro ρ E en ls st T ls' st' h a hc hE hl hs H e
  unfold sy_i54 at e
  split at e
  · next x r =>
    obtain ⟨v, r2, rfl, hv, hr⟩ := hs
    have hv : v = .ref x := hv
    subst hv
    rw [sy_cats_ok hr] at e
    cases hb : Nat.ble (r2.map fun v => v.category).sum 8 with
    | false => rw [hb] at e; cases e
    | true =>
      rw [hb] at e
      cases e
      exact ⟨_, _, h, by simp only [sx_i54, hb, cond_true], hl, hr, H⟩
  · cases e
theorem sy_i55_s : sy_snd S q sy_i55 sx_i55 := by
  intro ρ E en ls st T ls' st' h a hc hE hl hs H e
  unfold sy_i55 at e
  split at e
  · next n dp w sp v r =>
    obtain ⟨vn, r0, rfl, hn, vd, r1, rfl, hd, vw, r2, rfl, hw, vs, r3, rfl, hsp, vv, r4, rfl, hv, hr⟩ := hs
    split at e
    · next k0 n0 f k n1 g hf hg =>
      obtain ⟨rfl, hk0, y0, a1, a2⟩ := sy_arr_ok H hf hv
      obtain ⟨lf, rfl, hf0⟩ := sy_ce_p a2
      obtain ⟨rfl, hk, y, b1, b2⟩ := sy_arr_ok H hg hw
      obtain ⟨lg, rfl, hg0⟩ := sy_ce_p b2
      split at e
      · next s1 d1 m1 es ed em =>
        obtain ⟨x1, rfl, c1⟩ := sy_ix_ok hE es hsp
        obtain ⟨x2, rfl, c2⟩ := sy_ix_ok hE ed hd
        obtain ⟨x3, rfl, c3⟩ := sy_ix_ok hE em hn
        rw [sy_cats_ok hr] at e
        cases hb : (Nat.ble (s1 + m1) n0 && Nat.ble (d1 + m1) n1 && Nat.ble (r4.map fun v => v.category).sum 8) with
        | false => rw [hb] at e; cases e
        | true =>
          rw [hb] at e
          cases e
          exact ⟨_, _, _, by simp only [sx_i55, a1, b1, c1, c2, c3, hb, cond_true], hl, hr, sy_set_h H hk ⟨_, rfl, sy_pc_ok hf0 hg0 _ _ _⟩⟩
      · cases e
    · cases e
  · cases e
theorem sy_no_s : sy_snd S q sy_no sx_no := by
  intro ρ E en ls st T ls' st' h a hc hE hl hs H e
  cases e
/-- the same, the instruction's place and itself left out -/
def sy_sndF (S : List Int32) (q : Nat) (f : sy_I) (g : sx_I) : Prop := ∀ ρ E o a b pc ln ins ls st T ls' st' h r, sy_cx ρ S q → sy_e ρ E → sy_ll ρ ls ls' → sy_ss ρ st st' → sy_h T h → f (o, a, b, 0, 0, .nop) E ls st T = some r → sy_to ρ r (g (o, a, b, pc, ln, ins) ls' st' h)
theorem sy_F_of {f : sy_I} {g : sx_I} (h : sy_snd S q f g) (hl : ∀ o a b pc ln ins, f (o, a, b, 0, 0, .nop) = f (o, a, b, pc, ln, ins)) : sy_sndF S q f g := by
  intro ρ E o a b pc ln ins ls st T ls' st' h9 r h1 h2 h3 h4 h5 e
  rw [hl o a b pc ln ins] at e
  exact h ρ E _ ls st T ls' st' h9 r h1 h2 h3 h4 h5 e
theorem sy_no_F {g : sx_I} : sy_sndF S q sy_no g := by
  intro ρ E o a b pc ln ins ls st T ls' st' h9 r h1 h2 h3 h4 h5 e
  cases e
theorem sy_bif_s (b : Bool) {f f' : sy_I} {g g' : sx_I} (h : sy_sndF S q f g) (h' : sy_sndF S q f' g') : sy_sndF S q (bif b then f else f') (bif b then g else g') := by
  cases b
  · exact h'
  · exact h
theorem sy_g0_s (lim : Nat × Nat) {D : Nat → List Value} {Dn : Nat → Nat × List (List Value)} (hD : sy_Dok D Dn) (cd : List (List sx_N)) (o : Nat) : sy_sndF S q (sy_g0 lim Dn q o) (sx_g0 lim D S cd o) := (sy_bif_s _ (sy_bif_s _ (sy_bif_s _ (sy_F_of sy_i0_s (fun _ _ _ _ _ _ => rfl)) (sy_F_of sy_i1_s (fun _ _ _ _ _ _ => rfl))) (sy_bif_s _ (sy_F_of sy_i2_s (fun _ _ _ _ _ _ => rfl)) (sy_F_of sy_i3_s (fun _ _ _ _ _ _ => rfl)))) (sy_bif_s _ (sy_bif_s _ (sy_F_of sy_i4_s (fun _ _ _ _ _ _ => rfl)) (sy_F_of sy_i5_s (fun _ _ _ _ _ _ => rfl))) (sy_bif_s _ (sy_F_of sy_i6_s (fun _ _ _ _ _ _ => rfl)) (sy_F_of sy_i7_s (fun _ _ _ _ _ _ => rfl)))))
theorem sy_g1_s (lim : Nat × Nat) {D : Nat → List Value} {Dn : Nat → Nat × List (List Value)} (hD : sy_Dok D Dn) (cd : List (List sx_N)) (o : Nat) : sy_sndF S q (sy_g1 lim Dn q o) (sx_g1 lim D S cd o) := (sy_bif_s _ (sy_bif_s _ (sy_bif_s _ (sy_F_of sy_i8_s (fun _ _ _ _ _ _ => rfl)) (sy_F_of (sy_bin_s _) (fun _ _ _ _ _ _ => rfl))) (sy_bif_s _ (sy_F_of (sy_bin_s _) (fun _ _ _ _ _ _ => rfl)) (sy_F_of (sy_bin_s _) (fun _ _ _ _ _ _ => rfl)))) (sy_bif_s _ (sy_bif_s _ (sy_F_of sy_and_s (fun _ _ _ _ _ _ => rfl)) (sy_F_of (sy_bin_s _) (fun _ _ _ _ _ _ => rfl))) (sy_bif_s _ (sy_F_of (sy_bin_s _) (fun _ _ _ _ _ _ => rfl)) (sy_F_of (sy_bin_s _) (fun _ _ _ _ _ _ => rfl)))))
theorem sy_g2_s (lim : Nat × Nat) {D : Nat → List Value} {Dn : Nat → Nat × List (List Value)} (hD : sy_Dok D Dn) (cd : List (List sx_N)) (o : Nat) : sy_sndF S q (sy_g2 lim Dn q o) (sx_g2 lim D S cd o) := (sy_bif_s _ (sy_bif_s _ (sy_bif_s _ (sy_F_of (sy_bin_s _) (fun _ _ _ _ _ _ => rfl)) (sy_F_of (sy_bin_s _) (fun _ _ _ _ _ _ => rfl))) (sy_bif_s _ (sy_F_of (sy_div_s _) (fun _ _ _ _ _ _ => rfl)) (sy_F_of (sy_div_s _) (fun _ _ _ _ _ _ => rfl)))) (sy_bif_s _ (sy_bif_s _ (sy_F_of sy_i20_s (fun _ _ _ _ _ _ => rfl)) (sy_F_of sy_i21_s (fun _ _ _ _ _ _ => rfl))) (sy_bif_s _ (sy_F_of sy_i22_s (fun _ _ _ _ _ _ => rfl)) (sy_F_of (sy_if1_s 0 (by omega) _ (fun _ => rfl)) (fun _ _ _ _ _ _ => rfl)))))
theorem sy_g3_s (lim : Nat × Nat) {D : Nat → List Value} {Dn : Nat → Nat × List (List Value)} (hD : sy_Dok D Dn) (cd : List (List sx_N)) (o : Nat) : sy_sndF S q (sy_g3 lim Dn q o) (sx_g3 lim D S cd o) := (sy_bif_s _ (sy_bif_s _ (sy_bif_s _ (sy_F_of (sy_if1_s 1 (by omega) _ (fun _ => rfl)) (fun _ _ _ _ _ _ => rfl)) (sy_F_of (sy_if1_s 2 (by omega) _ (fun _ => rfl)) (fun _ _ _ _ _ _ => rfl))) (sy_bif_s _ (sy_F_of (sy_if1_s 3 (by omega) _ (fun _ => rfl)) (fun _ _ _ _ _ _ => rfl)) (sy_F_of (sy_if1_s 4 (by omega) _ (fun _ => rfl)) (fun _ _ _ _ _ _ => rfl)))) (sy_bif_s _ (sy_bif_s _ (sy_F_of (sy_if1_s 5 (by omega) _ (fun _ => rfl)) (fun _ _ _ _ _ _ => rfl)) (sy_F_of (sy_if2_s 0 (by omega) _ (fun _ _ => rfl)) (fun _ _ _ _ _ _ => rfl))) (sy_bif_s _ (sy_F_of (sy_if2_s 1 (by omega) _ (fun _ _ => rfl)) (fun _ _ _ _ _ _ => rfl)) (sy_F_of (sy_if2_s 2 (by omega) _ (fun _ _ => rfl)) (fun _ _ _ _ _ _ => rfl)))))
theorem sy_g4_s (lim : Nat × Nat) {D : Nat → List Value} {Dn : Nat → Nat × List (List Value)} (hD : sy_Dok D Dn) (cd : List (List sx_N)) (o : Nat) : sy_sndF S q (sy_g4 lim Dn q o) (sx_g4 lim D S cd o) := (sy_bif_s _ (sy_bif_s _ (sy_bif_s _ (sy_F_of (sy_if2_s 3 (by omega) _ (fun _ _ => rfl)) (fun _ _ _ _ _ _ => rfl)) (sy_F_of (sy_if2_s 4 (by omega) _ (fun _ _ => rfl)) (fun _ _ _ _ _ _ => rfl))) (sy_bif_s _ (sy_F_of (sy_if2_s 5 (by omega) _ (fun _ _ => rfl)) (fun _ _ _ _ _ _ => rfl)) (sy_F_of sy_i35_s (fun _ _ _ _ _ _ => rfl)))) (sy_bif_s _ (sy_bif_s _ sy_no_F (sy_F_of sy_i37_s (fun _ _ _ _ _ _ => rfl))) (sy_bif_s _ (sy_F_of sy_i38_s (fun _ _ _ _ _ _ => rfl)) (sy_F_of sy_i39_s (fun _ _ _ _ _ _ => rfl)))))
theorem sy_g5_s (lim : Nat × Nat) {D : Nat → List Value} {Dn : Nat → Nat × List (List Value)} (hD : sy_Dok D Dn) (cd : List (List sx_N)) (o : Nat) : sy_sndF S q (sy_g5 lim Dn q o) (sx_g5 lim D S cd o) := (sy_bif_s _ (sy_bif_s _ (sy_bif_s _ (sy_F_of sy_i40_s (fun _ _ _ _ _ _ => rfl)) (sy_F_of sy_i41_s (fun _ _ _ _ _ _ => rfl))) (sy_bif_s _ (sy_F_of sy_i42_s (fun _ _ _ _ _ _ => rfl)) (sy_F_of sy_i43_s (fun _ _ _ _ _ _ => rfl)))) (sy_bif_s _ (sy_bif_s _ (sy_F_of sy_i44_s (fun _ _ _ _ _ _ => rfl)) (sy_F_of sy_i45_s (fun _ _ _ _ _ _ => rfl))) (sy_bif_s _ (sy_F_of sy_i46_s (fun _ _ _ _ _ _ => rfl)) (sy_F_of sy_i47_s (fun _ _ _ _ _ _ => rfl)))))
theorem sy_g6_s (lim : Nat × Nat) {D : Nat → List Value} {Dn : Nat → Nat × List (List Value)} (hD : sy_Dok D Dn) (cd : List (List sx_N)) (o : Nat) : sy_sndF S q (sy_g6 lim Dn q o) (sx_g6 lim D S cd o) := (sy_bif_s _ (sy_bif_s _ (sy_bif_s _ (sy_F_of (sy_i48_s lim hD) (fun _ _ _ _ _ _ => rfl)) (sy_F_of (sy_nar_s lim 0) (fun _ _ _ _ _ _ => rfl))) (sy_bif_s _ (sy_F_of (sy_nar_s lim 1) (fun _ _ _ _ _ _ => rfl)) (sy_F_of (sy_nar_s lim 2) (fun _ _ _ _ _ _ => rfl)))) (sy_bif_s _ (sy_bif_s _ (sy_F_of (sy_i52_s lim) (fun _ _ _ _ _ _ => rfl)) (sy_F_of (sy_i53_s lim) (fun _ _ _ _ _ _ => rfl))) (sy_bif_s _ (sy_F_of sy_i54_s (fun _ _ _ _ _ _ => rfl)) (sy_F_of sy_i55_s (fun _ _ _ _ _ _ => rfl)))))
theorem sy_step_s (lim : Nat × Nat) {D : Nat → List Value} {Dn : Nat → Nat × List (List Value)} (hD : sy_Dok D Dn) (cd : List (List sx_N)) (o : Nat) : sy_sndF S q (sy_step lim Dn q o) (sx_step lim D S cd o) := (sy_bif_s _ (sy_bif_s _ (sy_bif_s _ (sy_g0_s lim hD cd o) (sy_g1_s lim hD cd o)) (sy_bif_s _ (sy_g2_s lim hD cd o) (sy_g3_s lim hD cd o))) (sy_bif_s _ (sy_bif_s _ (sy_g4_s lim hD cd o) (sy_g5_s lim hD cd o)) (sy_bif_s _ (sy_g6_s lim hD cd o) sy_no_F)))
