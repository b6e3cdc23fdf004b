/-! ===== a run over few cells, and the same run over more: what it does not have stays as it was ===== -/
def sz_nvs (l : List sy_V) : Prop := ∀ v, v ∈ l → ∃ w, v = .inl w
def sz_nvl (l : sy_L) : Prop := ∀ p, p ∈ l → ∃ w, p.2 = .inl w
def sz_rel (B T T' : sy_H) : Prop := (∀ k c, sy_get T k = some c → sy_get T' k = some c) ∧ (∀ k, sy_get T k = none → sy_get T' k = sy_get B k) ∧ T'.1 = B.1 ∧ T'.2.1 = B.2.1
def sz_fr (B : sy_H) (E' : sy_E) (k k' : sz_Q) : Prop := ∀ ls st T T', sz_nvl ls → sz_nvs st → sz_rel B T T' → k [] ls st T = true → k' E' ls st T' = true
def sz_frr (B : sy_H) (E' : sy_E) (ret ret' : sz_K) : Prop := ∀ r T T', (∀ v, r = .inl (some v) → ∃ w, v = .inl w) → sz_rel B T T' → ret [] r T = true → ret' E' r T' = true
def sz_frx (B : sy_H) (E' : sy_E) (thr thr' : sz_X) : Prop := ∀ ls x T T', sz_nvl ls → sz_rel B T T' → thr [] ls x T = true → thr' E' ls x T' = true
section
variable {B : sy_H} {E' : sy_E}
theorem sz_nvs_cons {w : Value} {l : List sy_V} (h : sz_nvs l) : sz_nvs (.inl w :: l) := by
  intro v hv
  rcases List.mem_cons.mp hv with e | h9
  · exact ⟨w, e⟩
  · exact h v h9
theorem sz_nvs_tl {v : sy_V} {l : List sy_V} (h : sz_nvs (v :: l)) : sz_nvs l := fun x hx => h x (List.mem_cons_of_mem _ hx)
theorem sz_nvs_hd {v : sy_V} {l : List sy_V} (h : sz_nvs (v :: l)) : ∃ w, v = .inl w := h v (List.mem_cons_self ..)
theorem sz_nvl_cons {i : Nat} {w : Value} {l : sy_L} (h : sz_nvl l) : sz_nvl ((i, .inl w) :: l) := by
  intro v hv
  rcases List.mem_cons.mp hv with e | h9
  · exact ⟨w, by rw [e]⟩
  · exact h v h9
theorem sz_nvl_tl {p : Nat × sy_V} {l : sy_L} (h : sz_nvl (p :: l)) : sz_nvl l := fun x hx => h x (List.mem_cons_of_mem _ hx)
theorem sz_nvl_stf (i : Nat) : ∀ {l : sy_L}, sz_nvl l → sz_nvl (sy_stf l i)
  | [], h => h
  | p :: t, h => by
    have e : sy_stf (p :: t) i = bif Nat.beq p.1 i || Nat.beq (sy_cat p.2) 2 then sy_stf t i else p :: sy_stf t i := rfl
    rw [e]
    have ih := sz_nvl_stf i (sz_nvl_tl h)
    cases (Nat.beq p.1 i || Nat.beq (sy_cat p.2) 2) with
    | true => exact ih
    | false =>
      intro x hx
      rcases List.mem_cons.mp hx with e9 | h9
      · rw [e9]; exact h p (List.mem_cons_self ..)
      · exact ih x h9
theorem sz_nvl_st {i : Nat} {w : Value} {l : sy_L} (h : sz_nvl l) : sz_nvl (sy_st l i (.inl w)) := sz_nvl_cons (sz_nvl_stf i h)
theorem sz_lk_fr {a : Nat} {K K' : sy_V → Bool} (h : ∀ w, K (.inl w) = true → K' (.inl w) = true) : ∀ {ls : sy_L}, sz_nvl ls → sz_lk a K ls = true → sz_lk a K' ls = true
  | [], _, e => by cases e
  | p :: t, hl, e => by
    have e : (bif Nat.beq p.1 a then K p.2 else sz_lk a K t) = true := e
    show (bif Nat.beq p.1 a then K' p.2 else sz_lk a K' t) = true
    cases hb : Nat.beq p.1 a with
    | true =>
      rw [hb] at e
      obtain ⟨w, hw⟩ := hl p (List.mem_cons_self ..)
      have e : K p.2 = true := e
      rw [hw] at e
      show K' p.2 = true
      rw [hw]
      exact h w e
    | false =>
      rw [hb] at e
      exact sz_lk_fr h (sz_nvl_tl hl) e
theorem sz_no_fr {k' : sz_Q} : sz_fr B E' sz_no k' := by
  intro ls st T T' _ _ _ e
  cases e
theorem sz_sel_fr {b : Bool} {k1 k2 k1' k2' : sz_Q} (h1 : sz_fr B E' k1 k1') (h2 : sz_fr B E' k2 k2') : sz_fr B E' (bif b then k1 else k2) (bif b then k1' else k2') := by
  cases b
  · exact h2
  · exact h1
theorem sz_loop_fr {F F' : (Nat → sz_Q) → Nat → sz_Q} (hF : ∀ go go', (∀ t, sz_fr B E' (go t) (go' t)) → ∀ t, sz_fr B E' (F go t) (F' go' t)) : ∀ n t, sz_fr B E' (sz_loop F n t) (sz_loop F' n t)
  | 0, _ => sz_no_fr
  | n + 1, t => hF _ _ (sz_loop_fr hF n) t
theorem sz_p0_fr {a b : Nat} {k k' : sz_Q} (h : sz_fr B E' k k') : sz_fr B E' (sz_p0 a b k) (sz_p0 a b k') := fun ls st T T' hl hs hT e => h ls _ T T' hl (sz_nvs_cons hs) hT e
theorem sz_p1_fr {a b : Nat} {k k' : sz_Q} (h : sz_fr B E' k k') : sz_fr B E' (sz_p1 a b k) (sz_p1 a b k') := fun ls st T T' hl hs hT e => sz_lk_fr (fun w e9 => by
  cases w with
  | int x => exact h _ _ _ _ hl (sz_nvs_cons hs) hT e9
  | _ => cases e9) hl e
theorem sz_p2_fr {a b : Nat} {k k' : sz_Q} (h : sz_fr B E' k k') : sz_fr B E' (sz_p2 a b k) (sz_p2 a b k') := fun ls st T T' hl hs hT e => sz_lk_fr (fun w e9 => by
  unfold sz_v2 at e9 ⊢
  split at e9
  · exact h _ _ _ _ hl (sz_nvs_cons hs) hT e9
  · cases e9) hl e
theorem sz_arr_fr {T T' : sy_H} (hT : sz_rel B T T') {v : sy_V} {r : Nat × sy_C} (e : sy_arr T v = some r) : sy_arr T' v = some r := by
  unfold sy_arr at e ⊢
  split at e
  · next k =>
    cases hg : sy_get T k with
    | none => rw [hg] at e; cases e
    | some c => rw [hg] at e; rw [hT.1 k c hg]; exact e
  · cases e
theorem sz_fo_fr {T T' : sy_H} (hT : sz_rel B T T') {c b x : Nat} {w : Value} (e : sz_fo c b T x = some w) : sz_fo c b T' x = some w := by
  unfold sz_fo at e ⊢
  cases ha : sy_arr T (.inl (.ref x)) with
  | none => rw [ha] at e; cases e
  | some r => rw [ha] at e; rw [sz_arr_fr hT ha]; exact e
theorem sz_em_fr {T T' : sy_H} (hT : sz_rel B T T') {t0 t1 c b x n : Nat} {i : Int32} (e : sz_em t0 t1 c b T i x = some n) : sz_em t0 t1 c b T' i x = some n := by
  unfold sz_em at e ⊢
  cases hf : sz_fo c b T x with
  | none => rw [hf] at e; cases e
  | some w =>
    rw [hf] at e
    rw [sz_fo_fr hT hf]
    have e : sz_el t0 t1 T i w = some n := e
    show sz_el t0 t1 T' i w = some n
    unfold sz_el at e ⊢
    cases ha : sy_arr T (.inl w) with
    | none => rw [ha] at e; cases e
    | some r => rw [ha] at e; rw [sz_arr_fr hT ha]; exact e
theorem sz_F1_fr {a c b : Nat} {k k' : sz_Q} (h : sz_fr B E' k k') : sz_fr B E' (sz_F1 a c b k) (sz_F1 a c b k') := fun ls st T T' hl hs hT e => sz_lk_fr (fun w e9 => by
  unfold sz_v2 at e9 ⊢
  split at e9
  · obtain ⟨z, h4, h5⟩ := sz_ov_ok e9
    dsimp only
    rw [sz_fo_fr hT h4]
    exact h _ _ _ _ hl (sz_nvs_cons hs) hT h5
  · cases e9) hl e
theorem sz_F3_fr {t0 t1 a c b x : Nat} {k k' slow : sz_Q} (h : sz_fr B E' k k') : sz_fr B E' (sz_F3 t0 t1 a c b x k sz_no) (sz_F3 t0 t1 a c b x k' slow) := fun ls st T T' hl hs hT e => sz_lk_fr (fun w e9 => sz_lk_fr (fun u e8 => by
  unfold sz_v3 at e8 ⊢
  split at e8
  · dsimp only at e8 ⊢
    unfold sz_on at e8
    split at e8
    · next n hn =>
      rw [sz_em_fr hT hn]
      unfold sz_on
      rw [sy_fn_eq] at e8
      simp only [sy_fn_eq]
      exact h _ _ _ _ hl (sz_nvs_cons hs) hT e8
    · cases e8
  · cases e8) hl e9) hl e
theorem sz_g1_fr {f : Nat → Bool} {kt kf kt' kf' slow : sz_Q} (ht : sz_fr B E' kt kt') (hf : sz_fr B E' kf kf') : sz_fr B E' (sz_g1 f kt kf sz_no) (sz_g1 f kt' kf' slow) := by
  intro ls st T T' hl hs hT e
  unfold sz_g1 at e ⊢
  split at e
  · next x s =>
    cases hb : f (sy_b x) with
    | true => rw [hb] at e; exact ht _ _ _ _ hl (sz_nvs_tl hs) hT e
    | false => rw [hb] at e; exact hf _ _ _ _ hl (sz_nvs_tl hs) hT e
  · cases e
theorem sz_g2_fr {f : Nat → Nat → Bool} {kt kf kt' kf' slow : sz_Q} (ht : sz_fr B E' kt kt') (hf : sz_fr B E' kf kf') : sz_fr B E' (sz_g2 f kt kf sz_no) (sz_g2 f kt' kf' slow) := by
  intro ls st T T' hl hs hT e
  unfold sz_g2 at e ⊢
  split at e
  · next y x s =>
    cases hb : f (sy_b x) (sy_b y) with
    | true => rw [hb] at e; exact ht _ _ _ _ hl (sz_nvs_tl (sz_nvs_tl hs)) hT e
    | false => rw [hb] at e; exact hf _ _ _ _ hl (sz_nvs_tl (sz_nvs_tl hs)) hT e
  · cases e
theorem sz_o3_fr {a b : Nat} {k k' : sz_Q} (h : sz_fr B E' k k') : sz_fr B E' (sz_o3 a b k) (sz_o3 a b k') := by
  intro ls st T T' hl hs hT e
  unfold sz_o3 sz_pl at e ⊢
  rw [sy_j3_eq] at e ⊢
  unfold sy_i3 at e ⊢
  match st, hs, e with
  | .inl (.int x) :: r, hs, e => exact h _ _ _ _ (sz_nvl_st hl) (sz_nvs_tl hs) hT e
  | .inr n :: r, hs, e => obtain ⟨w, hw⟩ := sz_nvs_hd hs; cases hw
theorem sz_c_fr {v : sy_V} {x : Int32} (hv : ∃ w, v = .inl w) (e : sy_c [] v = some x) : v = .inl (.int x) := by
  obtain ⟨w, rfl⟩ := hv
  unfold sy_c at e
  split at e
  · next y e9 => cases e9; cases e; rfl
  · next e9 => cases e9
  · cases e
theorem sz_lk_in {a : Nat} : ∀ {ls : sy_L} {v : sy_V}, sz_nvl ls → sy_lk ls a = some v → ∃ w, v = .inl w
  | [], _, _, e => by cases e
  | p :: t, v, hl, e => by
    have e : (bif Nat.beq p.1 a then some p.2 else sy_lk t a) = some v := e
    cases hb : Nat.beq p.1 a with
    | true => rw [hb] at e; cases e; exact hl p (List.mem_cons_self ..)
    | false => rw [hb] at e; exact sz_lk_in (sz_nvl_tl hl) e
theorem sz_o5_fr {a b : Nat} {k k' : sz_Q} (h : sz_fr B E' k k') : sz_fr B E' (sz_o5 a b k) (sz_o5 a b k') := by
  intro ls st T T' hl hs hT e
  unfold sz_o5 sz_pl at e ⊢
  rw [sy_j5_eq] at e ⊢
  unfold sy_i5 at e ⊢
  dsimp only at e ⊢
  cases hv : sy_lk ls a with
  | none => simp only [hv] at e; cases e
  | some v =>
    simp only [hv] at e ⊢
    cases hc : sy_c [] v with
    | none => simp only [hc] at e; cases e
    | some x =>
      have hv2 := sz_c_fr (sz_lk_in hl hv) hc
      subst hv2
      simp only [hc] at e
      exact h _ _ _ _ (sz_nvl_st hl) hs hT e
/-! a store of a boolean; of a field -/
noncomputable def sz_r43 (k : sz_Q) : sz_Q := fun E ls st T => match st with
  | .inl (.int x) :: .inl (.int i) :: v :: r => (match sy_arr T v with
    | some (kk, .inr (.inl (1, n, A))) => (match sx_ix i n with
      | some j => k E ls r (sy_set T kk (.inr (.inl (1, n, sy_ps A j (vp_nar .boolean x).toBitVec.toNat))))
      | none => false)
    | _ => false)
  | _ => false
theorem sz_rel_set {T T' : sy_H} (hT : sz_rel B T T') {kk : Nat} (hk : kk < 2048) (c : sy_C) : sz_rel B (sy_set T kk c) (sy_set T' kk c) := by
  have g : ∀ (X : sy_H) k, sy_get (sy_set X kk c) k = if k = kk then some c else sy_get X k := by
    intro X k
    by_cases h2 : k < 2048
    · have e := sy_get_put X.2.2 X.1 X.2.1 hk h2 c
      exact e
    · have hb : Nat.ble 2048 k = true := Nat.ble_eq.mpr (by omega)
      have h1 : sy_get (sy_set X kk c) k = none := by unfold sy_get; rw [hb]; rfl
      have h3 : sy_get X k = none := by unfold sy_get; rw [hb]; rfl
      rw [h1, h3, if_neg (by omega)]
  refine ⟨fun k c9 e => ?_, fun k e => ?_, hT.2.2.1, hT.2.2.2⟩
  · rw [g] at e ⊢
    by_cases hkk : k = kk
    · rw [if_pos hkk] at e ⊢; exact e
    · rw [if_neg hkk] at e ⊢; exact hT.1 k c9 e
  · rw [g] at e ⊢
    by_cases hkk : k = kk
    · rw [if_pos hkk] at e; cases e
    · rw [if_neg hkk] at e ⊢; exact hT.2.1 k e
theorem sz_arr_lt {T : sy_H} {v : sy_V} {kk : Nat} {c : sy_C} (e : sy_arr T v = some (kk, c)) : kk < 2048 := by
  unfold sy_arr at e
  split at e
  · next k =>
    cases hg : sy_get T k with
    | none => rw [hg] at e; cases e
    | some c9 => rw [hg] at e; cases e; exact sy_get_lt hg
  · cases e
theorem sz_o43_fr {a b : Nat} {k k' : sz_Q} (h : sz_fr B E' k k') : sz_fr B E' (sz_r43 k) (sz_o43 a b k') := by
  intro ls st T T' hl hs hT e
  unfold sz_r43 at e
  split at e
  · next x i v r =>
    split at e
    · next kk n A ha =>
      split at e
      · next j hj =>
        have ef : sy_j43 (43, a, b, 0, 0, .nop) E' ls (.inl (.int x) :: .inl (.int i) :: v :: r) T' = some (none, ls, r, sy_set T' kk (.inr (.inl (1, n, sy_ps A j (vp_nar .boolean x).toBitVec.toNat)))) := by
          rw [sy_j43_eq]
          unfold sy_i43
          simp only [sz_arr_fr hT ha]
          show (match sx_ix i n with
            | some j => sy_ast ls r T' kk 1 n A j (vp_nar .boolean x)
            | none => none) = _
          rw [hj]
          rfl
        show sz_ps sy_ws sy_j43 (43, a, b, 0, 0, .nop) k' E' ls _ T' = true
        rw [sz_ps_eq _ _ _ _ _ _ _ _ ef]
        exact h _ _ _ _ hl (sz_nvs_tl (sz_nvs_tl (sz_nvs_tl hs))) (sz_rel_set hT (sz_arr_lt ha) _) e
      · cases e
    · cases e
  · cases e
noncomputable def sz_r47 (c b : Nat) (k : sz_Q) : sz_Q := fun E ls st T => match st with
  | .inl w :: v :: r => (match sy_arr T v with
    | some (kk, .inl (ci, fs)) => bif Nat.beq ci c && sx_pv (b / 1000) w then (match sy_fd fs (b % 1000) with
      | some _ => k E ls r (sy_set T kk (.inl (ci, sy_fs fs (b % 1000) w)))
      | none => false) else false
    | _ => false)
  | _ => false
theorem sz_o47_fr {c b : Nat} {k k' : sz_Q} (h : sz_fr B E' k k') : sz_fr B E' (sz_r47 c b k) (sz_o47 c b k') := by
  intro ls st T T' hl hs hT e
  unfold sz_r47 at e
  split at e
  · next w v r =>
    split at e
    · next kk ci fs ha =>
      cases hb : (Nat.beq ci c && sx_pv (b / 1000) w) with
      | false => rw [hb] at e; cases e
      | true =>
        rw [hb] at e
        simp only [cond_true] at e
        split at e
        · next z hz =>
          have ef : sy_j47 (47, c, b, 0, 0, .nop) E' ls (.inl w :: v :: r) T' = some (none, ls, r, sy_set T' kk (.inl (ci, sy_fs fs (b % 1000) w))) := by
            unfold sy_j47
            simp only [sz_arr_fr hT ha]
            show (bif Nat.beq ci c && sx_pv (b / 1000) w then (match sy_fd fs (b % 1000) with
              | some _ => sy_fsk fs (b % 1000) w (fun f' => sy_setk T' kk (.inl (ci, f')) (fun T' => some (none, ls, r, T')))
              | none => none) else none) = _
            rw [hb, hz]
            simp only [cond_true, sy_fsk_eq, sy_setk_eq]
          show sz_ps sy_wt sy_j47 (47, c, b, 0, 0, .nop) k' E' ls _ T' = true
          rw [sz_ps_eq _ _ _ _ _ _ _ _ ef]
          exact h _ _ _ _ hl (sz_nvs_tl (sz_nvs_tl hs)) (sz_rel_set hT (sz_arr_lt ha) _) e
        · cases e
    · cases e
  · cases e
/-! a switch over a known int -/
noncomputable def sz_r36 (cd : List (List sx_N)) (en : sx_N) (jmp : Nat → sz_Q) : sz_Q := fun E ls st T => match st with
  | .inl (.int x) :: r => (match sy_i36 cd en E ls (.inl (.int x) :: r) T with
    | some (some t, _, _, _) => sy_fn t (fun t => jmp t E ls r T)
    | _ => false)
  | _ => false
theorem sz_o36_fr {cd : List (List sx_N)} {en : sx_N} {lo hi : Nat} {jmp jmp' : Nat → sz_Q} (h : ∀ t, sz_fr B E' (jmp t) (jmp' t)) : sz_fr B E' (sz_r36 cd en jmp) (sz_o36 cd en lo hi jmp') := by
  intro ls st T T' hl hs hT e
  unfold sz_r36 at e
  split at e
  · next x r =>
    split at e
    · next t l9 s9 T9 he =>
      rw [sy_fn_eq] at e
      have ef : sy_i36 cd en E' ls (.inl (.int x) :: r) T' = some (some t, ls, r, T') := by
        obtain ⟨o, a, b, pc, ln, ins⟩ := en
        unfold sy_i36 at he ⊢
        cases ins <;> dsimp only at he ⊢ <;> first | (cases he; done) | skip
        all_goals
          rename_i d lo hi offs
          have hcc : ∀ F : sy_E, sy_c F (.inl (.int x)) = some x := fun F => rfl
          simp only [hcc] at he ⊢
          cases hsw : sx_sw cd pc d lo hi offs x with
          | none => simp only [hsw] at he; cases he
          | some t9 =>
            simp only [hsw] at he ⊢
            cases he
            rfl
      show (match sy_i36 cd en E' ls (.inl (.int x) :: r) T' with
        | some (none, _, _, _) => false
        | some (some t, ls1, st1, T1) => sy_fn t (fun t => jmp' t E' ls1 st1 T1)
        | none => _) = true
      rw [ef]
      simp only [sy_fn_eq]
      exact h t _ _ _ _ hl (sz_nvs_tl hs) hT e
    · cases e
  · cases e
/-! answers, calls -/
theorem sz_o59_fr {ret ret' : sz_K} (hr : sz_frr B E' ret ret') : sz_fr B E' (sz_o59 ret) (sz_o59 ret') := by
  intro ls st T T' hl hs hT e
  unfold sz_o59 sz_re at e ⊢
  cases hv : sy_r0 0 st with
  | none => rw [hv] at e; cases e
  | some w =>
    rw [hv] at e
    have hw : w = none := by
      unfold sy_r0 at hv
      split at hv
      · cases hv; rfl
      · cases hv
    subst hw
    exact hr _ _ _ (fun v e9 => by cases e9) hT e
theorem sz_o60_fr {rk : Nat} {ret ret' : sz_K} (hr : sz_frr B E' ret ret') : sz_fr B E' (sz_o60 rk ret) (sz_o60 rk ret') := by
  intro ls st T T' hl hs hT e
  unfold sz_o60 sz_re at e ⊢
  match st, hs, e with
  | [x], hs, e =>
    obtain ⟨w, rfl⟩ := sz_nvs_hd hs
    have hcc : sy_c E' (.inl w) = sy_c [] (.inl w) := by cases w <;> rfl
    have hr1 : sy_r1 E' rk [.inl w] = sy_r1 [] rk [.inl w] := by
      unfold sy_r1
      simp only [hcc]
    rw [hr1]
    cases hv : sy_r1 [] rk [.inl w] with
    | none => rw [hv] at e; cases e
    | some u =>
      rw [hv] at e
      refine hr _ _ _ (fun v e9 => ?_) hT e
      cases e9
      unfold sy_r1 at hv
      cases hb : Nat.beq rk 1 with
      | true =>
        simp only [hb, cond_true] at hv
        cases hi : sy_isI (.inl w) with
        | false => rw [hi] at hv; cases hv
        | true => rw [hi] at hv; cases hv; exact ⟨w, rfl⟩
      | false =>
        simp only [hb, cond_false] at hv
        split at hv
        · next x1 hx1 =>
          cases hd : (Nat.beq rk 2 && (decide (x1 = 0) || decide (x1 = 1))) with
          | false => rw [hd] at hv; cases hv
          | true => rw [hd] at hv; cases hv; exact ⟨_, rfl⟩
        · cases hv
  | [], hs, e => cases e
  | _ :: _ :: _, hs, e => cases e
theorem sz_t0_fr {ret ret' : sz_K} (hr : sz_frr B E' ret ret') : sz_frx B E' (sz_t0 ret) (sz_t0 ret') := fun ls x T T' _ hT e => hr _ _ _ (fun v e9 => by cases e9) hT e
theorem sz_args_nv : ∀ (n : Nat) {st acc as rest : List sy_V}, sz_nvs st → sz_nvs acc → sy_args n st acc = some (as, rest) → sz_nvs as ∧ sz_nvs rest
  | 0, st, acc, as, rest, h1, h2, e => by
    have e : some (acc, st) = some (as, rest) := e
    cases e
    exact ⟨h2, h1⟩
  | n + 1, [], acc, as, rest, h1, h2, e => by cases e
  | n + 1, v :: s, acc, as, rest, h1, h2, e => by
    obtain ⟨w, rfl⟩ := sz_nvs_hd h1
    exact sz_args_nv n (sz_nvs_tl h1) (sz_nvs_cons h2) e
theorem sz_locs_nv : ∀ {as : List sy_V} (i : Nat), sz_nvs as → sz_nvl (sy_locs as i)
  | [], i, h => by intro p hp; cases hp
  | v :: s, i, h => by
    obtain ⟨w, rfl⟩ := sz_nvs_hd h
    exact sz_nvl_cons (sz_locs_nv (i + 1) (sz_nvs_tl h))
theorem sz_recv_fr {T T' : sy_H} (hT : sz_rel B T T') {o c : Nat} {as : List sy_V} (e : sy_recv o c T as = true) : sy_recv o c T' as = true := by
  unfold sy_recv at e ⊢
  cases hb : Nat.beq o 58 with
  | true => rfl
  | false =>
    simp only [hb, cond_false] at e ⊢
    split at e
    · next v r =>
      cases ha : sy_arr T v with
      | none => simp only [ha] at e; cases e
      | some z => simp only [ha] at e; simp only [sz_arr_fr hT ha]; exact e
    · cases e
theorem sz_ca_fr {o n c : Nat} {callee callee' : sz_K → sz_Q} {k k' : sz_Q} {thr thr' : sz_X} (hB : Nat.ble B.1 sxlim.1 = true ∧ Nat.ble B.2.1 sxlim.2 = true) (hcal : ∀ ret ret', sz_frr B E' ret ret' → sz_fr B E' (callee ret) (callee' ret')) (hk : sz_fr B E' k k') (ht : sz_frx B E' thr thr') : sz_fr B E' (sz_ca o n c callee k thr) (sz_ca o n c callee' k' thr') := by
  intro ls st T T' hl hs hT e
  unfold sz_ca at e ⊢
  cases ha : sy_args n st [] with
  | none => simp only [ha] at e; cases e
  | some asr =>
    obtain ⟨as, rest⟩ := asr
    simp only [ha, sz_lck_eq] at e ⊢
    obtain ⟨n1, n2⟩ := sz_args_nv n hs (show sz_nvs [] from fun v hv => by cases hv) ha
    cases hcd : (Nat.ble (rest.map sy_cat).sum 8 && as.all (fun v => Nat.beq (sy_cat v) 1) && sy_recv o c T as && (Nat.ble T.1 sxlim.1 && Nat.ble T.2.1 sxlim.2)) with
    | false => simp only [hcd, cond_false] at e; cases e
    | true =>
      simp only [hcd, cond_true] at e
      have hcd' : (Nat.ble (rest.map sy_cat).sum 8 && as.all (fun v => Nat.beq (sy_cat v) 1) && sy_recv o c T' as && (Nat.ble T'.1 sxlim.1 && Nat.ble T'.2.1 sxlim.2)) = true := by
        simp only [Bool.and_eq_true] at hcd ⊢
        refine ⟨⟨hcd.1.1, sz_recv_fr hT hcd.1.2⟩, ?_⟩
        rw [hT.2.2.1, hT.2.2.2]
        exact hB
      simp only [hcd', cond_true]
      refine hcal _ _ ?_ _ _ _ _ (sz_locs_nv 0 n1) (show sz_nvs [] from fun v hv => by cases hv) hT e
      intro r T1 T1' hr hT1 e1
      rcases r with (_ | v) | x
      · exact hk _ _ _ _ hl n2 hT1 e1
      · obtain ⟨w, rfl⟩ := hr v rfl
        exact hk _ _ _ _ hl (sz_nvs_cons n2) hT1 e1
      · exact ht _ _ _ _ hl hT1 e1
/-! heaps that answer alike are one -/
theorem sy_bg_ext {α : Type} {m : Nat} {g : α → Nat → Option sy_C} (h : ∀ s t : α, (∀ k, k < m → g s k = g t k) → s = t) (s t : α × α) (e : ∀ k, k < 2 * m → sy_bg m g s k = sy_bg m g t k) : s = t := by
  obtain ⟨a, b⟩ := s
  obtain ⟨c, d⟩ := t
  have h1 : a = c := h a c (fun k hk => by
    have e1 := e k (by omega)
    unfold sy_bg at e1
    have hb : Nat.ble m k = false := Bool.eq_false_iff.mpr (fun h9 => by rw [Nat.ble_eq] at h9; omega)
    rw [hb] at e1
    exact e1)
  have h2 : b = d := h b d (fun k hk => by
    have e1 := e (k + m) (by omega)
    unfold sy_bg at e1
    have hb : Nat.ble m (k + m) = true := Nat.ble_eq.mpr (by omega)
    have hs : Nat.sub (k + m) m = k := Nat.add_sub_cancel k m
    rw [hb, hs] at e1
    exact e1)
  rw [h1, h2]
theorem sy_ex_0 (s t : sy_t0) (e : ∀ k, k < 1 → sy_g_0 s k = sy_g_0 t k) : s = t := e 0 (by omega)
theorem sy_ex_1 (s t : sy_t1) (e : ∀ k, k < 2 → sy_g_1 s k = sy_g_1 t k) : s = t := sy_bg_ext sy_ex_0 s t e
theorem sy_ex_2 (s t : sy_t2) (e : ∀ k, k < 4 → sy_g_2 s k = sy_g_2 t k) : s = t := sy_bg_ext sy_ex_1 s t e
theorem sy_ex_3 (s t : sy_t3) (e : ∀ k, k < 8 → sy_g_3 s k = sy_g_3 t k) : s = t := sy_bg_ext sy_ex_2 s t e
theorem sy_ex_4 (s t : sy_t4) (e : ∀ k, k < 16 → sy_g_4 s k = sy_g_4 t k) : s = t := sy_bg_ext sy_ex_3 s t e
theorem sy_ex_5 (s t : sy_t5) (e : ∀ k, k < 32 → sy_g_5 s k = sy_g_5 t k) : s = t := sy_bg_ext sy_ex_4 s t e
theorem sy_ex_6 (s t : sy_t6) (e : ∀ k, k < 64 → sy_g_6 s k = sy_g_6 t k) : s = t := sy_bg_ext sy_ex_5 s t e
theorem sy_ex_7 (s t : sy_t7) (e : ∀ k, k < 128 → sy_g_7 s k = sy_g_7 t k) : s = t := sy_bg_ext sy_ex_6 s t e
theorem sy_ex_8 (s t : sy_t8) (e : ∀ k, k < 256 → sy_g_8 s k = sy_g_8 t k) : s = t := sy_bg_ext sy_ex_7 s t e
theorem sy_ex_9 (s t : sy_t9) (e : ∀ k, k < 512 → sy_g_9 s k = sy_g_9 t k) : s = t := sy_bg_ext sy_ex_8 s t e
theorem sy_ex_10 (s t : sy_t10) (e : ∀ k, k < 1024 → sy_g_10 s k = sy_g_10 t k) : s = t := sy_bg_ext sy_ex_9 s t e
theorem sy_ex_11 (s t : sy_t11) (e : ∀ k, k < 2048 → sy_g_11 s k = sy_g_11 t k) : s = t := sy_bg_ext sy_ex_10 s t e
theorem sy_ext {S T : sy_H} (h1 : S.1 = T.1) (h2 : S.2.1 = T.2.1) (h : ∀ k, k < 2048 → sy_get S k = sy_get T k) : S = T := by
  obtain ⟨a, b, s⟩ := S
  obtain ⟨c, d, t⟩ := T
  have h1 : a = c := h1
  have h2 : b = d := h2
  have h3 : s = t := sy_ex_11 s t (fun k hk => by
    have e := h k hk
    rw [sy_get_eq _ hk, sy_get_eq _ hk] at e
    exact e)
  rw [h1, h2, h3]
end
