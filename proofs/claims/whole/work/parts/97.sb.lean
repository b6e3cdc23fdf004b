/-! ===== what SF computes, SI computes: instructions ===== -/
theorem sy_u_b (x : Int32) : sy_u (sy_b x) = x := by
  unfold sy_u sy_b
  apply Int32.toBitVec_inj.mp
  apply BitVec.eq_of_toNat_eq
  have h := x.toBitVec.isLt
  rw [Int32.toBitVec_ofNat', BitVec.toNat_ofNat]
  omega
theorem sy_toInt (x : Int32) : x.toInt = (sy_b x : Int) - 2147483648 := by
  have h := x.toBitVec.isLt
  have h1 : x.toInt = x.toBitVec.toInt := rfl
  rw [h1, BitVec.toInt_eq_toNat_cond]
  unfold sy_b
  split <;> omega
theorem sy_b_lt (x y : Int32) : x < y ↔ sy_b x < sy_b y := by
  rw [Int32.lt_iff_toInt_lt, sy_toInt, sy_toInt]
  omega
theorem sy_b_le (x y : Int32) : x ≤ y ↔ sy_b x ≤ sy_b y := by
  rw [Int32.le_iff_toInt_le, sy_toInt, sy_toInt]
  omega
theorem sy_b_eq (x y : Int32) : x = y ↔ sy_b x = sy_b y := ⟨fun h => by rw [h], fun h => by rw [← sy_u_b x, ← sy_u_b y, h]⟩
def sy_v (ρ : Nat → Int32) (a : sy_V) (v : Value) : Prop := match a with
  | .inl w => v = w
  | .inr k => ∃ x, v = .int x ∧ (k < 7 → x = ρ k)
def sy_e (ρ : Nat → Int32) (E : sy_E) : Prop := ∀ k, (sy_of E k).1 ≤ sy_b (ρ k) ∧ sy_b (ρ k) ≤ (sy_of E k).2
def sy_ss (ρ : Nat → Int32) : List sy_V → List Value → Prop
  | [], t => t = []
  | a :: s, t => ∃ v r, t = v :: r ∧ sy_v ρ a v ∧ sy_ss ρ s r
def sy_ll (ρ : Nat → Int32) : sy_L → sx_L → Prop
  | [], t => t = []
  | a :: s, t => ∃ v r, t = (a.1, v) :: r ∧ sy_v ρ a.2 v ∧ sy_ll ρ s r
def sy_ce (c : sy_C) (q : Option sx_C) : Prop := match c with
  | .inl o => ∃ fs, q = some (.inl (o.1, fs)) ∧ ∀ b, sx_lo fs b = sy_fd o.2 b
  | .inr (.inl a) => ∃ l, q = some (.inr (.inl (a.1, a.2.1, l))) ∧ ∀ j, (sx_ag 0 l j).toBitVec.toNat = sy_pg a.2.2 j
  | .inr (.inr (.inl x)) => q = some x
  | .inr (.inr (.inr a)) => ∃ l, q = some (.inr (.inl (a.1, a.2, l)))
def sy_h (T : sy_H) (h : sx_H) : Prop := h.1 = h.2.2.length ∧ T.1 = h.1 ∧ T.2.1 = h.2.1 ∧ ∀ k c, sy_get T k = some c → sy_ce c (sx_get h k)
def sy_cx (ρ : Nat → Int32) (S : List Int32) (q : Nat) : Prop := (Nat.beq q 99 = false → S.length = q ∧ ∀ j, j < q → sx_lg 0 S j = ρ j) ∧ ρ 6 = ρ 0 &&& 31
def sy_to (ρ : Nat → Int32) (a : sy_O) (r : Option sx_O) : Prop := ∃ ls1 st1 h1, r = some (a.1, ls1, st1, h1) ∧ sy_ll ρ a.2.1 ls1 ∧ sy_ss ρ a.2.2.1 st1 ∧ sy_h a.2.2.2 h1
/-- an instruction of SF is right for one of SI -/
def sy_snd (S : List Int32) (q : Nat) (f : sy_I) (g : sx_I) : Prop := ∀ ρ E en ls st T ls' st' h a, sy_cx ρ S q → sy_e ρ E → sy_ll ρ ls ls' → sy_ss ρ st st' → sy_h T h → f en E ls st T = some a → sy_to ρ a (g en ls' st' h)
variable {ρ : Nat → Int32} {E : sy_E} {S : List Int32} {q : Nat}
theorem sy_c_ok (hE : sy_e ρ E) {a : sy_V} {x : Int32} {v : Value} (h : sy_c E a = some x) (hv : sy_v ρ a v) : v = .int x := by
  unfold sy_c at h
  split at h
  · cases h; exact hv
  · next k =>
    cases hb : (Nat.blt k 7 && Nat.beq (sy_of E k).1 (sy_of E k).2) with
    | false => rw [hb] at h; cases h
    | true =>
      rw [hb] at h
      rw [Bool.and_eq_true, Nat.blt_eq] at hb
      have e := Nat.eq_of_beq_eq_true hb.2
      have h1 : sy_u (sy_of E k).1 = x := Option.some.inj h
      obtain ⟨y, rfl, hy⟩ := hv
      have h2 := hE k
      have h3 : sy_b (ρ k) = (sy_of E k).1 := by omega
      rw [hy hb.1, ← h1, ← h3, sy_u_b]
  · cases h
theorem sy_isI_ok {a : sy_V} {v : Value} (h : sy_isI a = true) (hv : sy_v ρ a v) : ∃ x, v = .int x := by
  unfold sy_isI at h
  split at h
  · exact ⟨_, hv⟩
  · obtain ⟨x, hx, -⟩ := hv; exact ⟨x, hx⟩
  · cases h
theorem sy_iv_ok (hE : sy_e ρ E) {a : sy_V} {lo hi : Nat} {v : Value} (h : sy_iv E a = some (lo, hi)) (hv : sy_v ρ a v) : ∃ x, v = .int x ∧ lo ≤ sy_b x ∧ sy_b x ≤ hi := by
  unfold sy_iv at h
  split at h
  · next x =>
    obtain ⟨h1, h2⟩ := Prod.mk.inj (Option.some.inj h)
    exact ⟨x, hv, Nat.le_of_eq h1.symm, Nat.le_of_eq h2⟩
  · next k =>
    cases hb : Nat.blt k 7 with
    | false => rw [hb] at h; cases h
    | true =>
      rw [hb] at h
      have h1 : sy_of E k = (lo, hi) := Option.some.inj h
      obtain ⟨y, rfl, hy⟩ := hv
      have h2 := hE k
      rw [h1] at h2
      rw [Nat.blt_eq] at hb
      rw [hy hb]
      exact ⟨_, rfl, h2⟩
  · cases h
theorem sy_val_ok (hE : sy_e ρ E) {a : sy_V} {w v : Value} (h : sy_val E a = some w) (hv : sy_v ρ a v) : v = w := by
  unfold sy_val at h
  split at h
  · cases h; exact hv
  · next k =>
    split at h
    · next x hx => cases h; exact sy_c_ok hE hx hv
    · cases h
theorem sy_cat_ok {a : sy_V} {v : Value} (hv : sy_v ρ a v) : sy_cat a = v.category := by
  unfold sy_cat
  split
  · next w => rw [show v = w from hv]
  · obtain ⟨x, rfl, -⟩ := hv; rfl
theorem sy_cats_ok : ∀ {s : List sy_V} {t : List Value}, sy_ss ρ s t → (s.map sy_cat).sum = (t.map fun v => v.category).sum
  | [], t, h => by rw [show t = [] from h]; rfl
  | a :: s, t, h => by
    obtain ⟨v, r, rfl, hv, hr⟩ := h
    simp only [List.map_cons, List.sum_cons]
    rw [sy_cats_ok hr, sy_cat_ok hv]
theorem sy_lk_ok : ∀ {ls : sy_L} {ls' : sx_L} {i : Nat} {a : sy_V}, sy_ll ρ ls ls' → sy_lk ls i = some a → ∃ v, sx_lk ls' i = some v ∧ sy_v ρ a v
  | [], _, _, _, _, h => by cases h
  | p :: t, ls', i, a, hl, h => by
    obtain ⟨v, r, rfl, hv, hr⟩ := hl
    have e : sy_lk (p :: t) i = bif Nat.beq p.1 i then some p.2 else sy_lk t i := rfl
    have e1 : sx_lk ((p.1, v) :: r) i = bif Nat.beq p.1 i then some v else sx_lk r i := rfl
    rw [e] at h
    rw [e1]
    cases hb : Nat.beq p.1 i with
    | true => rw [hb] at h; cases h; exact ⟨v, rfl, hv⟩
    | false => rw [hb] at h; exact sy_lk_ok hr h
theorem sy_stf_ok : ∀ {ls : sy_L} {ls' : sx_L} (i : Nat), sy_ll ρ ls ls' → sy_ll ρ (sy_stf ls i) (sx_stf ls' i)
  | [], ls', i, hl => by rw [show ls' = [] from hl]; exact rfl
  | p :: t, ls', i, hl => by
    obtain ⟨v, r, rfl, hv, hr⟩ := hl
    have e : sy_stf (p :: t) i = bif Nat.beq p.1 i || Nat.beq (sy_cat p.2) 2 then sy_stf t i else p :: sy_stf t i := rfl
    have e1 : sx_stf ((p.1, v) :: r) i = bif Nat.beq p.1 i || Nat.beq v.category 2 then sx_stf r i else (p.1, v) :: sx_stf r i := rfl
    rw [e, e1, sy_cat_ok hv]
    cases hb : (Nat.beq p.1 i || Nat.beq v.category 2) with
    | true => exact sy_stf_ok i hr
    | false => exact ⟨v, _, rfl, hv, sy_stf_ok i hr⟩
theorem sy_st_ok {ls : sy_L} {ls' : sx_L} (i : Nat) {a : sy_V} {v : Value} (hl : sy_ll ρ ls ls') (hv : sy_v ρ a v) : sy_ll ρ (sy_st ls i a) (sx_st ls' i v) := ⟨v, _, rfl, hv, sy_stf_ok i hl⟩
theorem sy_bgs {α : Type} {m : Nat} {g : α → Nat → Option sy_C} {s : α → Nat → sy_C → α} (h : ∀ t k j c, k < m → j < m → g (s t k c) j = if j = k then some c else g t j) (t : α × α) (k j : Nat) (c : sy_C) (hk : k < 2 * m) (hj : j < 2 * m) : sy_bg m g (sy_bs m s t k c) j = if j = k then some c else sy_bg m g t j := by
  unfold sy_bg sy_bs
  by_cases h1 : m ≤ k
  · rw [Nat.ble_eq.mpr h1]
    by_cases h2 : m ≤ j
    · rw [Nat.ble_eq.mpr h2]
      show g (s t.2 (k - m) c) (j - m) = if j = k then some c else g t.2 (j - m)
      rw [h _ _ _ _ (by omega) (by omega)]
      by_cases e : j = k
      · rw [if_pos e, if_pos (by omega)]
      · rw [if_neg e, if_neg (by omega)]
    · rw [show Nat.ble m j = false from Bool.eq_false_iff.mpr (fun h => h2 (Nat.ble_eq.mp h)), if_neg (by omega)]
      rfl
  · rw [show Nat.ble m k = false from Bool.eq_false_iff.mpr (fun h => h1 (Nat.ble_eq.mp h))]
    by_cases h2 : m ≤ j
    · rw [Nat.ble_eq.mpr h2, if_neg (by omega)]
      rfl
    · rw [show Nat.ble m j = false from Bool.eq_false_iff.mpr (fun h => h2 (Nat.ble_eq.mp h))]
      show g (s t.1 k c) j = if j = k then some c else g t.1 j
      exact h _ _ _ _ (by omega) (by omega)
theorem sy_gs_0 (t : sy_t0) (k j : Nat) (c : sy_C) (hk : k < 1) (hj : j < 1) : sy_g_0 (sy_s_0 t k c) j = if j = k then some c else sy_g_0 t j := by
  rw [if_pos (by omega)]
  rfl
theorem sy_gs_1 (t : sy_t1) (k j : Nat) (c : sy_C) (hk : k < 2) (hj : j < 2) : sy_g_1 (sy_s_1 t k c) j = if j = k then some c else sy_g_1 t j := sy_bgs sy_gs_0 t k j c hk hj
theorem sy_gs_2 (t : sy_t2) (k j : Nat) (c : sy_C) (hk : k < 4) (hj : j < 4) : sy_g_2 (sy_s_2 t k c) j = if j = k then some c else sy_g_2 t j := sy_bgs sy_gs_1 t k j c hk hj
theorem sy_gs_3 (t : sy_t3) (k j : Nat) (c : sy_C) (hk : k < 8) (hj : j < 8) : sy_g_3 (sy_s_3 t k c) j = if j = k then some c else sy_g_3 t j := sy_bgs sy_gs_2 t k j c hk hj
theorem sy_gs_4 (t : sy_t4) (k j : Nat) (c : sy_C) (hk : k < 16) (hj : j < 16) : sy_g_4 (sy_s_4 t k c) j = if j = k then some c else sy_g_4 t j := sy_bgs sy_gs_3 t k j c hk hj
theorem sy_gs_5 (t : sy_t5) (k j : Nat) (c : sy_C) (hk : k < 32) (hj : j < 32) : sy_g_5 (sy_s_5 t k c) j = if j = k then some c else sy_g_5 t j := sy_bgs sy_gs_4 t k j c hk hj
theorem sy_gs_6 (t : sy_t6) (k j : Nat) (c : sy_C) (hk : k < 64) (hj : j < 64) : sy_g_6 (sy_s_6 t k c) j = if j = k then some c else sy_g_6 t j := sy_bgs sy_gs_5 t k j c hk hj
theorem sy_gs_7 (t : sy_t7) (k j : Nat) (c : sy_C) (hk : k < 128) (hj : j < 128) : sy_g_7 (sy_s_7 t k c) j = if j = k then some c else sy_g_7 t j := sy_bgs sy_gs_6 t k j c hk hj
theorem sy_gs_8 (t : sy_t8) (k j : Nat) (c : sy_C) (hk : k < 256) (hj : j < 256) : sy_g_8 (sy_s_8 t k c) j = if j = k then some c else sy_g_8 t j := sy_bgs sy_gs_7 t k j c hk hj
theorem sy_gs_9 (t : sy_t9) (k j : Nat) (c : sy_C) (hk : k < 512) (hj : j < 512) : sy_g_9 (sy_s_9 t k c) j = if j = k then some c else sy_g_9 t j := sy_bgs sy_gs_8 t k j c hk hj
theorem sy_gs_10 (t : sy_t10) (k j : Nat) (c : sy_C) (hk : k < 1024) (hj : j < 1024) : sy_g_10 (sy_s_10 t k c) j = if j = k then some c else sy_g_10 t j := sy_bgs sy_gs_9 t k j c hk hj
theorem sy_gs_11 (t : sy_t11) (k j : Nat) (c : sy_C) (hk : k < 2048) (hj : j < 2048) : sy_g_11 (sy_s_11 t k c) j = if j = k then some c else sy_g_11 t j := sy_bgs sy_gs_10 t k j c hk hj
theorem sy_get_lt {T : sy_H} {k : Nat} {c : sy_C} (h : sy_get T k = some c) : k < 2048 := by
  unfold sy_get at h
  cases hb : Nat.ble 2048 k with
  | true => rw [hb] at h; cases h
  | false =>
    have hb := Bool.eq_false_iff.mp hb
    rw [ne_eq, Nat.ble_eq] at hb
    omega
theorem sy_get_eq (T : sy_H) {k : Nat} (hk : k < 2048) : sy_get T k = sy_g_11 T.2.2 k := by
  unfold sy_get
  have hb : Nat.ble 2048 k = false := Bool.eq_false_iff.mpr (fun h => by rw [Nat.ble_eq] at h; omega)
  rw [hb]
  rfl
theorem sy_fd_eq (f : List (List Value)) (b : Nat) : sy_fd f b = sx_lo (sx_lg [] f (b / 8)) (b % 8) := rfl
theorem sy_fs_eq (f : List (List Value)) (b : Nat) (w : Value) : sy_fs f b w = sx_lset [] (sx_lset w w (sx_lg [] f (b / 8)) (b % 8)) f (b / 8) := rfl
theorem sy_get_put (l : sy_K) (a b : Nat) {k j : Nat} (hk : k < 2048) (hj : j < 2048) (c : sy_C) : sy_get (a, b, sy_put l k c) j = if j = k then some c else sy_get (a, b, l) j := by
  rw [sy_get_eq _ hj, sy_get_eq _ hj]
  exact sy_gs_11 l k j c hk hj
theorem sy_set_h {T : sy_H} {h : sx_H} (H : sy_h T h) {k : Nat} (hk : k < h.1 ∧ k < 2048) {c : sy_C} {x : sx_C} (hc : sy_ce c (some x)) : sy_h (sy_set T k c) (sx_set h k x) := by
  obtain ⟨h1, h2, h3, h4⟩ := H
  refine ⟨sx_set_len h1 hk.1 x, h2, h3, fun j d hd => ?_⟩
  have hd : sy_get (T.1, T.2.1, sy_put T.2.2 k c) j = some d := hd
  rw [sy_get_put _ _ _ hk.2 (sy_get_lt hd)] at hd
  rw [sx_get_set h1 hk.1]
  by_cases e : j = k
  · rw [if_pos e] at hd ⊢; cases hd; exact hc
  · rw [if_neg e] at hd ⊢; exact h4 j d hd
theorem sy_push_h {T : sy_H} {h : sx_H} (H : sy_h T h) (hT : T.1 < 2048) (n : Nat) {c : sy_C} {x : sx_C} (hc : sy_ce c (some x)) : sy_h (sy_push T n c) (sx_push h n x) := by
  obtain ⟨h1, h2, h3, h4⟩ := H
  refine ⟨?_, ?_, ?_, fun j d hd => ?_⟩
  · show h.1 + 1 = (x :: h.2.2).length
    rw [List.length_cons, h1]
  · show T.1 + 1 = h.1 + 1
    rw [h2]
  · show T.2.1 + n = h.2.1 + n
    rw [h3]
  · have hd : sy_get (T.1 + 1, T.2.1 + n, sy_put T.2.2 T.1 c) j = some d := hd
    rw [sy_get_put _ _ _ hT (sy_get_lt hd)] at hd
    rw [sx_get_push h1]
    rw [h2] at hd
    by_cases e : j = h.1
    · rw [if_pos e] at hd ⊢; cases hd; exact hc
    · rw [if_neg e] at hd ⊢; exact h4 j d hd
theorem sy_arr_ok {T : sy_H} {h : sx_H} (H : sy_h T h) {a : sy_V} {v : Value} {k : Nat} {c : sy_C} (ha : sy_arr T a = some (k, c)) (hv : sy_v ρ a v) : v = .ref (k + 1) ∧ (k < h.1 ∧ k < 2048) ∧ ∃ x, sx_arr h v = some (k, x) ∧ sy_ce c (some x) := by
  unfold sy_arr at ha
  split at ha
  · next k1 =>
    have hv : v = .ref (k1 + 1) := hv
    subst hv
    split at ha
    · next c1 hc1 =>
      cases ha
      have h4 := H.2.2.2 k c hc1
      have hx : ∃ x, sx_get h k = some x ∧ sy_ce c (some x) := by
        rcases c with y | y | y | y
        · obtain ⟨fs, hl, hf⟩ := h4; exact ⟨_, hl, fs, rfl, hf⟩
        · obtain ⟨l, hl, hf⟩ := h4; exact ⟨_, hl, l, rfl, hf⟩
        · exact ⟨y, h4, rfl⟩
        · obtain ⟨l, hl⟩ := h4; exact ⟨_, hl, l, rfl⟩
      obtain ⟨x, hx, hc⟩ := hx
      refine ⟨rfl, ⟨sx_get_lt hx, sy_get_lt hc1⟩, x, ?_, hc⟩
      show (match sx_get h k with | some c => some (k, c) | none => none) = _
      rw [hx]
    · cases ha
  · cases ha
/-- a store into an array of contents unknown -/
theorem sy_keep {T : sy_H} {h : sx_H} (H : sy_h T h) {a : sy_V} {k t n : Nat} {l : List (List Int32)} (ha : sy_arr T a = some (k, .inr (.inr (.inr (t, n))))) (hk : k < h.1 ∧ k < 2048) : sy_h T (sx_set h k (.inr (.inl (t, n, l)))) := by
  unfold sy_arr at ha
  split at ha
  · next k1 =>
    split at ha
    · next c1 hc1 =>
      cases ha
      obtain ⟨h1, h2, h3, h4⟩ := H
      refine ⟨sx_set_len h1 hk.1 _, h2, h3, fun j d hd => ?_⟩
      rw [sx_get_set h1 hk.1]
      by_cases e : j = k
      · rw [if_pos e]
        rw [e, hc1] at hd
        cases hd
        exact ⟨l, rfl⟩
      · rw [if_neg e]; exact h4 j d hd
    · cases ha
  · cases ha
theorem sy_new_ok {lim : Nat × Nat} {ls : sy_L} {ls' : sx_L} {st : List sy_V} {st' : List Value} {T : sy_H} {h : sx_H} {n : Nat} {c : sy_C} {x : sx_C} {a : sy_O} (hl : sy_ll ρ ls ls') (hs : sy_ss ρ st st') (H : sy_h T h) (hc : sy_ce c (some x)) (e : sy_new lim ls st T n c = some a) : sy_to ρ a (sx_new lim ls' st' h n x) := by
  unfold sy_new at e
  unfold sx_new
  rw [H.2.1, H.2.2.1] at e
  cases hb : (Nat.blt h.1 lim.1 && Nat.ble (h.2.1 + n) lim.2) with
  | false => rw [hb] at e; cases e
  | true =>
    rw [hb] at e
    cases hb2 : Nat.ble (h.1 + 1) 2048 with
    | false => rw [hb2] at e; cases e
    | true =>
      rw [hb2] at e
      cases e
      rw [Nat.ble_eq] at hb2
      exact ⟨_, _, _, rfl, hl, ⟨_, _, rfl, rfl, hs⟩, sy_push_h H (by rw [H.2.1]; omega) n hc⟩
theorem sy_pg_eq (A j : Nat) : sy_pg A j = A / 18446744073709551616 / 2 ^ (32 * j) % 4294967296 := by
  show ((A >>> 64) >>> (32 * j)) % 4294967296 = _
  rw [Nat.shiftRight_eq_div_pow, Nat.shiftRight_eq_div_pow]
theorem sy_ps_eq (A j x : Nat) : sy_ps A j x / 18446744073709551616 = A / 18446744073709551616 + x * 2 ^ (32 * j) - sy_pg A j * 2 ^ (32 * j) := by
  show ((A >>> 64 + x <<< (32 * j) - sy_pg A j <<< (32 * j)) <<< 64 + (A % 18446744073709551615 + 1)) / 18446744073709551616 = _
  rw [Nat.shiftLeft_eq, Nat.shiftLeft_eq, Nat.shiftLeft_eq, Nat.shiftRight_eq_div_pow, show (2 : Nat) ^ 64 = 18446744073709551616 from rfl]
  generalize A / 18446744073709551616 + x * 2 ^ (32 * j) - sy_pg A j * 2 ^ (32 * j) = Z
  have hm : A % 18446744073709551615 < 18446744073709551615 := Nat.mod_lt _ (by omega)
  omega
/-- A number in three pieces -/
theorem sy_ps_pieces (A P x : Nat) (hP : 0 < P) : A + x * P - A / P % 4294967296 * P = (A / P / 4294967296 * 4294967296 + x) * P + A % P := by
  have h1 := Nat.div_add_mod A P
  have h2 := Nat.div_add_mod (A / P) 4294967296
  generalize A / P = B at *
  generalize A % P = r at *
  generalize B / 4294967296 = H at *
  generalize B % 4294967296 = o at *
  subst h2
  subst h1
  have e1 : P * (4294967296 * H + o) = 4294967296 * H * P + o * P := by rw [Nat.mul_comm, Nat.add_mul]
  have e2 : (H * 4294967296 + x) * P = 4294967296 * H * P + x * P := by rw [Nat.add_mul, Nat.mul_comm H]
  rw [e1, e2]
  omega
theorem sy_pg_ps {A x : Nat} (j i : Nat) (hx : x < 4294967296) : sy_pg (sy_ps A j x) i = if i = j then x else sy_pg A i := by
  rw [sy_pg_eq, sy_ps_eq, sy_pg_eq A j, sy_pg_eq A i]
  generalize A / 18446744073709551616 = A
  rw [sy_ps_pieces _ _ _ (Nat.two_pow_pos _)]
  have hr : A % 2 ^ (32 * j) < 2 ^ (32 * j) := Nat.mod_lt _ (Nat.two_pow_pos _)
  have hA := Nat.div_add_mod A (2 ^ (32 * j))
  rcases Nat.lt_trichotomy i j with h | h | h
  · rw [if_neg (by omega)]
    have e : 2 ^ (32 * j) = 2 ^ (32 * i) * (4294967296 * 2 ^ (32 * (j - i - 1))) := by
      rw [show (4294967296 : Nat) = 2 ^ 32 from rfl, ← Nat.pow_add, ← Nat.pow_add]
      congr 1
      omega
    generalize A % 2 ^ (32 * j) = r at *
    have key : ∀ B, (B * 2 ^ (32 * j) + r) / 2 ^ (32 * i) % 4294967296 = r / 2 ^ (32 * i) % 4294967296 := by
      intro B
      rw [e, show B * (2 ^ (32 * i) * (4294967296 * 2 ^ (32 * (j - i - 1)))) + r = r + 2 ^ (32 * i) * (B * (4294967296 * 2 ^ (32 * (j - i - 1)))) by rw [Nat.add_comm, Nat.mul_left_comm], Nat.add_mul_div_left _ _ (Nat.two_pow_pos _), show B * (4294967296 * 2 ^ (32 * (j - i - 1))) = 4294967296 * (B * 2 ^ (32 * (j - i - 1))) by rw [Nat.mul_left_comm], Nat.add_mul_mod_self_left]
    rw [key, ← hA, Nat.mul_comm (2 ^ (32 * j)), key]
  · subst h
    rw [if_pos rfl, Nat.add_comm, Nat.add_mul_div_right _ _ (Nat.two_pow_pos _), Nat.div_eq_of_lt hr, Nat.zero_add, Nat.add_comm, Nat.add_mul_mod_self_right, Nat.mod_eq_of_lt hx]
  · rw [if_neg (by omega)]
    have e : 2 ^ (32 * i) = 2 ^ (32 * j) * (4294967296 * 2 ^ (32 * (i - j - 1))) := by
      rw [show (4294967296 : Nat) = 2 ^ 32 from rfl, ← Nat.pow_add, ← Nat.pow_add]
      congr 1
      omega
    have key : ∀ y r, y < 4294967296 → r < 2 ^ (32 * j) → ((A / 2 ^ (32 * j) / 4294967296 * 4294967296 + y) * 2 ^ (32 * j) + r) / 2 ^ (32 * i) = A / 2 ^ (32 * j) / 4294967296 / 2 ^ (32 * (i - j - 1)) := by
      intro y r hy hr
      rw [e, ← Nat.div_div_eq_div_mul, Nat.add_comm, Nat.add_mul_div_right _ _ (Nat.two_pow_pos _), Nat.div_eq_of_lt hr, Nat.zero_add, ← Nat.div_div_eq_div_mul, Nat.add_comm, Nat.add_mul_div_right _ _ (by omega), Nat.div_eq_of_lt hy, Nat.zero_add]
    rw [key x _ hx hr]
    have hA2 : A = (A / 2 ^ (32 * j) / 4294967296 * 4294967296 + A / 2 ^ (32 * j) % 4294967296) * 2 ^ (32 * j) + A % 2 ^ (32 * j) := by
      have h2 := Nat.div_add_mod (A / 2 ^ (32 * j)) 4294967296
      rw [Nat.mul_comm] at h2
      rw [h2, Nat.mul_comm]
      exact hA.symm
    have k2 := key (A / 2 ^ (32 * j) % 4294967296) (A % 2 ^ (32 * j)) (Nat.mod_lt _ (by omega)) hr
    rw [← hA2] at k2
    rw [k2]
theorem sy_pg_zero (j : Nat) : sy_pg 0 j = 0 := by
  rw [sy_pg_eq, Nat.zero_div]
/-- relations of two ints -/
def sy_rel (r : Nat) (x y : Int32) : Bool := match r with
  | 0 => decide (x = y)
  | 1 => decide (¬ x = y)
  | 2 => decide (x < y)
  | 3 => decide (y ≤ x)
  | 4 => decide (y < x)
  | _ => decide (x ≤ y)
theorem sy_dec_ok {r a b c d : Nat} (hr : r < 6) {z : Bool} (h : sy_dec r a b c d = some z) {x y : Int32} (h1 : a ≤ sy_b x) (h2 : sy_b x ≤ b) (h3 : c ≤ sy_b y) (h4 : sy_b y ≤ d) : sy_rel r x y = z := by
  unfold sy_dec at h
  have hcases : r = 0 ∨ r = 1 ∨ r = 2 ∨ r = 3 ∨ r = 4 ∨ r = 5 := by omega
  have key : ∀ {p q : Bool} {s t u : Option Bool}, (bif p then s else bif q then t else u) = some z → (p = true ∧ s = some z) ∨ (q = true ∧ t = some z) ∨ (u = some z) := by
    intro p q s t u h
    cases p <;> cases q <;> simp at h <;> simp [h]
  rcases hcases with rfl | rfl | rfl | rfl | rfl | rfl
  · have h : (bif Nat.blt b c || Nat.blt d a then some false else bif Nat.beq a b && Nat.beq c d && Nat.beq a c then some true else none) = some z := h
    rcases key h with ⟨p, s⟩ | ⟨p, s⟩ | s
    · simp only [Bool.or_eq_true, Bool.and_eq_true, Nat.blt_eq, Nat.ble_eq, Nat.beq_eq] at p
      cases s
      show decide (x = y) = false
      rw [decide_eq_false_iff_not, sy_b_eq]; omega
    · simp only [Bool.or_eq_true, Bool.and_eq_true, Nat.blt_eq, Nat.ble_eq, Nat.beq_eq] at p
      cases s
      show decide (x = y) = true
      rw [decide_eq_true_eq, sy_b_eq]; omega
    · cases s
  · have h : (bif Nat.blt b c || Nat.blt d a then some true else bif Nat.beq a b && Nat.beq c d && Nat.beq a c then some false else none) = some z := h
    rcases key h with ⟨p, s⟩ | ⟨p, s⟩ | s
    · simp only [Bool.or_eq_true, Bool.and_eq_true, Nat.blt_eq, Nat.ble_eq, Nat.beq_eq] at p
      cases s
      show decide (¬ x = y) = true
      rw [decide_eq_true_eq, sy_b_eq]; omega
    · simp only [Bool.or_eq_true, Bool.and_eq_true, Nat.blt_eq, Nat.ble_eq, Nat.beq_eq] at p
      cases s
      show decide (¬ x = y) = false
      rw [decide_eq_false_iff_not, sy_b_eq]; omega
    · cases s
  · have h : (bif Nat.blt b c then some true else bif Nat.ble d a then some false else none) = some z := h
    rcases key h with ⟨p, s⟩ | ⟨p, s⟩ | s
    · simp only [Bool.or_eq_true, Bool.and_eq_true, Nat.blt_eq, Nat.ble_eq, Nat.beq_eq] at p
      cases s
      show decide (x < y) = true
      rw [decide_eq_true_eq, sy_b_lt]; omega
    · simp only [Bool.or_eq_true, Bool.and_eq_true, Nat.blt_eq, Nat.ble_eq, Nat.beq_eq] at p
      cases s
      show decide (x < y) = false
      rw [decide_eq_false_iff_not, sy_b_lt]; omega
    · cases s
  · have h : (bif Nat.blt b c then some false else bif Nat.ble d a then some true else none) = some z := h
    rcases key h with ⟨p, s⟩ | ⟨p, s⟩ | s
    · simp only [Bool.or_eq_true, Bool.and_eq_true, Nat.blt_eq, Nat.ble_eq, Nat.beq_eq] at p
      cases s
      show decide (y ≤ x) = false
      rw [decide_eq_false_iff_not, sy_b_le]; omega
    · simp only [Bool.or_eq_true, Bool.and_eq_true, Nat.blt_eq, Nat.ble_eq, Nat.beq_eq] at p
      cases s
      show decide (y ≤ x) = true
      rw [decide_eq_true_eq, sy_b_le]; omega
    · cases s
  · have h : (bif Nat.blt d a then some true else bif Nat.ble b c then some false else none) = some z := h
    rcases key h with ⟨p, s⟩ | ⟨p, s⟩ | s
    · simp only [Bool.or_eq_true, Bool.and_eq_true, Nat.blt_eq, Nat.ble_eq, Nat.beq_eq] at p
      cases s
      show decide (y < x) = true
      rw [decide_eq_true_eq, sy_b_lt]; omega
    · simp only [Bool.or_eq_true, Bool.and_eq_true, Nat.blt_eq, Nat.ble_eq, Nat.beq_eq] at p
      cases s
      show decide (y < x) = false
      rw [decide_eq_false_iff_not, sy_b_lt]; omega
    · cases s
  · have h : (bif Nat.blt d a then some false else bif Nat.ble b c then some true else none) = some z := h
    rcases key h with ⟨p, s⟩ | ⟨p, s⟩ | s
    · simp only [Bool.or_eq_true, Bool.and_eq_true, Nat.blt_eq, Nat.ble_eq, Nat.beq_eq] at p
      cases s
      show decide (x ≤ y) = false
      rw [decide_eq_false_iff_not, sy_b_le]; omega
    · simp only [Bool.or_eq_true, Bool.and_eq_true, Nat.blt_eq, Nat.ble_eq, Nat.beq_eq] at p
      cases s
      show decide (x ≤ y) = true
      rw [decide_eq_true_eq, sy_b_le]; omega
    · cases s
