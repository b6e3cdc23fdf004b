/-! ===== the class: the table of terms ===== -/
noncomputable section
def c_va (H : sw_H) (n s a b c : Int) : Prop := 0 ≤ s ∧ s ≤ 7 ∧ 0 ≤ a ∧ a ≤ n ∧ 0 ≤ c ∧ c ≤ n ∧ 0 ≤ b ∧ (s = 3 → b ≤ 9) ∧ (s ≠ 3 → b ≤ n) ∧ (s = 0 ∨ s = 1 → a = 0 ∧ b = 0 ∧ c = 0) ∧ (s = 2 ∨ s = 5 ∨ s = 7 → 1 ≤ a ∧ b = 0 ∧ c = 0) ∧ (s = 3 → 1 ≤ a ∧ c = 0) ∧ (s = 4 → 1 ≤ a ∧ 1 ≤ b ∧ c = 0) ∧ (s = 6 → 1 ≤ a ∧ c_d H a.toNat 0 = 5 ∧ 1 ≤ b)
/-- ZERO -/
def w_zero : Wt := w_mk 0 [[], [], []]
/-- how many terms there are -/
def c_n (H : sw_H) : Int := sw_iv H 3 2
def c_rw (H : sw_H) (d : Nat → Wt) (nn : Nat) (t : Nat) : Prop := c_va H (t - 1) (c_d H t 0) (c_d H t 1) (c_d H t 2) (c_d H t 3) ∧ 0 ≤ c_d H t 4 ∧ 0 ≤ c_d H t 5 ∧ c_d H t 4 + c_d H t 5 ≤ sw_iv H 3 4 ∧ (∀ x ∈ c_sn H t, m_vs (t - 1) x) ∧ (c_d H t 0 ≠ 0 → d t = w_tm d (c_d H t 0) (c_d H t 1) (c_d H t 2) (c_d H t 3) (c_sn H t) ∧ c_d H t 6 = c_code (c_d H t 0) (c_d H t 1) (c_d H t 2) (c_d H t 3) (c_sn H t)) ∧ (c_d H t 0 = 0 → ((t = 1 ∧ c_d H t 5 = 0) ∧ d t = w_zero) ∨ ((t ≠ 1 ∧ c_d H t 5 = 0) ∧ ∃ i, i < nn ∧ d t = w_nm i))
/-- a chain of terms, each below the one ahead -/
def c_lk (H : sw_H) : Int → List Nat → Prop
  | x, [] => x = 0
  | x, t :: r => x = t ∧ 1 ≤ t ∧ (∀ u ∈ r, u < t) ∧ c_lk H (c_d H t 7) r
def c_R (H : sw_H) (t : Nat) : Prop := 1 ≤ t ∧ (t : Int) ≤ c_n H
/-- the bucket of a code -/
def c_bk (H : sw_H) (code : Int) : Int := sw_and code (sw_w (sw_ln H (sw_rv H 3 5) - 1))
def c_T (H : sw_H) (d : Nat → Wt) (nn : Nat) : Prop := c_S H ∧ c_D H ∧ 1 ≤ c_n H ∧ 14 * (c_n H + 1) ≤ sw_ln H (sw_rv H 3 1) ∧ 0 ≤ sw_iv H 3 4 ∧ sw_iv H 3 4 ≤ sw_ln H (sw_rv H 3 3) ∧ c_n H ≤ sw_ln H (sw_rv H 3 5) ∧ (∃ p, 1 ≤ p ∧ p ≤ 27 ∧ sw_ln H (sw_rv H 3 5) = 2 ^ p) ∧ sw_ln H (sw_rv H 3 1) = 14 * sw_ln H (sw_rv H 3 8) ∧ (∀ t, c_R H t → c_rw H d nn t) ∧ (∀ t u, c_R H t → c_R H u → d t = d u → t = u) ∧ ∃ ch : Nat → List Nat, (∀ b, b < sw_ln H (sw_rv H 3 5) → c_lk H (sw_iv H (sw_rv H 3 5) b) (ch b)) ∧ (∀ b t, t ∈ ch b → c_R H t) ∧ ∀ t, c_R H t → c_d H t 0 ≠ 0 → t ∈ ch (c_bk H (c_d H t 6)).toNat
theorem c_lk_len {H : sw_H} : ∀ (l : List Nat) (x : Int), c_lk H x l → (l.length : Int) ≤ x
  | [], x, h => by
    have h : x = 0 := h
    simp
    omega
  | [t], x, h => by
    have := h.1
    have := h.2.1
    simp
    omega
  | t :: u :: r, x, h => by
    obtain ⟨h1, h2, h3, h4⟩ := h
    have ih := c_lk_len (u :: r) _ h4
    have e : c_d H t 7 = u := h4.1
    have := h3 u List.mem_cons_self
    rw [List.length_cons]
    omega
theorem c_bk_b {H : sw_H} {p : Nat} (h1 : 1 ≤ p) (h2 : p ≤ 27) (h : sw_ln H (sw_rv H 3 5) = 2 ^ p) (code : Int) : 0 ≤ c_bk H code ∧ c_bk H code < sw_ln H (sw_rv H 3 5) := by
  unfold c_bk
  have hp : 2 ^ p ≤ 2 ^ 27 := Nat.pow_le_pow_right (by decide) h2
  have hp0 : 0 < 2 ^ p := Nat.two_pow_pos p
  rw [sw_w_s (by omega) (by omega), h]
  have hz : (Int32.ofInt (((2 ^ p : Nat) : Int) - 1)).toBitVec.toNat = 2 ^ p - 1 := by
    rw [sw_nat]
    omega
  rw [sw_and_m code (n := p) (by omega) hz]
  generalize hm : ((2 ^ p : Nat) : Int) = m
  have m0 : 0 < m := by omega
  exact ⟨Int.emod_nonneg _ (by omega), Int.emod_lt_of_pos _ m0⟩
section
variable {H : sw_H} {d : Nat → Wt} {nn r ra : Nat} {s a b c : Int} {l : List Int} {P : Int → sw_H → Prop}
def c_ct (H : sw_H) (s a b c : Int) (l : List Int) (t : Nat) : Prop := c_d H t 0 = s ∧ c_d H t 1 = a ∧ c_d H t 2 = b ∧ c_d H t 3 = c ∧ c_sn H t = l
theorem c_find (T : c_T H d nn) (h : c_row H r ra l) {code : Int} : ∀ (L : List Nat) (n : Nat) (x left : Int), L.length < n → (L.length : Int) ≤ left → left ≤ 134217728 → c_lk H x L → (∀ t ∈ L, c_R H t) → (∀ t ∈ L, c_ct H s a b c l t → c_d H t 6 = code → P t H) → ((∀ t ∈ L, ¬ (c_ct H s a b c l t ∧ c_d H t 6 = code)) → wm_251 3 s a b c r code H (fun z4 H1 => sw_c z4 → sw_ext H H1 → P z4 H1)) → wl_145_21 P n 3 s a b c r code x left H
  | _, 0, _, _, hh, _, _, _, _, _, _ => by omega
  | [], n + 1, x, left, _, _, _, hl, _, _, q0 => by
    have hl : x = 0 := hl
    unfold wl_145_21
    refine ⟨fun _ => ?_, fun _ => ⟨fun _ => ?_, fun hx => absurd hl hx⟩⟩
    · unfold wb_145_85; exact q0 (fun t ht => by cases ht)
    · unfold wb_145_85; exact q0 (fun t ht => by cases ht)
  | t :: L, n + 1, x, left, hn, hle, hlm, hl, hR, q1, q0 => by
    obtain ⟨e1, e2, e3, e4⟩ := hl
    have ht := hR t List.mem_cons_self
    have S := T.1
    have t4 := T.2.2.2.1
    have ht2 := ht.2
    have dl := S.2.2.2.2.2.2.1
    have rr := T.2.2.2.2.2.2.2.2.2.1 t ht
    have w1 := rr.2.1
    have w2 := rr.2.2.1
    have w3 := rr.2.2.2.1
    have u6 := T.2.2.2.2.2.1
    clear rr
    simp only [List.length_cons] at hn hle
    unfold wl_145_21
    have e1 := e1.symm
    subst e1
    refine ⟨fun c0 => by omega, fun _ => ⟨fun c0 => by omega, fun _ => ?_⟩⟩
    intro y19 e19
    rw [sw_w_s (by omega) (by omega)] at e19
    subst e19
    have rest : ¬ (c_ct H s a b c l t ∧ c_d H t 6 = code) → wb_145_76 P (wl_145_21 P n) 3 s a b c r code left ((t : Int) * 14) H := by
      intro hno
      unfold wb_145_76
      refine ⟨S.2.1, ?_⟩
      intro q6 e6
      rw [sw_w_s (by omega) (by omega)]
      subst e6
      refine ⟨by omega, by omega, ?_⟩
      intro v9 e9 _ y15 e15
      rw [show ((t : Int) * 14 + 7).toNat = 14 * t + 7 by omega] at e9
      have e9 : v9 = c_d H t 7 := e9
      rw [sw_w_s (by omega) (by omega)] at e15
      subst e9 e15
      refine c_find T h L n _ _ (by omega) (by omega) (by omega) e4 (fun u hu => hR u (List.mem_cons_of_mem _ hu)) (fun u hu => q1 u (List.mem_cons_of_mem _ hu)) (fun hno2 => q0 (fun u hu => ?_))
      rcases List.mem_cons.mp hu with eu | hu
      · rw [eu]; exact hno
      · exact hno2 u hu
    have idx : ∀ k : Nat, k ≤ 13 → sw_w ((t : Int) * 14 + (k : Int)) = (t : Int) * 14 + (k : Int) := fun k hk => sw_w_s (by omega) (by omega)
    have i6 := idx 6 (by decide)
    have i0 := idx 0 (by decide)
    have i1 := idx 1 (by decide)
    have i2 := idx 2 (by decide)
    have i3 := idx 3 (by decide)
    simp only [Int.cast_ofNat_Int] at i6 i0 i1 i2 i3
    refine ⟨S.2.1, ?_⟩
    intro q e
    subst e
    rw [i6]
    refine ⟨by omega, by omega, ?_⟩
    intro v26 e26 _
    rw [show ((t : Int) * 14 + 6).toNat = 14 * t + 6 by omega] at e26
    have e26 : v26 = c_d H t 6 := e26
    refine ⟨fun c0 => rest (fun hh => c0 (e26.trans hh.2)), fun c6 => ⟨S.2.1, ?_⟩⟩
    intro q e
    subst e
    rw [i0]
    refine ⟨by omega, by omega, ?_⟩
    intro v32 e32 _
    rw [show ((t : Int) * 14 + 0).toNat = 14 * t + 0 by omega] at e32
    have e32 : v32 = c_d H t 0 := e32
    refine ⟨fun c0 => rest (fun hh => c0 (e32.trans hh.1.1)), fun c00 => ⟨S.2.1, ?_⟩⟩
    intro q e
    subst e
    rw [i1]
    refine ⟨by omega, by omega, ?_⟩
    intro v38 e38 _
    rw [show ((t : Int) * 14 + 1).toNat = 14 * t + 1 by omega] at e38
    have e38 : v38 = c_d H t 1 := e38
    refine ⟨fun c0 => rest (fun hh => c0 (e38.trans hh.1.2.1)), fun c01 => ⟨S.2.1, ?_⟩⟩
    intro q e
    subst e
    rw [i2]
    refine ⟨by omega, by omega, ?_⟩
    intro v44 e44 _
    rw [show ((t : Int) * 14 + 2).toNat = 14 * t + 2 by omega] at e44
    have e44 : v44 = c_d H t 2 := e44
    refine ⟨fun c0 => rest (fun hh => c0 (e44.trans hh.1.2.2.1)), fun c02 => ⟨S.2.1, ?_⟩⟩
    intro q e
    subst e
    rw [i3]
    refine ⟨by omega, by omega, ?_⟩
    intro v50 e50 _
    rw [show ((t : Int) * 14 + 3).toNat = 14 * t + 3 by omega] at e50
    have e50 : v50 = c_d H t 3 := e50
    refine ⟨fun c0 => rest (fun hh => c0 (e50.trans hh.1.2.2.2.1)), fun c03 => ?_⟩
    refine c_hasSigns S h (by omega) w1 w2 (by omega) (fun hs _ _ => ⟨fun h0 => absurd h0 (by decide), fun _ => ?_⟩) (fun hs _ _ => ⟨fun _ => rest (fun hh => hs hh.1.2.2.2.2), fun h0 => absurd rfl h0⟩)
    exact q1 t List.mem_cons_self ⟨e32.symm.trans c00, e38.symm.trans c01, e44.symm.trans c02, e50.symm.trans c03, hs⟩ (e26.symm.trans c6)
/-- of: the term is there, or is added -/
theorem c_of (T : c_T H d nn) (h : c_row H r ra l) (hs0 : s ≠ 0) (q1 : ∀ t, c_R H t → c_ct H s a b c l t → P t H) (q0 : (∀ t, c_R H t → ¬ c_ct H s a b c l t) → wm_251 3 s a b c r (c_code s a b c l) H (fun z4 H1 => sw_c z4 → sw_ext H H1 → P z4 H1)) : wm_145 3 s a b c r H P := by
  have T' := T
  obtain ⟨S, D, t1, t2, t3, t4, t5, ⟨p, p1, p2, p3⟩, t7, t8, t9, ch, c1, c2, c3⟩ := T'
  unfold wm_145
  refine c_codeOf h (fun _ _ => ⟨S.2.2.2.1, ?_⟩)
  intro q74 e74
  subst e74
  refine ⟨S.2.2.2.1, ?_⟩
  intro q77 e77
  subst e77
  intro v80 e80 _
  subst e80
  have hb := c_bk_b p1 p2 p3 (c_code s a b c l)
  have ht : ∀ t, c_R H t → c_ct H s a b c l t → c_d H t 6 = c_code s a b c l ∧ t ∈ ch (c_bk H (c_code s a b c l)).toNat := by
    intro t hR hc
    obtain ⟨x1, x2, x3, x4, x5⟩ := hc
    have h6 := ((t8 t hR).2.2.2.2.2.1 (by rw [x1]; exact hs0)).2
    rw [x1, x2, x3, x4, x5] at h6
    refine ⟨h6, ?_⟩
    have := c3 t hR (by rw [x1]; exact hs0)
    rw [h6] at this
    exact this
  refine ⟨hb.1, hb.2, ?_⟩
  intro v83 e83 _ v89 e89 _
  have hlk := c1 (c_bk H (c_code s a b c l)).toNat (by omega)
  have e83 : v83 = sw_iv H (sw_rv H 3 5) (c_bk H (c_code s a b c l)).toNat := e83
  rw [← e83] at hlk
  have e89 : v89 = c_n H := e89
  have dl := S.2.2.2.2.2.2.1
  have hlen := c_lk_len _ _ hlk
  have hv : v83 ≤ c_n H := by
    cases hL : ch (c_bk H (c_code s a b c l)).toNat with
    | nil =>
      rw [hL] at hlk
      have hlk : v83 = 0 := hlk
      omega
    | cons t L =>
      rw [hL] at hlk
      have e := hlk.1
      have := (c2 (c_bk H (c_code s a b c l)).toNat t (by rw [hL]; exact List.mem_cons_self)).2
      omega
  refine ⟨_, c_find T h (ch (c_bk H (c_code s a b c l)).toNat) ((ch (c_bk H (c_code s a b c l)).toNat).length + 1) v83 v89 (by omega) (by omega) (by omega) hlk (fun t ht => c2 _ t ht) (fun t ht2 hc _ => q1 t (c2 _ t ht2) hc) (fun hno => q0 (fun t hR hc => ?_))⟩
  obtain ⟨x1, x2⟩ := ht t hR hc
  exact hno t x2 ⟨hc, x1⟩
end
end
