/-! ===== the class: the table of terms, read ===== -/
noncomputable section
/-- field k of the row of term t -/
def c_d (H : sw_H) (t k : Nat) : Int := sw_iv H (sw_rv H 3 1) (14 * t + k)
/-- the signs of term t -/
def c_sn (H : sw_H) (t : Nat) : List Int := m_sl (sw_iv H (sw_rv H 3 3)) (c_d H t 4).toNat (c_d H t 5).toNat
/-- the shape: Terms at 3, its arrays: data 1, signs 3, buckets 5, byNumber 6, waiting 8 -/
def c_S (H : sw_H) : Prop := sw_ty H 3 = 96 ∧ sw_ty H (sw_rv H 3 1) = 1 ∧ sw_ty H (sw_rv H 3 3) = 1 ∧ sw_ty H (sw_rv H 3 5) = 1 ∧ sw_ty H (sw_rv H 3 6) = 1 ∧ sw_ty H (sw_rv H 3 8) = 1 ∧ sw_ln H (sw_rv H 3 1) ≤ 134217728 ∧ sw_ln H (sw_rv H 3 3) ≤ 134217728 ∧ sw_ln H (sw_rv H 3 5) ≤ 134217728 ∧ sw_ln H (sw_rv H 3 6) ≤ 134217728 ∧ sw_ln H (sw_rv H 3 8) ≤ 134217728 ∧ c_row H 4 5 [] ∧ sw_rv H 3 0 = 4
/-- the arrays are five -/
def c_D (H : sw_H) : Prop := sw_rv H 3 1 ≠ sw_rv H 3 3 ∧ sw_rv H 3 1 ≠ sw_rv H 3 5 ∧ sw_rv H 3 1 ≠ sw_rv H 3 6 ∧ sw_rv H 3 1 ≠ sw_rv H 3 8 ∧ sw_rv H 3 3 ≠ sw_rv H 3 5 ∧ sw_rv H 3 3 ≠ sw_rv H 3 6 ∧ sw_rv H 3 3 ≠ sw_rv H 3 8 ∧ sw_rv H 3 5 ≠ sw_rv H 3 6 ∧ sw_rv H 3 5 ≠ sw_rv H 3 8 ∧ sw_rv H 3 6 ≠ sw_rv H 3 8
def c_cf (l : List Int) (h : Int) : Int := l.foldl (fun h x => sw_w (sw_w (h * 31) + x)) h
def c_c2 (h : Int) : Int := sw_xor (sw_w (h * (-1640531535))) (sw_ush (sw_w (h * (-1640531535))) 15)
def c_code (s a b c : Int) (l : List Int) : Int := c_c2 (c_cf l (sw_w (sw_w (sw_w (sw_w (sw_w (sw_w (s * 31) + a) * 31) + b) * 31) + c)))
section
variable {H G : sw_H} {r a b : Nat} {l : List Int} {x : Int} {Q : sw_H → Prop} {P : Int → sw_H → Prop}
theorem c_drop (h : c_row H r a l) (h0 : 0 ≤ x) (hx : x < l.length) : l.drop x.toNat = sw_iv H a x.toNat :: l.drop (x + 1).toNat := by
  have hl : x.toNat < l.length := by omega
  rw [List.drop_eq_getElem_cons hl, show (x + 1).toNat = x.toNat + 1 by omega]
  congr 1
  have := c_row_at h hl
  rw [List.getElem?_eq_getElem hl] at this
  exact Option.some.inj this
theorem c_code_l (h : c_row H r a l) (q : ∀ z, z = c_c2 (c_cf (l.drop 0) x) → True) : ∀ (n : Nat) {h0 k : Int}, 0 ≤ k → k ≤ l.length → (l.length - k).toNat < n → P (c_c2 (c_cf (l.drop k.toNat) h0)) H → wl_254_16 P n r h0 k H
  | 0, _, _, _, _, hh, _ => by omega
  | n + 1, h0, k, hk, hk1, hn, p => by
    have h' := h
    obtain ⟨h1, h2, h3, h4, h5, h6, h7⟩ := h'
    have h' := h
    unfold wl_254_16
    intro v1 e1 _
    rw [h4] at e1
    subst e1
    refine ⟨fun c => ?_, fun c => ⟨by rw [h2]; exact h3, ?_⟩⟩
    · intro y e
      subst e
      rw [show l.drop k.toNat = [] from List.drop_eq_nil_of_le (by omega)] at p
      exact p
    · intro q8 e8
      rw [h2] at e8
      have e8 := e8.symm
      subst e8
      refine ⟨hk, by omega, ?_⟩
      intro v11 e11 _ y14 e14 y18 e18
      rw [sw_w_s (by omega) (by omega)] at e18
      subst e11 e14 e18
      refine c_code_l h' q n (by omega) (by omega) (by omega) ?_
      rw [c_drop h' hk c] at p
      exact p
theorem c_codeOf {s f g t : Int} (h : c_row H r a l) (p : P (c_code s f g t l) H) : wm_254 s f g t r H P := by
  unfold wm_254
  intro y e
  subst e
  exact ⟨_, c_code_l (x := 0) h (fun _ _ => trivial) (l.length + 1) (k := 0) (by omega) (by omega) (by omega) (by unfold c_code at p; simpa using p)⟩
theorem c_hasSigns_l (S : c_S H) (h : c_row H r a l) {st : Int} (s0 : 0 ≤ st) (s1 : st + l.length ≤ sw_ln H (sw_rv H 3 3)) : ∀ (n : Nat) {k : Int}, 0 ≤ k → k ≤ l.length → (l.length - k).toNat < n → (m_sl (sw_iv H (sw_rv H 3 3)) (st.toNat + k.toNat) (l.length - k.toNat) = l.drop k.toNat → P 1 H) → (m_sl (sw_iv H (sw_rv H 3 3)) (st.toNat + k.toNat) (l.length - k.toNat) ≠ l.drop k.toNat → P 0 H) → wl_255_24 P n 3 r st k H
  | 0, _, _, _, hh, _, _ => by omega
  | n + 1, k, hk, hk1, hn, q1, q0 => by
    have h' := h
    obtain ⟨h1, h2, h3, h4, h5, h6, h7⟩ := h'
    have h' := h
    have sl := S.2.2.2.2.2.2.2.1
    unfold wl_255_24
    intro v1 e1 _
    rw [h4] at e1
    subst e1
    refine ⟨fun c => q1 ?_, fun c => ⟨S.2.2.1, ?_⟩⟩
    · rw [show l.drop k.toNat = [] from List.drop_eq_nil_of_le (by omega), show l.length - k.toNat = 0 by omega]
      rfl
    · intro q4 e4
      rw [sw_w_s (by omega) (by omega)]
      rw [← e4] at s1 sl
      refine ⟨by omega, by omega, ?_⟩
      intro v7 e7 _
      refine ⟨by rw [h2]; exact h3, ?_⟩
      intro q10 e10
      rw [h2] at e10
      have e10 := e10.symm
      subst e10
      refine ⟨hk, by omega, ?_⟩
      intro v13 e13 _
      have hd := c_drop h' hk c
      have hs : m_sl (sw_iv H (sw_rv H 3 3)) (st.toNat + k.toNat) (l.length - k.toNat) = sw_iv H (sw_rv H 3 3) (st.toNat + k.toNat) :: m_sl (sw_iv H (sw_rv H 3 3)) (st.toNat + (k + 1).toNat) (l.length - (k + 1).toNat) := by
        rw [show l.length - k.toNat = (l.length - (k + 1).toNat) + 1 by omega, m_sl_succ, show st.toNat + k.toNat + 1 = st.toNat + (k + 1).toNat by omega]
      rw [hd, hs] at q1 q0
      rw [e4, show (st + k).toNat = st.toNat + k.toNat by omega] at e7
      rw [e4] at s1
      refine ⟨fun e => ?_, fun e => q0 (fun w => e ?_)⟩
      · intro y16 e16
        rw [sw_w_s (by omega) (by omega)] at e16
        subst e16
        refine c_hasSigns_l S h' s0 s1 n (by omega) (by omega) (by omega) (fun z => q1 ?_) (fun z => q0 (fun w => z (List.cons.inj w).2))
        rw [z, ← e7, ← e13, e]
      · rw [e7, e13]
        exact (List.cons.inj w).1
theorem c_hasSigns {t : Nat} (S : c_S H) (h : c_row H r a l) (ht : 14 * t + 14 ≤ sw_ln H (sw_rv H 3 1)) (s0 : 0 ≤ c_d H t 4) (l0 : 0 ≤ c_d H t 5) (s1 : c_d H t 4 + c_d H t 5 ≤ sw_ln H (sw_rv H 3 3)) (q1 : c_sn H t = l → P 1 H) (q0 : c_sn H t ≠ l → P 0 H) : wm_255 3 t r H P := by
  have dl := S.2.2.2.2.2.2.1
  have h4 := h.2.2.2.1
  unfold wm_255
  intro y e
  rw [sw_w_s (by omega) (by omega)] at e
  subst e
  refine ⟨S.2.1, ?_⟩
  intro q26 e26
  rw [sw_w_s (by omega) (by omega)]
  subst e26
  refine ⟨by omega, by omega, ?_⟩
  intro v29 e29 _ v32 e32 _
  rw [show ((t : Int) * 14 + 5).toNat = 14 * t + 5 by omega] at e29
  have e29 : v29 = c_d H t 5 := e29
  rw [h4] at e32
  refine ⟨fun c => ⟨S.2.1, ?_⟩, fun c => q0 (fun w => c ?_)⟩
  · intro q35 e35
    rw [sw_w_s (by omega) (by omega)]
    subst e35
    refine ⟨by omega, by omega, ?_⟩
    intro v38 e38 _
    rw [show ((t : Int) * 14 + 4).toNat = 14 * t + 4 by omega] at e38
    have e38 : v38 = c_d H t 4 := e38
    subst e38
    have hl : (c_d H t 5).toNat = l.length := by omega
    have hs : c_sn H t = m_sl (sw_iv H (sw_rv H 3 3)) ((c_d H t 4).toNat + (0 : Int).toNat) (l.length - (0 : Int).toNat) := by
      unfold c_sn
      rw [hl]
      rfl
    refine ⟨_, c_hasSigns_l S h s0 (by omega) (l.length + 1) (k := 0) (by omega) (by omega) (by omega) (fun z => q1 ?_) (fun z => q0 ?_)⟩
    · rw [hs, z]; rfl
    · rw [hs]; exact z
  · have := congrArg List.length w
    unfold c_sn at this
    rw [m_sl_len] at this
    omega
end
end
