/-! ===== the class: add writes ===== -/
noncomputable section
section
variable {G W : sw_H} {r ra nn : Nat} {l : List Int} {s a b c code : Int} {d : Nat → Wt} {P : Int → sw_H → Prop}
/-- the new row is written, up to its code -/
def c_wr (G W : sw_H) (s a b c code : Int) (l : List Int) : Prop := c_fr [3, sw_rv G 3 1, sw_rv G 3 3] G W ∧ c_n W = c_n G + 1 ∧ sw_iv W 3 4 = sw_iv G 3 4 + l.length ∧ (∀ f, f ≠ 2 → f ≠ 4 → sw_iv W 3 f = sw_iv G 3 f) ∧ (∀ j : Nat, ((j : Int) < 14 * (c_n G + 1) ∨ 14 * (c_n G + 1) + 7 ≤ j) → sw_iv W (sw_rv G 3 1) j = sw_iv G (sw_rv G 3 1) j) ∧ c_d W (c_n G + 1).toNat 0 = s ∧ c_d W (c_n G + 1).toNat 1 = a ∧ c_d W (c_n G + 1).toNat 2 = b ∧ c_d W (c_n G + 1).toNat 3 = c ∧ c_d W (c_n G + 1).toNat 4 = sw_iv G 3 4 ∧ c_d W (c_n G + 1).toNat 5 = l.length ∧ c_d W (c_n G + 1).toNat 6 = code ∧ (∀ j : Nat, (j : Int) < sw_iv G 3 4 → sw_iv W (sw_rv G 3 3) j = sw_iv G (sw_rv G 3 3) j) ∧ m_sl (sw_iv W (sw_rv G 3 3)) (sw_iv G 3 4).toNat l.length = l
theorem c_write (T : c_T G d nn) (h : c_row G r ra l) (hr : ¬ c_ow G r) (hra : ¬ c_ow G ra) (h1 : 14 * (c_n G + 2) ≤ sw_ln G (sw_rv G 3 1)) (h2 : sw_iv G 3 4 + l.length ≤ sw_ln G (sw_rv G 3 3)) (k : ∀ W, c_wr G W s a b c code l → wm_335 3 (c_n G + 1) 0 a W (fun H144 => sw_ext W H144 → (s = 4 → wb_251_141 P 3 b c (c_n G + 1) ((c_n G + 1) * 14) H144) ∧ (s ≠ 4 → (s ≠ 6 → wb_251_151 P 3 (c_n G + 1) ((c_n G + 1) * 14) H144) ∧ (s = 6 → wb_251_141 P 3 b c (c_n G + 1) ((c_n G + 1) * 14) H144)))) : wb_251_55 P 3 s a b c r code (c_n G + 1) G := by
  have S := T.1
  have D := T.2.1
  have t1 := T.2.2.1
  have t3 := T.2.2.2.2.1
  have dl := S.2.2.2.2.2.2.1
  have sl := S.2.2.2.2.2.2.2.1
  have h' := h
  obtain ⟨r1, r2, r3, r4, r5, r6, r7⟩ := h'
  have n31 : (3 : Nat) ≠ sw_rv G 3 1 := fun e => by
    have := S.2.1
    rw [← e, S.1] at this
    cases this
  have n33 : (3 : Nat) ≠ sw_rv G 3 3 := fun e => by
    have := S.2.2.1
    rw [← e, S.1] at this
    cases this
  have n13 := D.1
  have nra3 : ra ≠ sw_rv G 3 3 := fun e => hra (Or.inr (Or.inr (Or.inl e)))
  have nr1 : r ≠ sw_rv G 3 1 := fun e => hr (Or.inr (Or.inl e))
  have nr3 : r ≠ sw_rv G 3 3 := fun e => hr (Or.inr (Or.inr (Or.inl e)))
  have nr : r ≠ 3 := fun e => hr (Or.inl e)
  generalize hD : sw_rv G 3 1 = da at *
  generalize hS : sw_rv G 3 3 = sa at *
  unfold wb_251_55
  refine ⟨by rw [r2]; exact r3, ?_⟩
  intro q65 e65
  rw [r2] at e65
  have e65 := e65.symm
  subst e65
  refine ⟨S.2.2.1, ?_⟩
  intro q68 e68
  rw [hS] at e68
  have e68 := e68.symm
  subst e68
  intro v71 e71 _ v74 e74 _
  rw [r4] at e74
  subst e71 e74
  refine ⟨by omega, t3, by omega, h2, ?_⟩
  intro H77 e77 y80 e80
  rw [sw_w_s (by omega) (by omega)] at e80
  subst e80
  have i0 : sw_w ((c_n G + 1) * 14 + 0) = (c_n G + 1) * 14 + 0 := sw_w_s (by omega) (by omega)
  have i1 : sw_w ((c_n G + 1) * 14 + 1) = (c_n G + 1) * 14 + 1 := sw_w_s (by omega) (by omega)
  have i2 : sw_w ((c_n G + 1) * 14 + 2) = (c_n G + 1) * 14 + 2 := sw_w_s (by omega) (by omega)
  have i3 : sw_w ((c_n G + 1) * 14 + 3) = (c_n G + 1) * 14 + 3 := sw_w_s (by omega) (by omega)
  have i4 : sw_w ((c_n G + 1) * 14 + 4) = (c_n G + 1) * 14 + 4 := sw_w_s (by omega) (by omega)
  have i5 : sw_w ((c_n G + 1) * 14 + 5) = (c_n G + 1) * 14 + 5 := sw_w_s (by omega) (by omega)
  have i6 : sw_w ((c_n G + 1) * 14 + 6) = (c_n G + 1) * 14 + 6 := sw_w_s (by omega) (by omega)
  rw [i0, i1, i2, i3, i4, i5, i6]
  have f77 : c_fr [sa] G H77 := by rw [e77]; exact c_fr_cp G _ _ _ _ _
  have step : ∀ (X Y : sw_H) (j : Nat) (z : Int), c_fr [3, da, sa] G X → Y = sw_si X da j z → c_fr [3, da, sa] G Y := fun X Y j z hX e => by
    rw [e]
    exact c_fr_t hX (c_fr_sub (c_fr_si X da j z) (by simp))
  have f0 : c_fr [3, da, sa] G H77 := c_fr_sub f77 (by simp)
  have tyd : ∀ X, c_fr [3, da, sa] G X → sw_ty X (sw_rv X 3 1) = 1 := fun X hX => by rw [hX.2.2.1, hX.2.2.2.2.1]; exact S.2.1
  have rvd : ∀ X, c_fr [3, da, sa] G X → sw_rv X 3 1 = da := fun X hX => by rw [hX.2.2.2.2.1, hD]
  have lnd : ∀ X, c_fr [3, da, sa] G X → sw_ln X da = sw_ln G da := fun X hX => hX.2.2.2.1 da
  refine ⟨tyd _ f0, ?_⟩
  intro q e
  rw [rvd _ f0] at e
  have e := e.symm
  subst e
  refine ⟨by omega, by rw [lnd _ f0]; omega, ?_⟩
  intro H87 e87
  have f1 := step _ _ _ _ f0 e87
  refine ⟨tyd _ f1, ?_⟩
  intro q e
  rw [rvd _ f1] at e
  have e := e.symm
  subst e
  refine ⟨by omega, by rw [lnd _ f1]; omega, ?_⟩
  intro H93 e93
  have f2 := step _ _ _ _ f1 e93
  refine ⟨tyd _ f2, ?_⟩
  intro q e
  rw [rvd _ f2] at e
  have e := e.symm
  subst e
  refine ⟨by omega, by rw [lnd _ f2]; omega, ?_⟩
  intro H99 e99
  have f3 := step _ _ _ _ f2 e99
  refine ⟨tyd _ f3, ?_⟩
  intro q e
  rw [rvd _ f3] at e
  have e := e.symm
  subst e
  refine ⟨by omega, by rw [lnd _ f3]; omega, ?_⟩
  intro H105 e105
  have f4 := step _ _ _ _ f3 e105
  have iv3 : ∀ g, sw_iv H77 3 g = sw_iv G 3 g := fun g => by rw [f77.2.2.2.2.2 3 (by simpa using n33)]
  have ivr : ∀ g, sw_iv H77 r g = sw_iv G r g := fun g => by rw [f77.2.2.2.2.2 r (by simpa using nr3)]
  refine ⟨tyd _ f4, ?_⟩
  intro q e
  rw [rvd _ f4] at e
  have e := e.symm
  subst e
  intro v111 e111 _
  rw [e105, c_si_q n31, e99, c_si_q n31, e93, c_si_q n31, e87, c_si_q n31, iv3] at e111
  subst e111
  refine ⟨by omega, by rw [lnd _ f4]; omega, ?_⟩
  intro H114 e114
  have f5 := step _ _ _ _ f4 e114
  refine ⟨tyd _ f5, ?_⟩
  intro q e
  rw [rvd _ f5] at e
  have e := e.symm
  subst e
  intro v120 e120 _
  rw [e114, c_si_q nr1, e105, c_si_q nr1, e99, c_si_q nr1, e93, c_si_q nr1, e87, c_si_q nr1, ivr, r4] at e120
  subst e120
  refine ⟨by omega, by rw [lnd _ f5]; omega, ?_⟩
  intro H123 e123
  have f6 := step _ _ _ _ f5 e123
  refine ⟨tyd _ f6, ?_⟩
  intro q e
  rw [rvd _ f6] at e
  have e := e.symm
  subst e
  refine ⟨by omega, by rw [lnd _ f6]; omega, ?_⟩
  intro H129 e129
  have f7 := step _ _ _ _ f6 e129
  intro v132 e132 _ v135 e135 _
  rw [e129, c_si_q n31, e123, c_si_q n31, e114, c_si_q n31, e105, c_si_q n31, e99, c_si_q n31, e93, c_si_q n31, e87, c_si_q n31, iv3] at e132
  rw [e129, c_si_q nr1, e123, c_si_q nr1, e114, c_si_q nr1, e105, c_si_q nr1, e99, c_si_q nr1, e93, c_si_q nr1, e87, c_si_q nr1, ivr, r4] at e135
  subst e132 e135
  rw [sw_w_s (by omega) (by omega)]
  intro H138 e138 H141 e141
  have f8 : c_fr [3, da, sa] G H141 := by
    rw [e141, e138]
    exact c_fr_t (c_fr_t f7 (c_fr_sub (c_fr_si H129 3 4 _) (by simp))) (c_fr_sub (c_fr_si _ 3 2 _) (by simp))
  have dat : ∀ j, sw_iv H141 da j = sw_iv H129 da j := fun j => by rw [e141, c_si_q (Ne.symm n31), e138, c_si_q (Ne.symm n31)]
  have dall : ∀ j, sw_iv H129 da j = if j = ((c_n G + 1) * 14 + 6).toNat then code else if j = ((c_n G + 1) * 14 + 5).toNat then (l.length : Int) else if j = ((c_n G + 1) * 14 + 4).toNat then sw_iv G 3 4 else if j = ((c_n G + 1) * 14 + 3).toNat then c else if j = ((c_n G + 1) * 14 + 2).toNat then b else if j = ((c_n G + 1) * 14 + 1).toNat then a else if j = ((c_n G + 1) * 14 + 0).toNat then s else sw_iv G da j := fun j => by
    have one : ∀ (X Y : sw_H) (m : Nat) (z : Int), Y = sw_si X da m z → sw_iv Y da j = if j = m then z else sw_iv X da j := fun X Y m z e => by
      rw [e, sw_iv_si]
      by_cases cj : j = m
      · rw [if_pos ⟨rfl, cj⟩, if_pos cj]
      · rw [if_neg (fun q => cj q.2), if_neg cj]
    rw [one _ _ _ _ e129, one _ _ _ _ e123, one _ _ _ _ e114, one _ _ _ _ e105, one _ _ _ _ e99, one _ _ _ _ e93, one _ _ _ _ e87, f77.2.2.2.2.2 da (by simpa using n13)]
  have sgn : ∀ j, sw_iv H141 sa j = sw_iv H77 sa j := fun j => by rw [e141, c_si_q (Ne.symm n33), e138, c_si_q (Ne.symm n33), e129, c_si_q (Ne.symm n13), e123, c_si_q (Ne.symm n13), e114, c_si_q (Ne.symm n13), e105, c_si_q (Ne.symm n13), e99, c_si_q (Ne.symm n13), e93, c_si_q (Ne.symm n13), e87, c_si_q (Ne.symm n13)]
  have iv3' : ∀ g, sw_iv H129 3 g = sw_iv G 3 g := fun g => by rw [e129, c_si_q n31, e123, c_si_q n31, e114, c_si_q n31, e105, c_si_q n31, e99, c_si_q n31, e93, c_si_q n31, e87, c_si_q n31, iv3]
  have cd : ∀ m : Nat, c_d H141 (c_n G + 1).toNat m = sw_iv H129 da (14 * (c_n G + 1).toNat + m) := fun m => by
    unfold c_d
    rw [rvd _ f8, dat]
  refine k H141 ⟨by rw [hD, hS]; exact f8, ?_, ?_, fun f g1 g2 => ?_, fun j hj => ?_, ?_, ?_, ?_, ?_, ?_, ?_, ?_, fun j hj => ?_, ?_⟩
  · show sw_iv H141 3 2 = _
    rw [e141, c_si_eq]
  · rw [e141, c_si_f (by decide), e138, c_si_eq]
  · rw [e141, c_si_f g1, e138, c_si_f g2, iv3']
  · rw [hD, dat, dall, if_neg (by omega), if_neg (by omega), if_neg (by omega), if_neg (by omega), if_neg (by omega), if_neg (by omega), if_neg (by omega)]
  · rw [cd, dall, if_neg (by omega), if_neg (by omega), if_neg (by omega), if_neg (by omega), if_neg (by omega), if_neg (by omega), if_pos (by omega)]
  · rw [cd, dall, if_neg (by omega), if_neg (by omega), if_neg (by omega), if_neg (by omega), if_neg (by omega), if_pos (by omega)]
  · rw [cd, dall, if_neg (by omega), if_neg (by omega), if_neg (by omega), if_neg (by omega), if_pos (by omega)]
  · rw [cd, dall, if_neg (by omega), if_neg (by omega), if_neg (by omega), if_pos (by omega)]
  · rw [cd, dall, if_neg (by omega), if_neg (by omega), if_pos (by omega)]
  · rw [cd, dall, if_neg (by omega), if_pos (by omega)]
  · rw [cd, dall, if_pos (by omega)]
  · rw [hS, sgn, e77, sw_iv_cp, if_neg (by omega)]
  · rw [hS]
    apply List.ext_getElem?
    intro j
    by_cases cj : j < l.length
    · rw [m_sl_at cj, sgn, e77, sw_iv_cp, if_pos ⟨rfl, by omega, by omega⟩, c_row_at h cj]
      congr 2
      omega
    · rw [List.getElem?_eq_none (by rw [m_sl_len]; omega), List.getElem?_eq_none (by omega)]
end
end
