/-! ===== the class: what stands in a row; takeFrom ===== -/
noncomputable section
variable {H G Z X : sw_H} {mk mm tl l : List Wt} {nn r ra k o h x y i e : Nat} {K : Wt → Prop} {cn cs : Int} {T T' : w_T} {f : p_L} {Q : sw_H → Prop} {P : Int → sw_H → Prop} {A : List Nat} {b z src : Int} {s : Nat × Nat}
theorem c_byte (hL : c_L H mk nn K tl) (h : c_sg H (w_d mk) r ra l) (hk : l[k]? = some (w_by b)) (h0 : 0 ≤ b) : sw_iv H ra k = b := by
  obtain ⟨a1, a2, a3, _⟩ := c_sg_at h hk
  by_cases c : sw_iv H ra k < 256
  · rw [w_by_sg c] at a3
    unfold w_by at a3
    injection a3 with _ a4
    injection a4 with a5 _
    have := a2.1
    omega
  · exfalso
    rw [hL.2.1] at a2
    unfold m_vs at a2
    have hw := w_at_of (mk := mk) (x := sw_iv H ra k - 256) (by omega) (by omega)
    unfold w_sg at a3
    rw [if_neg c] at a3
    have hh := c_at_head hL hw
    rw [a3] at hh
    exact hh rfl
theorem c_row_s (h : c_sg H (w_d mk) r ra l) (hl : k < l.length) : sw_ty H r = 80 ∧ sw_rv H r 0 = ra ∧ sw_ty H ra = 1 ∧ k < sw_ln H ra := by
  obtain ⟨a1, _, _, a4, a5, a6⟩ := c_sg_at h (w_get hl)
  exact ⟨a4, a5, a6, a1⟩
theorem c_u16At (hL : c_L H mk nn K tl) (h : c_sg H (w_d mk) r ra l) (hll : l.length ≤ 60000) (he : e ≤ l.length) (hp : p_16 l (some (i, e)) = some (z, s)) (q : P z H) : wm_278 r i H P := by
  have hvl := c_sg_vl hL h
  obtain ⟨s1, s2, s3, _, s5⟩ := p_16_sl hvl he hp
  have e1 := (c_sg_len h).1
  have g0 : (w_sli l i (i + 2))[0]? = some (w_by (z / 256 % 256)) := by rw [s1]; rfl
  have g1 : (w_sli l i (i + 2))[1]? = some (w_by (z % 256)) := by rw [s1]; rfl
  rw [w_sli_at (by omega)] at g0 g1
  have b0 := c_byte hL h g0 (by omega)
  have b1 := c_byte hL h g1 (by omega)
  rw [Nat.add_zero] at b0
  obtain ⟨t1, t2, t3, t4⟩ := c_row_s h (k := i + 1) (by omega)
  unfold wm_278
  refine ⟨fun c => by omega, fun _ => ?_⟩
  intro v ev _
  rw [e1] at ev
  rw [sw_s1 (by omega)]
  refine ⟨fun c => by omega, fun _ => ?_⟩
  rw [t2]
  refine ⟨t3, ?_⟩
  intro q4 e4
  rw [e4]
  refine ⟨by omega, by omega, ?_⟩
  intro v7 e7 _
  refine ⟨t3, ?_⟩
  intro q10 e10
  rw [e10]
  refine ⟨by omega, by omega, ?_⟩
  intro v13 e13 _
  rw [Int.toNat_natCast] at e7 e13
  rw [e7, e13, b0, b1]
  have e8 : sw_shl (z / 256 % 256) 8 = z / 256 % 256 * ((2 ^ 8 : Nat) : Int) := by
    rw [sw_shl_k (k := 8) (by decide) (by decide), sw_w_s (by omega) (by omega)]
  rw [e8, sw_or_d (by omega) (by omega) (by omega) (by omega)]
  have : z / 256 % 256 * ((2 ^ 8 : Nat) : Int) + z % 256 = z := by omega
  rw [this]
  exact q
theorem c_takeFrom (hL : c_L H mk nn K tl) (h : c_sg H (w_d mk) r ra l) (hll : l.length ≤ 60000) (he : e ≤ l.length) (hp : p_lf K src l (some (i, e)) = some (f, s)) (hsrc : 0 < src ∧ src < 3) (no : o ≠ r ∧ o ≠ ra ∧ o ≠ 3) (hfx : ∀ H9 : sw_H, c_fr [o] H H9 → c_L H9 mk nn K tl) (q : ∀ G, c_Lf G mk o f → c_fr [o] H G → Q G) : wm_311 o r i H Q := by
  obtain ⟨m, k, p, so, ph, g⟩ := f
  have hvl := c_sg_vl hL h
  obtain ⟨x1, x2, x3, x4, x5, x6, y1, y2, y3, y4, y5, y6⟩ := p_lf_ix hp
  have so2 : so = src := x6 hsrc.1
  have ph0 : ph = [] := x5 (by omega)
  rw [if_neg (by omega)] at x2 y6
  rw [if_neg (by omega)] at y6
  have e1 := (c_sg_len h).1
  have k3 : ∀ {H9 : sw_H}, c_fr [o] H H9 → c_sg H9 (w_d mk) r ra l := fun f9 => c_sg_fr h f9 (by simp; omega) (by simp; omega) (by simp; omega)
  have tm : ∀ {st j : Nat} {w : Wt} {s' : Nat × Nat}, st ≠ 1000 → p_t K st l (some (j, e)) = some (w, s') → l[j]? = some w ∧ w.head? ≠ some 1000 := fun hst ht => ⟨p_t_sl he ht, by rw [(p_t_in ht).2.2.2.1]; simpa using hst⟩
  unfold wm_311
  refine ⟨fun c => by omega, fun _ => ?_⟩
  intro v ev _
  rw [e1] at ev
  rw [sw_w_s (z := (i : Int) + 6) (by omega) (by omega)]
  refine ⟨fun c => by omega, fun _ => ?_⟩
  refine c_u16At hL h hll he y1 ?_
  intro _ _ H9 e9
  have f9 : c_fr [o] H H9 := by rw [e9]; exact c_fr_si _ _ _ _
  rw [sw_w_s (z := (i : Int) + 2) (by omega) (by omega), show (i : Int) + 2 = ((i + 2 : Nat) : Int) by omega]
  refine c_s_termAt (hfx H9 f9).2.1 (k3 f9) (tm (by decide) y2).1 (tm (by decide) y2).2 (fun z1 a1 => ?_)
  intro _ _ H17 e17
  have f17 : c_fr [o] H H17 := c_fr_t f9 (by rw [e17]; exact c_fr_si _ _ _ _)
  rw [sw_w_s (z := (i : Int) + 3) (by omega) (by omega), show (i : Int) + 3 = ((i + 3 : Nat) : Int) by omega]
  refine c_s_termAt (hfx H17 f17).2.1 (k3 f17) (tm (by decide) y3).1 (tm (by decide) y3).2 (fun z2 a2 => ?_)
  intro _ _ H25 e25
  have f25 : c_fr [o] H H25 := c_fr_t f17 (by rw [e25]; exact c_fr_si _ _ _ _)
  obtain ⟨t1, t2, t3, t4⟩ := c_row_s (k3 f25) (k := i + 4) (by omega)
  rw [t2]
  refine ⟨t3, ?_⟩
  intro q28 e28
  rw [e28, sw_w_s (z := (i : Int) + 4) (by omega) (by omega), show (i : Int) + 4 = ((i + 4 : Nat) : Int) by omega]
  refine ⟨by omega, by omega, ?_⟩
  intro v31 e31 _
  rw [Int.toNat_natCast] at e31
  obtain ⟨b1, b2, b3⟩ := p_8_sl hvl he y4
  have e31' : v31 = so := by rw [e31]; exact c_byte (hfx H25 f25) (k3 f25) b1 b2
  intro H34 e34 H37 e37
  have f34 : c_fr [o] H H34 := c_fr_t f25 (by rw [e34]; exact c_fr_si _ _ _ _)
  have f37 : c_fr [o] H H37 := c_fr_t f34 (by rw [e37]; exact c_fr_si _ _ _ _)
  rw [sw_w_s (z := (i : Int) + 5) (by omega) (by omega), show (i : Int) + 5 = ((i + 5 : Nat) : Int) by omega]
  refine c_s_termAt (hfx H37 f37).2.1 (k3 f37) (tm (by decide) y6).1 (tm (by decide) y6).2 (fun z3 a3 => ?_)
  intro _ _ H45 e45
  have f45 : c_fr [o] H H45 := c_fr_t f37 (by rw [e45]; exact c_fr_si _ _ _ _)
  refine q H45 ⟨⟨?_, ?_, ?_, ?_, ?_, x3, x4⟩, ?_⟩ f45
  · rw [e45, c_si_f (by decide), e37, c_si_f (by decide), e34, c_si_f (by decide), e25, c_si_f (by decide), e17, c_si_f (by decide), e9, c_si_eq]
  · rw [e45, c_si_f (by decide), e37, c_si_f (by decide), e34, c_si_f (by decide), e25, c_si_f (by decide), e17, c_si_eq]
    exact a1
  · rw [e45, c_si_f (by decide), e37, c_si_f (by decide), e34, c_si_f (by decide), e25, c_si_eq]
    exact a2
  · rw [e45, c_si_f (by decide), e37, c_si_f (by decide), e34, c_si_eq]
    exact e31'
  · rw [e45, c_si_f (by decide), e37, c_si_eq]
    exact Or.inl ⟨rfl, ph0⟩
  · rw [e45, c_si_eq]
    exact a3
end
