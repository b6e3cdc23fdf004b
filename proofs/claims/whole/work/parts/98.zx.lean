/-! ===== the class: add, its growing ===== -/
noncomputable section
section
variable {H G K : sw_H} {r ra : Nat} {l : List Int} {x : Int} {Q : sw_H → Prop} {P : Int → sw_H → Prop}
/-- nothing lies behind the last cell -/
def c_F (H : sw_H) : Prop := ∀ c, sw_n H + 2 ≤ c → sw_ty H c = 0
/-- one array of Terms (field f) is made anew, with x places -/
def c_gr (H G : sw_H) (f : Nat) (x : Int) : Prop := sw_n G = sw_n H + 1 ∧ sw_s G = sw_s H + x.toNat ∧ (∀ c, sw_ty G c = if c = sw_n H + 2 then 1 else sw_ty H c) ∧ (∀ c, sw_ln G c = if c = sw_n H + 2 then x.toNat else sw_ln H c) ∧ (∀ c g, c ≠ sw_n H + 2 → sw_iv G c g = sw_iv H c g) ∧ (∀ c g, c ≠ sw_n H + 2 → ¬ (c = 3 ∧ g = f) → sw_rv G c g = sw_rv H c g) ∧ (∀ g, sw_iv G (sw_n H + 2) g = if g < sw_ln H (sw_rv H 3 f) then sw_iv H (sw_rv H 3 f) g else 0) ∧ sw_rv G 3 f = sw_n H + 2
theorem c_gr_mk {f : Nat} {W : sw_H} (h3 : 3 ≠ sw_n H + 2) (n1 : sw_n W = sw_n H + 1) (s1 : sw_s W = sw_s H + x.toNat) (t1 : ∀ c, sw_ty W c = if c = sw_n H + 2 then 1 else sw_ty H c) (l1 : ∀ c, sw_ln W c = if c = sw_n H + 2 then x.toNat else sw_ln H c) (i1 : ∀ c g, c ≠ sw_n H + 2 → sw_iv W c g = sw_iv H c g ∧ sw_rv W c g = sw_rv H c g) (j1 : ∀ g, sw_iv W (sw_n H + 2) g = if g < sw_ln H (sw_rv H 3 f) then sw_iv H (sw_rv H 3 f) g else 0) : c_gr H (sw_sr W 3 f (sw_n H + 2)) f x := by
  refine ⟨n1, s1, t1, l1, fun c g hc => (i1 c g hc).1, fun c g hc hg => ?_, j1, ?_⟩
  · rw [sw_rv_sr, if_neg hg]
    exact (i1 c g hc).2
  · rw [sw_rv_sr, if_pos ⟨rfl, rfl⟩]
theorem c_gr_ow {f : Nat} (g : c_gr H G f x) (h3 : 3 ≠ sw_n H + 2) {a : Nat} (h : c_ow G a) : c_ow H a ∨ a = sw_n H + 2 := by
  obtain ⟨_, _, _, _, _, g6, _, g8⟩ := g
  have key : ∀ k, sw_rv G 3 k = sw_rv H 3 k ∨ sw_rv G 3 k = sw_n H + 2 := fun k => by
    by_cases c : k = f
    · rw [c]; exact Or.inr g8
    · exact Or.inl (g6 3 k h3 (fun z => c z.2))
  unfold c_ow at h ⊢
  rcases h with h | h | h | h | h | h
  · exact Or.inl (Or.inl h)
  · rcases key 1 with k | k
    · rw [k] at h; exact Or.inl (Or.inr (Or.inl h))
    · exact Or.inr (h.trans k)
  · rcases key 3 with k | k
    · rw [k] at h; exact Or.inl (Or.inr (Or.inr (Or.inl h)))
    · exact Or.inr (h.trans k)
  · rcases key 5 with k | k
    · rw [k] at h; exact Or.inl (Or.inr (Or.inr (Or.inr (Or.inl h))))
    · exact Or.inr (h.trans k)
  · rcases key 6 with k | k
    · rw [k] at h; exact Or.inl (Or.inr (Or.inr (Or.inr (Or.inr (Or.inl h)))))
    · exact Or.inr (h.trans k)
  · rcases key 8 with k | k
    · rw [k] at h; exact Or.inl (Or.inr (Or.inr (Or.inr (Or.inr (Or.inr h)))))
    · exact Or.inr (h.trans k)
theorem c_gr_ft {f : Nat} (g : c_gr H G f x) (hF : c_F H) (h3 : 3 ≠ sw_n H + 2) (hf : f ≠ 0) : c_ft H G ∧ c_F G := by
  have g' := g
  obtain ⟨g1, g2, g3, g4, g5, g6, g7, g8⟩ := g'
  have free : sw_ty H (sw_n H + 2) = 0 := hF _ (Nat.le_refl _)
  refine ⟨⟨⟨by omega, fun a ha => ?_⟩, fun a ha ho => ⟨fun k => ?_, fun k => ?_⟩, fun a ha => ?_, ?_⟩, fun c hc => ?_⟩
  · have ne : a ≠ sw_n H + 2 := fun e => ha (by rw [e]; exact free)
    rw [g3, g4, if_neg ne, if_neg ne]
    exact ⟨rfl, rfl⟩
  · exact g5 a k (fun e => ha (by rw [e]; exact free))
  · exact g6 a k (fun e => ha (by rw [e]; exact free)) (fun z => ho (Or.inl z.1))
  · rcases c_gr_ow g h3 ha with h | h
    · exact Or.inl h
    · exact Or.inr (by rw [h]; exact free)
  · exact g6 3 0 h3 (fun z => hf z.2.symm)
  · rw [g3, if_neg (by omega)]
    exact hF c (by omega)
theorem c_row_ft (h : c_row H r ra l) (f : c_ft H G) (h1 : ¬ c_ow H r) (h2 : ¬ c_ow H ra) : c_row G r ra l ∧ ¬ c_ow G r ∧ ¬ c_ow G ra := by
  obtain ⟨a1, a2, a3, a4, a5, a6, a7⟩ := h
  obtain ⟨f1, f2, f3, f4⟩ := f
  have tr : sw_ty H r ≠ 0 := by rw [a1]; decide
  have ta : sw_ty H ra ≠ 0 := by rw [a3]; decide
  have er := f1.2 r tr
  have ea := f1.2 ra ta
  have ir := f2 r tr h1
  have ia := f2 ra ta h2
  have ef : sw_iv G ra = sw_iv H ra := funext ia.1
  refine ⟨⟨by rw [er.1]; exact a1, by rw [ir.2]; exact a2, by rw [ea.1]; exact a3, by rw [ir.1]; exact a4, by rw [ea.2]; exact a5, by rw [ea.2]; exact a6, by rw [ef]; exact a7⟩, fun hh => ?_, fun hh => ?_⟩
  · rcases f3 r hh with h | h
    · exact h1 h
    · exact tr h
  · rcases f3 ra hh with h | h
    · exact h2 h
    · exact ta h
/-- data and waiting grow -/
theorem c_grow {d : Nat → Wt} {nn : Nat} (T : c_T H d nn) (Z : c_Z H) (F : c_F H) (hn4 : ¬ c_ow H 4) (hn5 : ¬ c_ow H 5) {G1 G2 : sw_H} (g1 : c_gr H G1 1 (2 * sw_ln H (sw_rv H 3 1))) (g2 : c_gr G1 G2 8 (2 * sw_ln H (sw_rv H 3 8))) (hb : 2 * sw_ln H (sw_rv H 3 1) ≤ 134217728) : c_T G2 d nn ∧ c_Z G2 ∧ c_F G2 ∧ c_ft H G2 ∧ c_vw H G2 ∧ sw_ln G2 (sw_rv G2 3 1) = 2 * sw_ln H (sw_rv H 3 1) ∧ sw_rv G2 3 3 = sw_rv H 3 3 ∧ sw_rv G2 3 5 = sw_rv H 3 5 ∧ sw_ln G2 (sw_rv H 3 3) = sw_ln H (sw_rv H 3 3) ∧ sw_ln G2 (sw_rv H 3 5) = sw_ln H (sw_rv H 3 5) := by
  have T' := T
  obtain ⟨S, D, t1, t2, t3, t4, t5, t6, t7, t8, t9, _⟩ := T'
  obtain ⟨s1, s2, s3, s4, s5, s6, s7, s8, s9, s10, s11, s12, s13⟩ := S
  have free : sw_ty H (sw_n H + 2) = 0 := F _ (Nat.le_refl _)
  have h3 : 3 ≠ sw_n H + 2 := fun e => by rw [e, free] at s1; cases s1
  obtain ⟨f1, F1⟩ := c_gr_ft g1 F h3 (by decide)
  have n1 := g1.1
  have h3' : 3 ≠ sw_n G1 + 2 := by
    intro e
    have := F1 (sw_n G1 + 2) (Nat.le_refl _)
    rw [← e, (f1.1.2 3 (by rw [s1]; decide)).1, s1] at this
    cases this
  obtain ⟨f2, F2⟩ := c_gr_ft g2 F1 h3' (by decide)
  have ft := c_ft_trans f1 f2
  obtain ⟨a1, a2, a3, a4, a5, a6, a7, a8⟩ := g1
  obtain ⟨b1, b2, b3, b4, b5, b6, b7, b8⟩ := g2
  -- where the arrays lie now
  have al : ∀ c : Nat, sw_ty H c ≠ 0 → c ≠ sw_n H + 2 ∧ c ≠ sw_n G1 + 2 := fun c hc => by
    refine ⟨fun e => hc (by rw [e]; exact free), fun e => hc ?_⟩
    exact F c (by omega)
  have ne12 : sw_n H + 2 ≠ sw_n G1 + 2 := by omega
  have r1 : sw_rv G2 3 1 = sw_n H + 2 := by rw [b6 3 1 h3' (by decide), a8]
  have r8 : sw_rv G2 3 8 = sw_n G1 + 2 := b8
  have rk : ∀ k, k ≠ 1 → k ≠ 8 → sw_rv G2 3 k = sw_rv H 3 k := fun k k1 k8 => by rw [b6 3 k h3' (fun z => k8 z.2), a6 3 k h3 (fun z => k1 z.2)]
  have r18 : sw_rv G1 3 8 = sw_rv H 3 8 := a6 3 8 h3 (by decide)
  have ivk : ∀ c g, sw_ty H c ≠ 0 → sw_iv G2 c g = sw_iv H c g := fun c g hc => by rw [b5 c g (al c hc).2, a5 c g (al c hc).1]
  have tyk : ∀ c, sw_ty H c ≠ 0 → sw_ty G2 c = sw_ty H c := fun c hc => (ft.1.2 c hc).1
  have lnk : ∀ c, sw_ty H c ≠ 0 → sw_ln G2 c = sw_ln H c := fun c hc => (ft.1.2 c hc).2
  have ty1 : sw_ty G2 (sw_n H + 2) = 1 := by rw [b3, if_neg ne12, a3, if_pos rfl]
  have ty8 : sw_ty G2 (sw_n G1 + 2) = 1 := by rw [b3, if_pos rfl]
  have ln1 : sw_ln G2 (sw_n H + 2) = 2 * sw_ln H (sw_rv H 3 1) := by rw [b4, if_neg ne12, a4, if_pos rfl]; omega
  have ln8 : sw_ln G2 (sw_n G1 + 2) = 2 * sw_ln H (sw_rv H 3 8) := by rw [b4, if_pos rfl]; omega
  have iv1 : ∀ g, sw_iv G2 (sw_n H + 2) g = if g < sw_ln H (sw_rv H 3 1) then sw_iv H (sw_rv H 3 1) g else 0 := fun g => by rw [b5 _ g ne12, a7]
  have z3 : sw_ty H 3 ≠ 0 := by rw [s1]; decide
  have q1 : sw_ty H (sw_rv H 3 1) ≠ 0 := by rw [s2]; decide
  have q3 : sw_ty H (sw_rv H 3 3) ≠ 0 := by rw [s3]; decide
  have q5 : sw_ty H (sw_rv H 3 5) ≠ 0 := by rw [s4]; decide
  have q6 : sw_ty H (sw_rv H 3 6) ≠ 0 := by rw [s5]; decide
  have V : c_vw H G2 := by
    refine ⟨fun f => ivk 3 f z3, fun j hj => ?_, fun j hj => ?_, fun j => ?_, ?_, rk 6 (by decide) (by decide), fun j => ?_⟩
    · rw [r1, iv1, if_pos (by omega)]
    · rw [rk 3 (by decide) (by decide)]; exact ivk _ j q3
    · rw [rk 5 (by decide) (by decide)]; exact ivk _ j q5
    · rw [rk 5 (by decide) (by decide)]; exact lnk _ q5
    · rw [rk 6 (by decide) (by decide)]; exact ivk _ j q6
  have hrow := (c_row_ft s12 ft hn4 hn5).1
  have S2 : c_S G2 := by
    refine ⟨by rw [tyk 3 z3]; exact s1, by rw [r1]; exact ty1, ?_, ?_, ?_, by rw [r8]; exact ty8, by rw [r1, ln1]; exact hb, ?_, ?_, ?_, by rw [r8, ln8]; omega, hrow, by rw [rk 0 (by decide) (by decide)]; exact s13⟩
    · rw [rk 3 (by decide) (by decide), tyk _ q3]; exact s3
    · rw [rk 5 (by decide) (by decide), tyk _ q5]; exact s4
    · rw [rk 6 (by decide) (by decide), tyk _ q6]; exact s5
    · rw [rk 3 (by decide) (by decide), lnk _ q3]; exact s8
    · rw [rk 5 (by decide) (by decide), lnk _ q5]; exact s9
    · rw [rk 6 (by decide) (by decide), lnk _ q6]; exact s10
  have D2 : c_D G2 := by
    unfold c_D at D ⊢
    rw [r1, r8, rk 3 (by decide) (by decide), rk 5 (by decide) (by decide), rk 6 (by decide) (by decide)]
    exact ⟨(al _ q3).1.symm, (al _ q5).1.symm, (al _ q6).1.symm, ne12, D.2.2.2.2.1, D.2.2.2.2.2.1, (al _ q3).2, D.2.2.2.2.2.2.2.1, (al _ q5).2, (al _ q6).2⟩
  refine ⟨c_T_vw T V S2 D2 ?_ ?_ ?_, fun j hj hz => ?_, F2, ft, V, by rw [r1]; exact ln1, rk 3 (by decide) (by decide), rk 5 (by decide) (by decide), lnk _ q3, lnk _ q5⟩
  · rw [r1, ln1]; omega
  · rw [rk 3 (by decide) (by decide), lnk _ q3]; exact t4
  · rw [r1, ln1, r8, ln8]; omega
  · rw [r1] at hj ⊢
    rw [iv1]
    have en : c_n G2 = c_n H := V.1 2
    rw [en] at hz
    by_cases c : j < sw_ln H (sw_rv H 3 1)
    · rw [if_pos c]
      exact Z j c hz
    · rw [if_neg c]
end
end
