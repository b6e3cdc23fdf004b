/-! ===== the class: the Reader's isZeroRead, openRow, closeRow ===== -/
noncomputable section
/-- inside a ROW -/
def p_o (l : List Wt) (s : p_S) : p_S := (p_r l s).map (fun x => (x.2.1, x.1))
/-- behind a ROW that was read to its end -/
def p_c (e : Nat) : p_S → p_S
  | none => none
  | some (i, f) => if i = f then some (i, e) else none
section
variable {H Z X Y : sw_H} {nn nm r ra g m : Nat} {K K' S : Wt → Prop} {tl mk mm l : List Wt} {a b c x y n cn cs N U M : Int} {Q : sw_H → Prop} {P : Int → sw_H → Prop} {A B : List Nat} {w : Wt} {st : p_S}
/-- isZeroRead, as the first half of reading a HASH or the byte 0 -/
theorem c_isZero (hV : c_V H mk nn K tl cn cs) (hs : c_rs H mk r ra l) (h : c_rd H l st) (q1 : ∀ G, c_rd G l (p_to (p_h K l st)) → (∀ w s, p_h K l st = some (w, s) → w = []) → c_fr [18] H G → c_k5 H G → P 1 G) (q0 : p_h K l st = p_t K 1 l st → P 0 H) : wm_352 18 H P := by
  obtain ⟨b1, b2, b3, b4⟩ := c_rd_b h
  obtain ⟨t1, t2, t3, t4, at'⟩ := c_rs_at hV.1 hs
  have rv1 := hs.2.2.1
  have l7 := hs.2.2.2.2.2.2.1
  obtain ⟨i, ei⟩ : ∃ i : Nat, sw_iv H 18 2 = i := ⟨(sw_iv H 18 2).toNat, by omega⟩
  have no : ¬ ((i : Int) < sw_iv H 18 3 ∧ (l[i]?).getD [] = w_by 0) → P 0 H := by
    intro hn
    refine q0 ?_
    cases st with
    | none => rfl
    | some s =>
      obtain ⟨i', e⟩ := s
      obtain ⟨h1, h2, h3, h4, h5⟩ := h
      have ii : i' = i := by omega
      subst ii
      exact if_neg (fun g => hn ⟨by omega, g.2⟩)
  unfold wm_352
  intro v1 e1 _ v4 e4 _
  rw [rv1]
  refine ⟨fun c => no (fun g => by omega), fun c => ⟨t1, ?_⟩⟩
  obtain ⟨a1, a2, a3, a4⟩ := at' i (by omega)
  intro q7 e7
  rw [e7, t2]
  refine ⟨t3, ?_⟩
  intro q10 e10 v13 e13 _
  rw [e10]
  refine ⟨by omega, by omega, ?_⟩
  intro v16 e16 _
  rw [e13, ei, Int.toNat_natCast] at e16
  refine ⟨fun c2 => no (fun g => ?_), fun c2 => ?_⟩
  · have hd : ((l[i]?).getD []).head? = some 1000 := by rw [g.2]; rfl
    have c3 := a3.mpr hd
    have c4 := a4 c3
    rw [g.2] at c4
    have c5 : w_bv (w_by 0) = 0 := rfl
    rw [c5] at c4
    omega
  · have ew : (l[i]?).getD [] = w_by 0 := by
      rw [← a2, ← e16, c2]
      exact if_pos (by omega)
    intro v19 e19 _ H22 e22
    rw [e19, ei, sw_w_s (by omega) (by omega)] at e22
    have f22 : c_fr [18] H H22 := by rw [e22]; exact c_fr_si _ _ _ _
    have w2 : sw_iv H22 18 2 = (i : Int) + 1 := by rw [e22, c_si_eq]
    have w3 : sw_iv H22 18 3 = sw_iv H 18 3 := by rw [e22, c_si_f (by decide)]
    have w4 : sw_iv H22 18 4 = sw_iv H 18 4 := by rw [e22, c_si_f (by decide)]
    cases st with
    | none =>
      refine q1 H22 ⟨by omega, by omega, by omega, by omega, ?_⟩ (fun w s hb => absurd hb (by simp [p_h])) f22 (c_k5_si e22 (by omega))
      rw [w4]; exact h.2.2.2.2
    | some s =>
      obtain ⟨i', e⟩ := s
      obtain ⟨h1, h2, h3, h4, h5⟩ := h
      have ii : i' = i := by omega
      subst ii
      have ep : p_h K l (some (i', e)) = some ([], i' + 1, e) := if_pos ⟨by omega, ew⟩
      refine q1 H22 ?_ (fun w s hb => ?_) f22 (c_k5_si e22 (by omega))
      · rw [ep]
        exact ⟨by rw [w2]; omega, by rw [w3]; exact h2, by rw [w4]; exact h3, by omega, h5⟩
      · rw [ep] at hb
        exact (Prod.mk.inj (Option.some.inj hb)).1.symm
theorem c_openRow (hV : c_V H mk nn K tl cn cs) (hs : c_rs H mk r ra l) (h : c_rd H l st) (q : ∀ G, c_rd G l (p_o l st) → c_fr [18] H G → c_k5 H G → P (sw_iv H 18 3) G) : wm_347 18 H P := by
  obtain ⟨b1, b2, b3, b4⟩ := c_rd_b h
  have l7 := hs.2.2.2.2.2.2.1
  unfold wm_347
  intro v1 e1 _
  subst e1
  refine c_u16 hV.1 hs h (fun z J r v z0 z1 f nk _ _ => ?_)
  intro v12 e12 _ y15 e15
  obtain ⟨d1, d2, d3, d4⟩ := c_rd_b r
  have e15 : y15 = z + sw_iv J 18 2 := by rw [e15, e12, sw_w_s (by omega) (by omega)]
  cases e16 : p_16 l st with
  | none =>
    rw [e16] at r
    have en : p_o l st = none := by unfold p_o p_r; rw [e16]; rfl
    have r4 : sw_iv J 18 4 = 1 := r.2.2.2.2
    refine ⟨fun c => ?_, fun c => ?_⟩
    · intro H19 e19
      have f19 : c_fr [18] J H19 := by rw [e19]; exact c_fr_si _ _ _ _
      refine q H19 ?_ (c_fr_t f f19) (c_k5_t nk (c_k5_si e19 (by omega)))
      rw [en]
      refine ⟨?_, ?_, ?_, ?_, ?_⟩
      · rw [e19, c_si_f (by decide)]; exact d1
      · rw [e19, c_si_f (by decide)]; exact d2
      · rw [e19, c_si_eq]; omega
      · rw [e19, c_si_eq]; omega
      · rw [e19, c_si_f (by decide)]; exact r4
    · intro H22 e22
      obtain ⟨k1, k2⟩ := c_rd_wrong d1 d2 d3 d4 e22
      exact q H22 (by rw [en]; exact k1) (c_fr_t f k2) (c_k5_t nk (c_k5_si e22 (by omega)))
  | some p1 =>
    obtain ⟨z1', i1, f1⟩ := p1
    have ez := v z1' (i1, f1) e16
    subst ez
    rw [e16] at r
    obtain ⟨h1, h2, h3, h4, h5⟩ := r
    have h1 : sw_iv J 18 2 = (i1 : Int) := h1
    have h2 : sw_iv J 18 3 = (f1 : Int) := h2
    have h3 : sw_iv J 18 4 = 0 := h3
    have ef : sw_iv H 18 3 = (f1 : Int) := by
      cases st with
      | none => exact absurd e16 (by simp [p_16, p_8])
      | some s =>
        obtain ⟨i0, e0⟩ := s
        have := p_16_le e16
        have g2 := h.2.1
        omega
    have epr : p_o l st = if (i1 : Int) + z ≤ (f1 : Int) then some (i1, i1 + z.toNat) else none := by
      unfold p_o p_r
      rw [e16]
      show ((if (i1 : Int) + z ≤ (f1 : Int) then some (i1 + z.toNat, i1, f1) else none) : Option (Nat × Nat × Nat)).map _ = _
      split <;> rfl
    refine ⟨fun c => ?_, fun c => ?_⟩
    · rw [if_pos (by omega)] at epr
      intro H19 e19
      have f19 : c_fr [18] J H19 := by rw [e19]; exact c_fr_si _ _ _ _
      refine q H19 ?_ (c_fr_t f f19) (c_k5_t nk (c_k5_si e19 (by omega)))
      rw [epr]
      refine ⟨?_, ?_, ?_, by omega, by omega⟩
      · rw [e19, c_si_f (by decide)]; exact h1
      · rw [e19, c_si_eq]; omega
      · rw [e19, c_si_f (by decide)]; exact h3
    · rw [if_neg (by omega)] at epr
      intro H22 e22
      obtain ⟨k1, k2⟩ := c_rd_wrong (l := l) d1 d2 d3 d4 e22
      exact q H22 (by rw [epr]; exact k1) (c_fr_t f k2) (c_k5_t nk (c_k5_si e22 (by omega)))
theorem c_closeRow {e : Nat} (h : c_rd H l st) (he : e ≤ l.length) (hle : ∀ i f, st = some (i, f) → f ≤ e) (hx : x = e) (q : ∀ G, c_rd G l (p_c e st) → c_fr [18] H G → c_k5 H G → Q G) : wm_349 18 x H Q := by
  subst hx
  obtain ⟨b1, b2, b3, b4⟩ := c_rd_b h
  have fin : ∀ Z, c_fr [18] H Z → (∀ f, f ≠ 4 → sw_iv Z 18 f = sw_iv H 18 f) → (sw_iv Z 18 4 = 1 ∧ p_c e st = none ∨ sw_iv Z 18 4 = 0 ∧ ∃ i, st = some (i, i) ∧ sw_iv H 18 2 = (i : Int)) → wb_349_8 Q 18 e Z := by
    intro Z fZ kZ hh
    unfold wb_349_8
    intro H1 e1
    have f1 : c_fr [18] Z H1 := by rw [e1]; exact c_fr_si _ _ _ _
    have w2 : sw_iv H1 18 2 = sw_iv H 18 2 := by rw [e1, c_si_f (by decide), kZ 2 (by decide)]
    have w3 : sw_iv H1 18 3 = (e : Int) := by rw [e1, c_si_eq]
    have w4 : sw_iv H1 18 4 = sw_iv Z 18 4 := by rw [e1, c_si_f (by decide)]
    refine q H1 ?_ (c_fr_t fZ f1) (c_k5_t (fun f hf => kZ f (by omega)) (c_k5_si e1 (by omega)))
    rcases hh with ⟨g1, g2⟩ | ⟨g1, i, g2, g3⟩
    · rw [g2]
      exact ⟨by omega, by omega, by omega, by omega, by omega⟩
    · have ep : p_c e st = some (i, e) := by rw [g2]; exact if_pos rfl
      have := hle i i g2
      rw [ep]
      exact ⟨by omega, w3, by omega, by omega, he⟩
  unfold wm_349
  intro v4 e4 _ v7 e7 _
  refine ⟨fun c => fin H (c_fr_refl _ _) (fun _ _ => rfl) ?_, fun c => ?_⟩
  · cases st with
    | none => exact Or.inl ⟨h.2.2.2.2, rfl⟩
    | some s =>
      obtain ⟨i, f⟩ := s
      obtain ⟨h1, h2, h3, h4, h5⟩ := h
      have : i = f := by omega
      subst this
      exact Or.inr ⟨h3, i, rfl, h1⟩
  · intro H10 e10
    refine fin H10 (by rw [e10]; exact c_fr_si _ _ _ _) (fun f hf => by rw [e10, c_si_f hf]) (Or.inl ⟨by rw [e10, c_si_eq], ?_⟩)
    cases st with
    | none => rfl
    | some s =>
      obtain ⟨i, f⟩ := s
      obtain ⟨h1, h2, h3, h4, h5⟩ := h
      exact if_neg (fun g => by omega)
end
end
