/-! ===== the class: the Reader's u32, termOf, isZeroRead, openRow, closeRow ===== -/
noncomputable section
section
variable {H Z X Y : sw_H} {nn nm r ra g m : Nat} {K K' S : Wt → Prop} {tl mk mm l : List Wt} {a b c x y n cn cs N U M : Int} {Q : sw_H → Prop} {P : Int → sw_H → Prop} {A B : List Nat} {w : Wt} {st : p_S}
theorem c_V18 (hV : c_V H mk nn K tl cn cs) (f : c_fr [18] H Z) : c_V Z mk nn K tl cn cs := c_V_fr hV f (fun a ha => by simp at ha; unfold c_fix; omega)
theorem c_u32 (hV : c_V H mk nn K tl cn cs) (hs : c_rs H mk r ra l) (h : c_rd H l st) (q : ∀ z G, c_rd G l (p_to (p_32 l st)) → (∀ b s, p_32 l st = some (b, s) → z = b) → sw_c z → c_fr [18] H G → c_k5 H G → P z G) : wm_351 18 H P := by
  unfold wm_351
  refine c_u16 hV.1 hs h (fun a J1 r1 v1 a0 a1 f1 n1 _ _ => ?_)
  refine c_u16 (c_V18 hV f1).1 (c_rs_fr hs f1) r1 (fun b J2 r2 v2 b0 b1 f2 n2 _ _ => ?_)
  rw [sw_or_32 a0 a1 b0 b1]
  refine q _ J2 ?_ (fun z s hz => ?_) (sw_w_c _) (c_fr_t f1 f2) (c_k5_t n1 n2)
  · unfold p_32
    cases e1 : p_16 l st with
    | none => rw [e1] at r2; exact r2
    | some p1 =>
      rw [e1] at r2
      show c_rd J2 l (p_to ((p_16 l (some p1.2)).map (fun b => (sw_w (65536 * p1.1 + b.1), b.2))))
      have r2 : c_rd J2 l (p_to (p_16 l (some p1.2))) := r2
      cases e2 : p_16 l (some p1.2) with
      | none => rw [e2] at r2; exact r2
      | some p2 => rw [e2] at r2; exact r2
  · unfold p_32 at hz
    cases e1 : p_16 l st with
    | none => rw [e1] at hz; exact absurd hz (by simp)
    | some p1 =>
      rw [e1] at hz
      have hz : (p_16 l (some p1.2)).map (fun b => (sw_w (65536 * p1.1 + b.1), b.2)) = some (z, s) := hz
      cases e2 : p_16 l (some p1.2) with
      | none => rw [e2] at hz; exact absurd hz (by simp)
      | some p2 =>
        rw [e2] at hz
        have hz := (Prod.mk.inj (Option.some.inj hz)).1
        have q1 := v1 p1.1 p1.2 e1
        have q2 := v2 p2.1 p2.2 (by rw [e1]; exact e2)
        rw [← hz, q1, q2]
/-- isSeen: the sort, and known -/
theorem c_isSeen {t so : Nat} (hL : c_L H mk nn K tl) (hw : w_at mk (t : Int) w) (h1 : 1 ≤ so) (h7 : so ≤ 7) (q1 : w.head? = some so → K w → P 1 H) (q0 : ¬ (w.head? = some so ∧ K w) → P 0 H) : wm_374 3 t so H P := by
  have hA := hL.1
  have n4 := hL.2.1
  have wl := w_at_le hw
  have ht : c_R H t := ⟨by omega, by omega⟩
  have T := hA.1
  have S := T.1
  have len := T.2.2.2.1
  have lim := S.2.2.2.2.2.2.1
  have row := T.2.2.2.2.2.2.2.2.2.1 t ht
  have dw : w_d mk t = w := by
    have := w_at_d hw
    rw [Int.toNat_natCast] at this
    exact this
  have kk := c_K_row T hA.2.2.2.2.2.1 ht
  rw [dw] at kk
  have hd : c_d H t 0 = so ↔ w.head? = some so := by
    by_cases c0 : c_d H t 0 = 0
    · have hn : w.head? = some 0 ∨ w.head? = some 8 := by
        rcases row.2.2.2.2.2.2 c0 with ⟨_, e⟩ | ⟨_, i, _, e⟩
        · rw [dw] at e; rw [e]; exact Or.inl rfl
        · rw [dw] at e; rw [e]; exact Or.inr rfl
      constructor
      · intro h; omega
      · intro h
        rcases hn with g | g
        · rw [g] at h; have := Option.some.inj h; omega
        · rw [g] at h; have := Option.some.inj h; omega
    · have e := (row.2.2.2.2.2.1 c0).1
      rw [dw] at e
      have s0 := row.1.1
      have hh : w.head? = some (c_d H t 0).toNat := by
        rw [e]
        rfl
      rw [hh]
      constructor
      · intro h
        rw [h]
        rfl
      · intro h
        have := Option.some.inj h
        omega
  unfold wm_374
  intro y1 e1
  rw [sw_w_s (by omega) (by omega)] at e1
  rw [e1, sw_w_s (z := (t : Int) * 14 + 0) (by omega) (by omega), sw_w_s (z := (t : Int) * 14 + 9) (by omega) (by omega), show (t : Int) * 14 + 0 = ((14 * t + 0 : Nat) : Int) by omega, show (t : Int) * 14 + 9 = ((14 * t + 9 : Nat) : Int) by omega]
  refine ⟨S.2.1, ?_⟩
  intro q5 e5
  rw [e5]
  refine ⟨by omega, by omega, ?_⟩
  intro v8 e8 _
  have e8 : v8 = c_d H t 0 := by rw [e8, Int.toNat_natCast]; rfl
  refine ⟨fun c => q0 (fun g => c (by rw [e8]; exact hd.mpr g.1)), fun c => ⟨S.2.1, ?_⟩⟩
  intro q11 e11
  rw [e11]
  refine ⟨by omega, by omega, ?_⟩
  intro v14 e14 _
  have e14 : v14 = c_d H t 9 := by rw [e14, Int.toNat_natCast]; rfl
  have h01 := hA.2.2.2.2.2.1.1 t (by omega)
  refine ⟨fun c2 => q0 (fun g => ?_), fun c2 => q1 (hd.mp (by rw [← e8]; exact c)) (kk.mp ?_)⟩
  · have := kk.mpr g.2
    unfold c_k at this
    omega
  · unfold c_k
    omega
theorem c_termOf {so : Nat} (s1 : 1 ≤ so) (s7 : so ≤ 7) (hV : c_V H mk nn K tl cn cs) (hml : mk.length ≤ 999999999) (hs : c_rs H mk r ra l) (h : c_rd H l st) (q : ∀ z G, c_rd G l (p_to (p_t K so l st)) → (∀ w s, p_t K so l st = some (w, s) → w_at mk z w) → 0 ≤ z → z ≤ mk.length → c_fr [18] H G → c_k5 H G → P z G) : wm_343 18 so H P := by
  obtain ⟨b1, b2, b3, b4⟩ := c_rd_b h
  obtain ⟨t1, t2, t3, t4, at'⟩ := c_rs_at hV.1 hs
  have rv0 := hs.2.1
  have rv1 := hs.2.2.1
  have l7 := hs.2.2.2.2.2.2.1
  have rr : ra ≠ 18 := hs.2.2.2.2.2.1
  have bad : p_t K so l st = none → wb_343_26 P 18 H := by
    intro e
    unfold wb_343_26
    intro H1 e1
    obtain ⟨k1, k2⟩ := c_rd_wrong b1 b2 b3 b4 e1
    exact q 0 H1 (by rw [e]; exact k1) (fun b s hb => by rw [e] at hb; exact absurd hb (by simp)) (by omega) (by omega) k2 (c_k5_si e1 (by omega))
  obtain ⟨i, ei⟩ : ∃ i : Nat, sw_iv H 18 2 = i := ⟨(sw_iv H 18 2).toNat, by omega⟩
  have none_of : ¬ ((i : Int) < sw_iv H 18 3 ∧ ((l[i]?).getD []).head? = some so ∧ K ((l[i]?).getD [])) → wb_343_26 P 18 H := by
    intro hn
    refine bad ?_
    cases st with
    | none => rfl
    | some s =>
      obtain ⟨i', e⟩ := s
      obtain ⟨h1, h2, h3, h4, h5⟩ := h
      have ii : i' = i := by omega
      subst ii
      exact if_neg (fun g => hn ⟨by omega, g.2⟩)
  unfold wm_343
  intro v4 e4 _ v7 e7 _
  rw [rv1, rv0]
  refine ⟨fun c => none_of (fun g => by omega), fun c => ⟨t1, ?_⟩⟩
  obtain ⟨a1, a2, a3, a4⟩ := at' i (by omega)
  intro q10 e10
  rw [e10, t2]
  refine ⟨t3, ?_⟩
  intro q13 e13 v16 e16 _
  rw [e13]
  refine ⟨by omega, by omega, ?_⟩
  intro v19 e19 _
  rw [e16, ei, Int.toNat_natCast] at e19
  refine ⟨fun c2 => none_of (fun g => ?_), fun c2 => ⟨hV.1.1.1.1.1, ?_⟩⟩
  · have := a3.mp (by omega)
    rw [this] at g
    have := Option.some.inj g.2.1
    omega
  intro q22 e22
  refine ⟨t1, ?_⟩
  intro q25 e25
  rw [e25, t2]
  refine ⟨t3, ?_⟩
  intro q28 e28 v31 e31 _
  rw [e22, e28]
  refine ⟨by omega, by omega, ?_⟩
  intro v34 e34 _
  rw [e31, ei, Int.toNat_natCast] at e34
  unfold m_vs at a1
  obtain ⟨t, et⟩ : ∃ t : Nat, sw_iv H ra i - 256 = t := ⟨(sw_iv H ra i - 256).toNat, by omega⟩
  rw [e34, sw_w_s (by omega) (by omega), et]
  have hat : w_at mk (t : Int) ((l[i]?).getD []) := by
    have := w_at_of (mk := mk) (x := (t : Int)) (by omega) (by omega)
    unfold w_sg at a2
    rw [if_neg (by omega), et] at a2
    rw [a2] at this
    exact this
  refine c_isSeen hV.1 hat s1 s7 (fun y1 y2 _ _ => ⟨fun _ => ?_, fun c3 => absurd c3 (by decide)⟩) (fun y1 _ _ => ⟨fun c3 => absurd rfl c3, fun _ => none_of (fun g => y1 g.2)⟩)
  intro v42 e42 _ H45 e45
  rw [e42, ei, sw_w_s (by omega) (by omega)] at e45
  have f45 : c_fr [18] H H45 := by rw [e45]; exact c_fr_si _ _ _ _
  have w2 : sw_iv H45 18 2 = (i : Int) + 1 := by rw [e45, c_si_eq]
  have w3 : sw_iv H45 18 3 = sw_iv H 18 3 := by rw [e45, c_si_f (by decide)]
  have w4 : sw_iv H45 18 4 = sw_iv H 18 4 := by rw [e45, c_si_f (by decide)]
  rw [f45.2.2.2.2.1, rv1]
  refine ⟨by rw [f45.2.2.1]; exact t1, ?_⟩
  intro q48 e48
  rw [e48, f45.2.2.2.2.1, t2]
  refine ⟨by rw [f45.2.2.1]; exact t3, ?_⟩
  intro q51 e51 v54 e54 _
  rw [w2] at e54
  rw [e51, e54, sw_w_s (z := (i : Int) + 1 - 1) (by omega) (by omega), show (i : Int) + 1 - 1 = i by omega]
  refine ⟨by omega, by rw [f45.2.2.2.1]; omega, ?_⟩
  intro v57 e57 _
  rw [Int.toNat_natCast, f45.2.2.2.2.2 ra (by simpa using rr)] at e57
  rw [e57, sw_w_s (by omega) (by omega), et]
  cases st with
  | none =>
    refine q _ H45 ⟨by omega, by omega, by omega, by omega, ?_⟩ (fun w s hb => absurd hb (by simp [p_t])) (by omega) (by omega) f45 (c_k5_si e45 (by omega))
    rw [w4]; exact h.2.2.2.2
  | some s =>
    obtain ⟨i', e⟩ := s
    obtain ⟨h1, h2, h3, h4, h5⟩ := h
    have ii : i' = i := by omega
    subst ii
    have ep : p_t K so l (some (i', e)) = some ((l[i']?).getD [], i' + 1, e) := if_pos ⟨by omega, y1, y2⟩
    refine q _ H45 ?_ (fun w s hb => ?_) (by omega) (by omega) f45 (c_k5_si e45 (by omega))
    · rw [ep]
      exact ⟨by rw [w2]; omega, by rw [w3]; exact h2, by rw [w4]; exact h3, by omega, h5⟩
    · rw [ep] at hb
      have := (Prod.mk.inj (Option.some.inj hb)).1
      rw [← this]
      exact hat
end
end
