/-! ===== the reference: readTerm, readPerhaps, readRow ===== -/
noncomputable section
/-- a ROW: where it ends; what is read behind it stays inside -/
def p_r (l : List Wt) (s : p_S) : Option (Nat × Nat × Nat) := (p_16 l s).bind (fun a => if (a.2.1 : Int) + a.1 ≤ (a.2.2 : Int) then some ((a.2.1 : Nat) + a.1.toNat, a.2.1, a.2.2) else none)
section
variable {I J : sr_V} {nn fr : Nat} {K : Wt → Prop} {tl mk mm l : List Wt} {a b c x y n : Int} {Q : Int → sr_V → Prop} {R : sr_V → Prop} {st : p_S} {w : Wt}
theorem m_tk_t (h : m_tk I mk K fr l) {i so : Nat} (hi : i < l.length) (h9 : so ≤ 9) : (256 ≤ I 26 (fr + i) ∧ I 6 (I 26 (fr + i) - 256).toNat = so ∧ I 16 (I 26 (fr + i) - 256).toNat ≠ 0) ↔ (((l[i]?).getD []).head? = some so ∧ K ((l[i]?).getD [])) := by
  obtain ⟨h1, h2⟩ := m_tk_at h hi
  constructor
  · rintro ⟨c1, c2, c3⟩
    have kk := h.2.2.2.2 i hi c1
    unfold m_vs at h1
    have hh := h.2.2.2.1 (I 26 (fr + i) - 256).toNat (by omega) (by omega)
    unfold w_sg at h2
    rw [if_neg (by omega)] at h2
    rw [h2, c2] at hh
    exact ⟨by rw [hh.1]; simp, kk.2.mp (by omega)⟩
  · rintro ⟨c1, c2⟩
    have c3 : 256 ≤ I 26 (fr + i) := by
      rcases Int.lt_or_le (I 26 (fr + i)) 256 with g | g
      · exfalso
        have := (m_tk_8 h hi).1.mp g
        rw [c1] at this
        have := Option.some.inj this
        omega
      · exact g
    have kk := h.2.2.2.2 i hi c3
    unfold m_vs at h1
    have hh := h.2.2.2.1 (I 26 (fr + i) - 256).toNat (by omega) (by omega)
    unfold w_sg at h2
    rw [if_neg (by omega)] at h2
    rw [h2, c1] at hh
    have e := Option.some.inj hh.1
    refine ⟨c3, by omega, fun g => ?_⟩
    have := kk.2.mpr c2
    omega
theorem r_readTerm {so : Nat} (h9 : so ≤ 9) (hx : m_tk I mk K fr l) (h : m_rd I fr l st) (q : ∀ z J, m_rd J fr l (p_to (p_t K so l st)) → (∀ w s, p_t K so l st = some (w, s) → w_at mk z w) → (p_t K so l st = none → z = 0) → m_fr [] [57, 58, 59] I J → Q z J) : rm_215 so I Q := by
  have bad : ∀ Z, m_fr [] [57, 58, 59] I Z → p_t K so l st = none → (fr : Int) ≤ Z 1000 57 → Z 1000 57 ≤ ((fr + l.length : Nat) : Int) → (fr : Int) ≤ Z 1000 58 → Z 1000 58 ≤ ((fr + l.length : Nat) : Int) → Z 1000 59 = 1 → rb_215_38 Q Z := by
    intro Z fZ e z1 z2 z3 z4 z5
    unfold rb_215_38
    intro v1 e1 _
    rw [z5] at e1
    refine ⟨fun c => by omega, fun _ => q 0 Z ?_ (fun b s hb => by rw [e] at hb; exact absurd hb (by simp)) (fun _ => rfl) fZ⟩
    rw [e]
    exact ⟨z1, z2, z3, z4, z5⟩
  have bad2 : p_t K so l st = none → (fr : Int) ≤ I 1000 57 → I 1000 57 ≤ ((fr + l.length : Nat) : Int) → (fr : Int) ≤ I 1000 58 → I 1000 58 ≤ ((fr + l.length : Nat) : Int) → rb_215_35 Q I := by
    intro e z1 z2 z3 z4
    unfold rb_215_35
    intro I20 e20
    refine bad I20 ⟨fun g _ h2 => by rw [e20, su_f h2], fun f hf => by rw [e20, su_k (by simp at hf; omega)]⟩ e ?_ ?_ ?_ ?_ (by rw [e20, su_eq])
    · rw [e20, su_k (by decide)]; exact z1
    · rw [e20, su_k (by decide)]; exact z2
    · rw [e20, su_k (by decide)]; exact z3
    · rw [e20, su_k (by decide)]; exact z4
  cases st with
  | none =>
    obtain ⟨z1, z2, z3, z4, z5⟩ := h
    have hb := hx.2.1
    have h45 := hx.2.2.1
    have go := bad2 rfl z1 z2 z3 z4
    unfold rm_215
    intro v24 e24 _ v27 e27 _
    refine ⟨fun c => go, fun c => ?_⟩
    obtain ⟨i, ei⟩ : ∃ i : Nat, I 1000 57 = ((fr + i : Nat) : Int) := ⟨(I 1000 57 - fr).toNat, by omega⟩
    obtain ⟨g1, g2⟩ := m_tk_at hx (i := i) (by omega)
    unfold m_vs at g1
    intro v30 e30 _
    refine ⟨by omega, by omega, ?_⟩
    intro v33 e33 _
    rw [e30, ei, Int.toNat_natCast] at e33
    refine ⟨fun c2 => go, fun c2 => ?_⟩
    intro v36 e36 _
    refine ⟨by omega, by omega, ?_⟩
    intro v39 e39 _
    rw [e36, ei, Int.toNat_natCast] at e39
    rw [e39, sw_w_s (by omega) (by omega)]
    refine ⟨by omega, by omega, ?_⟩
    intro v42 e42 _
    refine ⟨fun c3 => go, fun c3 => ?_⟩
    intro v45 e45 _
    refine ⟨by omega, by omega, ?_⟩
    intro v48 e48 _
    rw [e45, ei, Int.toNat_natCast] at e48
    rw [e48, sw_w_s (by omega) (by omega)]
    refine ⟨by omega, by omega, ?_⟩
    intro v51 e51 _
    exact ⟨fun c4 => bad I (m_fr_refl _ _ _) rfl z1 z2 z3 z4 z5, fun c4 => go⟩
  | some s =>
    obtain ⟨i, e⟩ := s
    obtain ⟨h1, h2, h3, h4, h5⟩ := h
    have hb := hx.2.1
    have h45 := hx.2.2.1
    unfold rm_215
    intro v24 e24 _ v27 e27 _
    refine ⟨fun c => bad2 ?_ (by omega) (by omega) (by omega) (by omega), fun c => ?_⟩
    · exact if_neg (fun g => by omega)
    · have hi : i < e := by omega
      obtain ⟨g1, g2⟩ := m_tk_at hx (i := i) (by omega)
      have tt := m_tk_t hx (i := i) (by omega) h9
      have none_of : ¬ (256 ≤ I 26 (fr + i) ∧ I 6 (I 26 (fr + i) - 256).toNat = so ∧ I 16 (I 26 (fr + i) - 256).toNat ≠ 0) → rb_215_35 Q I := fun hn => bad2 (if_neg (fun g => hn (tt.mpr g.2))) (by omega) (by omega) (by omega) (by omega)
      intro v30 e30 _
      refine ⟨by omega, by omega, ?_⟩
      intro v33 e33 _
      rw [e30, h1, Int.toNat_natCast] at e33
      refine ⟨fun c2 => none_of (fun g => by omega), fun c2 => ?_⟩
      unfold m_vs at g1
      intro v36 e36 _
      refine ⟨by omega, by omega, ?_⟩
      intro v39 e39 _
      rw [e36, h1, Int.toNat_natCast] at e39
      rw [e39, sw_w_s (by omega) (by omega)]
      refine ⟨by omega, by omega, ?_⟩
      intro v42 e42 _
      refine ⟨fun c3 => none_of (fun g => c3 (by rw [e42]; exact g.2.1)), fun c3 => ?_⟩
      intro v45 e45 _
      refine ⟨by omega, by omega, ?_⟩
      intro v48 e48 _
      rw [e45, h1, Int.toNat_natCast] at e48
      rw [e48, sw_w_s (by omega) (by omega)]
      refine ⟨by omega, by omega, ?_⟩
      intro v51 e51 _
      refine ⟨fun c4 => ?_, fun c4 => none_of (fun g => g.2.2 (by rw [← e51]; exact c4))⟩
      have yes := tt.mp ⟨by omega, by rw [← e42]; exact c3, by rw [← e51]; exact c4⟩
      have ep : p_t K so l (some (i, e)) = some ((l[i]?).getD [], i + 1, e) := if_pos ⟨hi, yes⟩
      unfold rb_215_38
      intro v1 e1 _
      refine ⟨fun _ => ?_, fun c5 => by omega⟩
      intro v4 e4 _ I8 e8 v12 e12 _
      rw [e4, h1, sw_w_s (by omega) (by omega)] at e8
      have e12 : v12 = ((fr + i : Nat) : Int) + 1 := by rw [e12, e8, su_eq]
      rw [e12, sw_w_s (z := ((fr + i : Nat) : Int) + 1 - 1) (by omega) (by omega), show ((fr + i : Nat) : Int) + 1 - 1 = ((fr + i : Nat) : Int) by omega]
      refine ⟨by omega, by omega, ?_⟩
      intro v15 e15 _
      rw [Int.toNat_natCast, e8, su_f (by decide)] at e15
      rw [e15, sw_w_s (by omega) (by omega)]
      refine q _ I8 ?_ (fun w s hws => ?_) (fun hn => by rw [ep] at hn; exact absurd hn (by simp)) ⟨fun g _ g2 => by rw [e8, su_f g2], fun f hf => by rw [e8, su_k (by simp at hf; omega)]⟩
      · rw [ep]
        refine ⟨?_, ?_, ?_, by omega, h5⟩
        · rw [e8, su_eq]; omega
        · rw [e8, su_k (by decide)]; exact h2
        · rw [e8, su_k (by decide)]; exact h3
      · rw [ep] at hws
        have e := (Prod.mk.inj (Option.some.inj hws)).1
        rw [← e, ← g2]
        unfold w_sg
        rw [if_neg (by omega)]
        exact w_at_of (by omega) (by omega)
/-- readPerhaps -/
theorem r_readPerhaps (hx : m_tk I mk K fr l) (h : m_rd I fr l st) (q : ∀ z J, m_rd J fr l (p_to (p_h K l st)) → (∀ w s, p_h K l st = some (w, s) → w_az mk z w) → (p_h K l st = none → z = 0) → m_fr [] [57, 58, 59] I J → Q z J) : rm_327 I Q := by
  have hb := hx.2.1
  cases st with
  | none =>
    have h' := h
    obtain ⟨z1, z2, z3, z4, z5⟩ := h
    have go : rb_327_19 Q I := by
      unfold rb_327_19
      exact r_readTerm (so := 1) (by omega) hx h' (fun z J r v n f _ => q z J r (fun w s hw => absurd hw (by simp [p_h])) (fun _ => n rfl) f)
    unfold rm_327
    intro v8 e8 _ v11 e11 _
    refine ⟨fun c => go, fun c => ?_⟩
    intro v14 e14 _
    refine ⟨by omega, by omega, ?_⟩
    intro v17 e17 _
    refine ⟨fun c2 => go, fun c2 => ?_⟩
    intro v20 e20 _ I24 e24
    rw [e20, sw_w_s (by omega) (by omega)] at e24
    refine q 0 I24 ⟨?_, ?_, ?_, ?_, ?_⟩ (fun w s hw => absurd hw (by simp [p_h])) (fun _ => rfl) ⟨fun g _ g2 => by rw [e24, su_f g2], fun f hf => by rw [e24, su_k (by simp at hf; omega)]⟩
    · rw [e24, su_eq]; omega
    · rw [e24, su_eq]; omega
    · rw [e24, su_k (by decide)]; exact z3
    · rw [e24, su_k (by decide)]; exact z4
    · rw [e24, su_k (by decide)]; exact z5
  | some s =>
    obtain ⟨i, e⟩ := s
    have h' := h
    obtain ⟨h1, h2, h3, h4, h5⟩ := h
    have go : ¬ (i < e ∧ (l[i]?).getD [] = w_by 0) → rb_327_19 Q I := by
      intro hn
      have ep : p_h K l (some (i, e)) = p_t K 1 l (some (i, e)) := if_neg hn
      rw [ep] at q
      unfold rb_327_19
      exact r_readTerm (so := 1) (by omega) hx h' (fun z J r v n f _ => q z J r (fun w s hw => Or.inr (v w s hw)) n f)
    unfold rm_327
    intro v8 e8 _ v11 e11 _
    refine ⟨fun c => go (fun g => by omega), fun c => ?_⟩
    have hi : i < e := by omega
    obtain ⟨g1, g2⟩ := m_tk_at hx (i := i) (by omega)
    intro v14 e14 _
    refine ⟨by omega, by omega, ?_⟩
    intro v17 e17 _
    rw [e14, h1, Int.toNat_natCast] at e17
    refine ⟨fun c2 => go (fun g => ?_), fun c2 => ?_⟩
    · have hd : ((l[i]?).getD []).head? = some 1000 := by rw [g.2]; rfl
      have k8 := m_tk_8 hx (i := i) (by omega)
      have c3 := k8.1.mpr hd
      have c4 := (k8.2 c3).1
      rw [g.2] at c4
      have c5 : w_bv (w_by 0) = 0 := rfl
      rw [c5] at c4
      omega
    · have ew : (l[i]?).getD [] = w_by 0 := by
        rw [← g2, ← e17, c2]
        exact if_pos (by omega)
      have ep : p_h K l (some (i, e)) = some ([], i + 1, e) := if_pos ⟨hi, ew⟩
      intro v20 e20 _ I24 e24
      rw [e20, h1, sw_w_s (by omega) (by omega)] at e24
      refine q 0 I24 ?_ (fun w s hw => ?_) (fun _ => rfl) ⟨fun g _ g2 => by rw [e24, su_f g2], fun f hf => by rw [e24, su_k (by simp at hf; omega)]⟩
      · rw [ep]
        refine ⟨?_, ?_, ?_, by omega, h5⟩
        · rw [e24, su_eq]; omega
        · rw [e24, su_k (by decide)]; exact h2
        · rw [e24, su_k (by decide)]; exact h3
      · rw [ep] at hw
        have e := (Prod.mk.inj (Option.some.inj hw)).1
        exact Or.inl ⟨rfl, e.symm⟩
theorem p_8_le {i e i' e' : Nat} {z : Int} (h : p_8 l (some (i, e)) = some (z, i', e')) : i' = i + 1 ∧ e' = e ∧ i < e := by
  have h : (if i < e ∧ ((l[i]?).getD []).head? = some 1000 then some (w_bv ((l[i]?).getD []), i + 1, e) else none) = some (z, i', e') := h
  by_cases hc : i < e ∧ ((l[i]?).getD []).head? = some 1000
  · rw [if_pos hc] at h
    have h := Option.some.inj h
    rw [Prod.mk.injEq, Prod.mk.injEq] at h
    exact ⟨h.2.1.symm, h.2.2.symm, hc.1⟩
  · rw [if_neg hc] at h
    exact absurd h (by simp)
theorem p_16_le {i e i' e' : Nat} {z : Int} (h : p_16 l (some (i, e)) = some (z, i', e')) : i' = i + 2 ∧ e' = e ∧ i + 2 ≤ e := by
  unfold p_16 at h
  cases e1 : p_8 l (some (i, e)) with
  | none => rw [e1] at h; exact absurd h (by simp)
  | some p1 =>
    obtain ⟨z1, i1, f1⟩ := p1
    rw [e1] at h
    have h : (p_8 l (some (i1, f1))).map (fun b => (256 * z1 + b.1, b.2)) = some (z, i', e') := h
    cases e2 : p_8 l (some (i1, f1)) with
    | none => rw [e2] at h; exact absurd h (by simp)
    | some p2 =>
      obtain ⟨z2, i2, f2⟩ := p2
      rw [e2] at h
      have h := Option.some.inj h
      rw [Prod.mk.injEq, Prod.mk.injEq] at h
      have a := p_8_le e1
      have b := p_8_le e2
      have h2 : i2 = i' := h.2.1
      have h3 : f2 = e' := h.2.2
      omega
/-- readRow -/
theorem r_readRow (hx : m_tk I mk K fr l) (h : m_rd I fr l st) (q : ∀ z J, m_rd J fr l (p_to (p_r l st)) → (∀ e s, p_r l st = some (e, s) → z = ((fr + e : Nat) : Int)) → (fr : Int) ≤ z → z ≤ ((fr + l.length : Nat) : Int) → m_fr [] [57, 58, 59] I J → Q z J) : rm_319 I Q := by
  have hb := hx.2.1
  unfold rm_319
  refine r_u16 hx h (fun z J r v z0 z1 f _ => ?_)
  -- nothing any more
  have bad : ∀ Z, p_r l st = none → m_fr [] [57, 58, 59] I Z → m_rd Z fr l none → rb_319_13 Q z Z := by
    intro Z e fZ hZ
    have hZ' := hZ
    obtain ⟨b1, b2, b3, b4, b5⟩ := hZ
    unfold rb_319_13
    intro v1 e1 _
    refine ⟨fun c => by omega, fun _ => ?_⟩
    intro v7 e7 _
    refine q v7 Z (by rw [e]; exact hZ') (fun e' s hs => by rw [e] at hs; exact absurd hs (by simp)) (by omega) (by omega) fZ
  have bad1 : ∀ {Z}, (fr : Int) ≤ J 1000 57 → J 1000 57 ≤ ((fr + l.length : Nat) : Int) → (fr : Int) ≤ J 1000 58 → J 1000 58 ≤ ((fr + l.length : Nat) : Int) → Z = su J 1000 59 1 → m_rd Z fr l none ∧ m_fr [] [57, 58, 59] I Z := by
    intro Z b1 b2 b3 b4 eZ
    refine ⟨⟨?_, ?_, ?_, ?_, by rw [eZ, su_eq]⟩, m_fr_trans f ⟨fun g _ g2 => by rw [eZ, su_f g2], fun f hf => by rw [eZ, su_k (by simp at hf; omega)]⟩⟩
    · rw [eZ, su_k (by decide)]; exact b1
    · rw [eZ, su_k (by decide)]; exact b2
    · rw [eZ, su_k (by decide)]; exact b3
    · rw [eZ, su_k (by decide)]; exact b4
  intro v21 e21 _ v24 e24 _
  cases e16 : p_16 l st with
  | none =>
    rw [e16] at r
    have en : p_r l st = none := by unfold p_r; rw [e16]; rfl
    have r' := r
    obtain ⟨b1, b2, b3, b4, b5⟩ := r
    refine ⟨fun c => bad J en f r', fun c => ?_⟩
    intro I28 e28
    obtain ⟨k1, k2⟩ := bad1 b1 b2 b3 b4 e28
    exact bad I28 en k2 k1
  | some p1 =>
    obtain ⟨z1', i1, f1⟩ := p1
    have ez := v z1' (i1, f1) e16
    subst ez
    rw [e16] at r
    have r' := r
    obtain ⟨h1, h2, h3, h4, h5⟩ := r
    have e21 : v21 = ((fr + i1 : Nat) : Int) := by rw [e21]; exact h1
    have e24 : v24 = ((fr + f1 : Nat) : Int) := by rw [e24]; exact h2
    have sw : sw_w (v21 + z) = ((fr + i1 : Nat) : Int) + z := by rw [e21]; exact sw_w_s (by omega) (by omega)
    rw [sw]
    clear sw
    have epr : p_r l st = if (i1 : Int) + z ≤ (f1 : Int) then some (i1 + z.toNat, i1, f1) else none := by unfold p_r; rw [e16]; rfl
    refine ⟨fun c => ?_, fun c => ?_⟩
    · rw [if_pos (by omega)] at epr
      unfold rb_319_13
      intro v1 e1 _
      have e1 : v1 = 0 := by rw [e1]; exact h3
      refine ⟨fun _ => ?_, fun c2 => by omega⟩
      intro v4 e4 _
      have e4 : v4 = ((fr + i1 : Nat) : Int) := by rw [e4]; exact h1
      rw [e4, sw_w_s (by omega) (by omega)]
      refine q _ J (by rw [epr]; exact r') (fun e' s hs => ?_) (by omega) (by omega) f
      rw [epr] at hs
      have hs := (Prod.mk.inj (Option.some.inj hs)).1
      rw [← hs]
      omega
    · rw [if_neg (by omega)] at epr
      intro I28 e28
      obtain ⟨k1, k2⟩ := bad1 (by omega) (by omega) (by omega) (by omega) e28
      exact bad I28 epr k2 k1
end
end
