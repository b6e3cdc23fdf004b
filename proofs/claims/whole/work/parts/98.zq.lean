/-! ===== the reference: term, make ===== -/
noncomputable section
section
variable {I J : sr_V} {d e : Nat → Wt} {nn : Nat} {K : Wt → Prop} {x : Int} {tl tp : List Wt} {ms : List (List Wt)} {rd : Nat → Int}
/-- telling a part that may be none -/
def w_tp (tl : List Wt) (w : Wt) : Int × List Wt := if w = [] then (0, tl) else (((w_tl tl w).idxOf w : Nat) + 1, w_tl tl w)
theorem m_tellp {Q : Int → sr_V → Prop} (T : m_T I d nn) (hN : m_N I d tl) (hb : tl.length < 44998) (h0 : 0 ≤ x) (h1 : x ≤ I 1000 4) (k : ∀ J, m_N J d (w_tp tl (w_dz d x)).2 → m_fr [13, 14] [18] I J → Q (w_tp tl (w_dz d x)).1 J) : rm_54 x I Q := by
  by_cases c : x = 0
  · have e1 : w_tp tl (w_dz d x) = (0, tl) := by
      unfold w_tp w_dz
      rw [if_pos c, if_pos rfl]
    rw [e1] at k
    unfold rm_54
    exact ⟨fun h => absurd c h, fun _ => k I hN (m_fr_refl _ _ _)⟩
  · have e1 : w_tp tl (w_dz d x) = (((((w_tl tl (d x.toNat)).idxOf (d x.toNat) : Nat)) : Int) + 1, w_tl tl (d x.toNat)) := by
      unfold w_tp
      rw [w_dz_pos (by omega), if_neg]
      obtain ⟨s, l, _, q⟩ := m_T_d0 T (t := x.toNat) (by omega) (by omega)
      rw [q]
      intro h
      cases h
    rw [e1] at k
    exact m_tell T hN hb (by omega) h1 k
/-- the answers of term: by sort, parts and signs of the row -/
theorem m_term {Q : Int → sr_V → Prop} {y : Int} (T : m_T I d nn) (hN : m_N I d tl) (hb : tl.length < 44998) (q0 : (w_no tl x = none ∨ y < 0 ∨ 4 < y) → Q (-1) (su I 1000 0 0)) (qs : ∀ w t, w_no tl x = some w → m_R I t → d t = w → y = 0 → Q (if I 6 t = 8 then 0 else I 6 t) (su I 1000 0 0)) (q1 : ∀ w t J, w_no tl x = some w → m_R I t → d t = w → y = 1 → m_N J d (w_tp tl (w_dz d (I 7 t))).2 → m_fr [13, 14] [0, 18] I J → Q (w_tp tl (w_dz d (I 7 t))).1 J) (q2l : ∀ w t, w_no tl x = some w → m_R I t → d t = w → y = 2 → I 6 t = 3 → Q (I 8 t) (su I 1000 0 0)) (q2 : ∀ w t J, w_no tl x = some w → m_R I t → d t = w → y = 2 → I 6 t ≠ 3 → m_N J d (w_tp tl (w_dz d (I 8 t))).2 → m_fr [13, 14] [0, 18] I J → Q (w_tp tl (w_dz d (I 8 t))).1 J) (q3 : ∀ w t J, w_no tl x = some w → m_R I t → d t = w → y = 3 → m_N J d (w_tp tl (w_dz d (I 9 t))).2 → m_fr [13, 14] [0, 18] I J → Q (w_tp tl (w_dz d (I 9 t))).1 J) (q4 : ∀ w t, w_no tl x = some w → m_R I t → d t = w → y = 4 → Q (I 11 t) (su I 1000 0 0)) : rm_31 x y I Q := by
  unfold rm_31
  intro I2 e2
  have fr0 := m_su0 I 0
  rw [← e2] at fr0 q0 qs q2l q4
  have T0 := m_T_fr fr0 (by simp) (by decide) (by decide) T
  have N0 := m_N_same (fr0.1 13 (by decide) (by decide)) (fr0.1 14 (by decide) (by decide)) (fr0.2 18 (by decide)) (fr0.2 4 (by decide)) hN
  have f4 : I2 1000 4 = I 1000 4 := fr0.2 4 (by decide)
  have hn := T.2.1
  refine m_isTold N0 (fun hno _ => ⟨fun _ => q0 (Or.inl hno), fun h => absurd rfl h⟩) (fun w t a1 a2 a3 a4 a5 a6 _ => ⟨fun h => absurd h (by decide), fun _ => ⟨fun c => q0 (Or.inr (Or.inl c)), fun c => ⟨fun c1 => ⟨by omega, by omega, ?_⟩, fun c1 => q0 (Or.inr (Or.inr c1))⟩⟩⟩)
  have a2' : m_R I t := ⟨a2.1, by have := a2.2; omega⟩
  have ht := a2'.2
  have v := (T.2.2.2.2.1 t a2'.1 a2'.2).1
  have v3 := v.2.2.1
  have v4 := v.2.2.2.1
  have v5 := v.2.2.2.2.1
  have v6 := v.2.2.2.2.2.1
  have v7 := v.2.2.2.2.2.2.1
  have v9 := v.2.2.2.2.2.2.2.2.1
  clear v
  intro v13 e13 _
  rw [a3] at e13
  subst e13
  refine ⟨by omega, by omega, ?_⟩
  intro v19 e19 _
  rw [Int.toNat_natCast, fr0.1 6 (by decide) (by decide)] at e19
  have fj : ∀ J, m_fr [13, 14] [18] I2 J → m_fr [13, 14] [0, 18] I J := fun J fr => ⟨fun g a b => (fr.1 g a b).trans (fr0.1 g (by simp) b), fun f a => by
    simp at a
    rw [fr.2 f (by simp; omega), fr0.2 f (by simp; omega)]⟩
  refine ⟨fun c2 => ⟨by omega, by omega, ?_⟩, fun c2 => ⟨fun c3 => ?_, fun c3 => ?_⟩, fun c2 => ⟨by omega, by omega, ?_⟩, fun c2 => ⟨fun c3 => ⟨by omega, by omega, ?_⟩, fun c3 => ⟨by omega, by omega, ?_⟩⟩, fun c2 => ⟨by omega, by omega, ?_⟩⟩
  · intro v25 e25 _
    rw [Int.toNat_natCast, fr0.1 11 (by decide) (by decide)] at e25
    subst e25
    exact q4 w t a1 a2' a4 (by omega)
  · have := qs w t a1 a2' a4 c2
    rw [← e19, if_neg c3] at this
    exact this
  · have := qs w t a1 a2' a4 c2
    rw [← e19, if_pos c3] at this
    exact this
  · intro v30 e30 _
    rw [Int.toNat_natCast, fr0.1 7 (by decide) (by decide)] at e30
    subst e30
    exact m_tellp T0 N0 hb v3 (by omega) (fun J hJ fr _ => q1 w t J a1 a2' a4 c2 hJ (fj J fr))
  · intro v40 e40 _
    rw [Int.toNat_natCast, fr0.1 8 (by decide) (by decide)] at e40
    subst e40
    have := v9 (by omega)
    exact m_tellp T0 N0 hb v7 (by omega) (fun J hJ fr _ => q2 w t J a1 a2' a4 c2 (by omega) hJ (fj J fr))
  · intro v50 e50 _
    rw [Int.toNat_natCast, fr0.1 8 (by decide) (by decide)] at e50
    subst e50
    exact q2l w t a1 a2' a4 c2 (by omega)
  · intro v54 e54 _
    rw [Int.toNat_natCast, fr0.1 9 (by decide) (by decide)] at e54
    subst e54
    exact m_tellp T0 N0 hb v5 (by omega) (fun J hJ fr _ => q3 w t J a1 a2' a4 c2 hJ (fj J fr))
end
end
