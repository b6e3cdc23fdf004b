/-! ===== the class: link, canMake, chain ===== -/
noncomputable section
section
variable {G H W : sw_H} {s a b c code : Int} {t p : Nat} {d : Nat → Wt} {P : Int → sw_H → Prop} {Q : sw_H → Prop}
/-- a link is laid: from the list of part p, place slot of the row of t -/
def c_lnk (H W : sw_H) (t slot : Nat) (p : Int) : Prop := c_fr [sw_rv H 3 1] H W ∧ ∀ j, sw_iv W (sw_rv H 3 1) j = if p ≠ 0 ∧ j = 14 * p.toNat + 10 then ((3 * t + slot : Nat) : Int) else if p ≠ 0 ∧ j = 14 * t + 11 + slot then sw_iv H (sw_rv H 3 1) (14 * p.toNat + 10) else sw_iv H (sw_rv H 3 1) j
theorem c_link {pi : Int} {slot : Nat} (S : c_S H) (hs : slot ≤ 2) (hp0 : 0 ≤ pi) (hpt : pi < t) (ht : 14 * t + 14 ≤ sw_ln H (sw_rv H 3 1)) (k : ∀ W, c_lnk H W t slot pi → Q W) : wm_335 3 t slot pi H Q := by
  have dl := S.2.2.2.2.2.2.1
  unfold wm_335
  refine ⟨fun c0 => k H ⟨c_fr_refl _ _, fun j => by rw [if_neg (fun z => z.1 c0), if_neg (fun z => z.1 c0)]⟩, fun c0 => ⟨S.2.1, ?_⟩⟩
  intro q1 e1
  subst e1
  refine ⟨S.2.1, ?_⟩
  intro q4 e4
  subst e4
  have i1 : sw_w (pi * 14) = pi * 14 := sw_w_s (by omega) (by omega)
  have i2 : sw_w (pi * 14 + 10) = pi * 14 + 10 := sw_w_s (by omega) (by omega)
  have i3 : sw_w ((t : Int) * 14) = (t : Int) * 14 := sw_w_s (by omega) (by omega)
  have i4 : sw_w ((t : Int) * 14 + 11) = (t : Int) * 14 + 11 := sw_w_s (by omega) (by omega)
  have i5 : sw_w ((t : Int) * 14 + 11 + (slot : Int)) = (t : Int) * 14 + 11 + (slot : Int) := sw_w_s (by omega) (by omega)
  have i6 : sw_w ((t : Int) * 3) = (t : Int) * 3 := sw_w_s (by omega) (by omega)
  have i7 : sw_w ((t : Int) * 3 + (slot : Int)) = (t : Int) * 3 + (slot : Int) := sw_w_s (by omega) (by omega)
  rw [i1, i2, i3, i4, i5, i6, i7]
  clear i1 i2 i3 i4 i5 i6 i7
  refine ⟨by omega, by omega, ?_⟩
  intro v7 e7 _
  refine ⟨by omega, by omega, ?_⟩
  intro H10 e10
  have f10 : c_fr [sw_rv H 3 1] H H10 := by rw [e10]; exact c_fr_si _ _ _ _
  refine ⟨by rw [f10.2.2.1, f10.2.2.2.2.1]; exact S.2.1, ?_⟩
  intro q13 e13
  rw [f10.2.2.2.2.1] at e13
  subst e13
  refine ⟨by omega, by rw [f10.2.2.2.1]; omega, ?_⟩
  intro H16 e16
  have f16 : c_fr [sw_rv H 3 1] H H16 := by
    rw [e16]
    exact c_fr_t f10 (c_fr_si _ _ _ _)
  refine k H16 ⟨f16, fun j => ?_⟩
  rw [e16, sw_iv_si, e10, sw_iv_si, e7]
  by_cases c1 : j = 14 * pi.toNat + 10
  · have n1 : sw_rv H 3 1 = sw_rv H 3 1 ∧ j = (pi * 14 + 10).toNat := ⟨rfl, by omega⟩
    have n2 : pi ≠ 0 ∧ j = 14 * pi.toNat + 10 := ⟨c0, c1⟩
    rw [if_pos n1, if_pos n2]
    omega
  · have n1 : ¬ (sw_rv H 3 1 = sw_rv H 3 1 ∧ j = (pi * 14 + 10).toNat) := fun z => c1 (by omega)
    have n2 : ¬ (pi ≠ 0 ∧ j = 14 * pi.toNat + 10) := fun z => c1 z.2
    rw [if_neg n1, if_neg n2]
    by_cases c2 : j = 14 * t + 11 + slot
    · have n3 : sw_rv H 3 1 = sw_rv H 3 1 ∧ j = ((t : Int) * 14 + 11 + (slot : Int)).toNat := ⟨rfl, by omega⟩
      have n4 : pi ≠ 0 ∧ j = 14 * t + 11 + slot := ⟨c0, c2⟩
      rw [if_pos n3, if_pos n4]
      congr 1
      omega
    · have n3 : ¬ (sw_rv H 3 1 = sw_rv H 3 1 ∧ j = ((t : Int) * 14 + 11 + (slot : Int)).toNat) := fun z => c2 (by omega)
      have n4 : ¬ (pi ≠ 0 ∧ j = 14 * t + 11 + slot) := fun z => c2 z.2
      rw [if_neg n3, if_neg n4]
/-- t can be made of X -/
def c_mk (H : sw_H) (X : Nat → Prop) (t : Nat) : Prop := c_d H t 0 = 1 ∨ ((c_d H t 0 = 2 ∨ c_d H t 0 = 3 ∨ c_d H t 0 = 5 ∨ c_d H t 0 = 7) ∧ X (c_d H t 1).toNat) ∨ ((c_d H t 0 = 4 ∨ c_d H t 0 = 6) ∧ X (c_d H t 1).toNat ∧ X (c_d H t 2).toNat ∧ (c_d H t 3 = 0 ∨ X (c_d H t 3).toNat))
def c_k (H : sw_H) (t : Nat) : Prop := c_d H t 9 = 1
def c_01 (H : sw_H) : Prop := ∀ t : Nat, (t : Int) ≤ c_n H → c_d H t 9 = 0 ∨ c_d H t 9 = 1
theorem c_canMake (S : c_S H) (h01 : c_01 H) (htn : (t : Int) ≤ c_n H) (hl : 14 * (c_n H + 1) ≤ sw_ln H (sw_rv H 3 1)) (s0 : 0 ≤ c_d H t 0) (s7 : c_d H t 0 ≤ 7) (a0 : 0 ≤ c_d H t 1) (a1 : c_d H t 1 ≤ c_n H) (b0 : 0 ≤ c_d H t 2) (b1 : c_d H t 0 = 4 ∨ c_d H t 0 = 6 → c_d H t 2 ≤ c_n H) (e0 : 0 ≤ c_d H t 3) (e1 : c_d H t 3 ≤ c_n H) (q1 : c_mk H (c_k H) t → P 1 H) (q0 : ¬ c_mk H (c_k H) t → P 0 H) : wm_336 3 t H P := by
  have dl := S.2.2.2.2.2.2.1
  have i14 : sw_w ((t : Int) * 14) = (t : Int) * 14 := sw_w_s (by omega) (by omega)
  have ix : ∀ (y : Int) (m : Nat), 0 ≤ y → y ≤ c_n H → m ≤ 13 → sw_w (sw_w (y * 14) + (m : Int)) = y * 14 + m ∧ 0 ≤ y * 14 + (m : Int) ∧ y * 14 + (m : Int) < sw_ln H (sw_rv H 3 1) ∧ (y * 14 + (m : Int)).toNat = 14 * y.toNat + m := fun y m h1 h2 h3 => by
    rw [sw_w_s (z := y * 14) (by omega) (by omega), sw_w_s (by omega) (by omega)]
    omega
  have it : ∀ m : Nat, m ≤ 13 → sw_w ((t : Int) * 14 + (m : Int)) = (t : Int) * 14 + m ∧ 0 ≤ (t : Int) * 14 + (m : Int) ∧ (t : Int) * 14 + (m : Int) < sw_ln H (sw_rv H 3 1) ∧ ((t : Int) * 14 + (m : Int)).toNat = 14 * t + m := fun m h3 => by
    rw [sw_w_s (by omega) (by omega)]
    omega
  -- what is known of a part
  have kn : ∀ y : Int, 0 ≤ y → y ≤ c_n H → c_d H y.toNat 9 = 0 ∨ c_d H y.toNat 9 = 1 := fun y h1 h2 => h01 y.toNat (by omega)
  unfold wm_336
  intro y55 e55
  rw [i14] at e55
  subst e55
  refine ⟨S.2.1, ?_⟩
  intro q59 e59
  subst e59
  obtain ⟨x1, x2, x3, x4⟩ := it 3 (by decide)
  simp only [Int.cast_ofNat_Int] at x1 x2 x3 x4
  rw [x1]
  refine ⟨x2, x3, ?_⟩
  intro v62 e62 _
  rw [x4] at e62
  have e62 : v62 = c_d H t 3 := e62
  subst e62
  refine ⟨S.2.1, ?_⟩
  intro q68 e68
  subst e68
  refine ⟨S.2.1, ?_⟩
  intro q71 e71
  subst e71
  obtain ⟨x1, x2, x3, x4⟩ := it 1 (by decide)
  simp only [Int.cast_ofNat_Int] at x1 x2 x3 x4
  rw [x1]
  refine ⟨x2, x3, ?_⟩
  intro v74 e74 _
  rw [x4] at e74
  have e74 : v74 = c_d H t 1 := e74
  subst e74
  obtain ⟨x1, x2, x3, x4⟩ := ix (c_d H t 1) 9 a0 a1 (by decide)
  simp only [Int.cast_ofNat_Int] at x1 x2 x3 x4
  rw [x1]
  refine ⟨x2, x3, ?_⟩
  intro v77 e77 _
  rw [x4] at e77
  have e77 : v77 = c_d H (c_d H t 1).toNat 9 := e77
  have kf := kn (c_d H t 1) a0 a1
  -- the choice
  have fin : ∀ z : Int, (z = 0 ∧ ¬ c_k H (c_d H t 1).toNat ∨ z = 1 ∧ c_k H (c_d H t 1).toNat) → wb_336_28 P 3 ((t : Int) * 14) (c_d H t 3) z H := by
    intro z hz
    have single : (c_d H t 0 = 2 ∨ c_d H t 0 = 3 ∨ c_d H t 0 = 5 ∨ c_d H t 0 = 7) → (z = 0 ∨ z = 1) ∧ P z H := by
      intro hs
      rcases hz with ⟨z0, hk⟩ | ⟨z0, hk⟩
      · rw [z0]
        refine ⟨Or.inl rfl, q0 (fun m => ?_)⟩
        rcases m with m | ⟨_, m⟩ | ⟨m, _⟩
        · omega
        · exact hk m
        · omega
      · rw [z0]
        exact ⟨Or.inr rfl, q1 (Or.inr (Or.inl ⟨hs, hk⟩))⟩
    -- two or three parts
    have more : ∀ (hs : c_d H t 0 = 4 ∨ c_d H t 0 = 6), (z = 0 → P 0 H) ∧ (z ≠ 0 → sw_ty H (sw_rv H 3 1) = 1 ∧ ∀ q11, q11 = sw_rv H 3 1 → sw_ty H (sw_rv H 3 1) = 1 ∧ ∀ q14, q14 = sw_rv H 3 1 → 0 ≤ sw_w ((t : Int) * 14 + 2) ∧ sw_w ((t : Int) * 14 + 2) < sw_ln H q14 ∧ ∀ v17, v17 = sw_iv H q14 (sw_w ((t : Int) * 14 + 2)).toNat → sw_c v17 → 0 ≤ sw_w (sw_w (v17 * 14) + 9) ∧ sw_w (sw_w (v17 * 14) + 9) < sw_ln H q11 ∧ ∀ v20, v20 = sw_iv H q11 (sw_w (sw_w (v17 * 14) + 9)).toNat → sw_c v20 → (v20 = 0 → P 0 H) ∧ (v20 ≠ 0 → (c_d H t 3 = 0 → P 1 H) ∧ (c_d H t 3 ≠ 0 → sw_ty H (sw_rv H 3 1) = 1 ∧ ∀ q23, q23 = sw_rv H 3 1 → 0 ≤ sw_w (sw_w (c_d H t 3 * 14) + 9) ∧ sw_w (sw_w (c_d H t 3 * 14) + 9) < sw_ln H q23 ∧ ∀ v26, v26 = sw_iv H q23 (sw_w (sw_w (c_d H t 3 * 14) + 9)).toNat → sw_c v26 → (v26 = 0 → P 0 H) ∧ (v26 ≠ 0 → P 1 H)))) := by
      intro hs
      have no : ∀ (hh : ¬ (c_k H (c_d H t 1).toNat ∧ c_k H (c_d H t 2).toNat ∧ (c_d H t 3 = 0 ∨ c_k H (c_d H t 3).toNat))), ¬ c_mk H (c_k H) t := fun hh m => by
        rcases m with m | ⟨m, _⟩ | ⟨_, m⟩
        · omega
        · omega
        · exact hh m
      refine ⟨fun z0 => q0 (no (fun hh => ?_)), fun z0 => ⟨S.2.1, ?_⟩⟩
      · rcases hz with ⟨_, hk⟩ | ⟨z1, _⟩
        · exact hk hh.1
        · omega
      have hk1 : c_k H (c_d H t 1).toNat := by
        rcases hz with ⟨z1, _⟩ | ⟨_, hk⟩
        · exact absurd z1 z0
        · exact hk
      intro q11 e11
      subst e11
      refine ⟨S.2.1, ?_⟩
      intro q14 e14
      subst e14
      obtain ⟨x1, x2, x3, x4⟩ := it 2 (by decide)
      simp only [Int.cast_ofNat_Int] at x1 x2 x3 x4
      rw [x1]
      refine ⟨x2, x3, ?_⟩
      intro v17 e17 _
      rw [x4] at e17
      have e17 : v17 = c_d H t 2 := e17
      subst e17
      obtain ⟨x1, x2, x3, x4⟩ := ix (c_d H t 2) 9 b0 (b1 hs) (by decide)
      simp only [Int.cast_ofNat_Int] at x1 x2 x3 x4
      rw [x1]
      refine ⟨x2, x3, ?_⟩
      intro v20 e20 _
      rw [x4] at e20
      have e20 : v20 = c_d H (c_d H t 2).toNat 9 := e20
      have kb := kn (c_d H t 2) b0 (b1 hs)
      refine ⟨fun c2 => q0 (no (fun hh => ?_)), fun c2 => ⟨fun c3 => ?_, fun c3 => ⟨S.2.1, ?_⟩⟩⟩
      · have := hh.2.1
        unfold c_k at this
        omega
      · refine q1 (Or.inr (Or.inr ⟨hs, hk1, ?_, Or.inl c3⟩))
        unfold c_k
        omega
      · intro q23 e23
        subst e23
        obtain ⟨x1, x2, x3, x4⟩ := ix (c_d H t 3) 9 e0 e1 (by decide)
        simp only [Int.cast_ofNat_Int] at x1 x2 x3 x4
        rw [x1]
        refine ⟨x2, x3, ?_⟩
        intro v26 e26 _
        rw [x4] at e26
        have e26 : v26 = c_d H (c_d H t 3).toNat 9 := e26
        have kc := kn (c_d H t 3) e0 e1
        refine ⟨fun c4 => q0 (no (fun hh => ?_)), fun c4 => q1 (Or.inr (Or.inr ⟨hs, hk1, ?_, Or.inr ?_⟩))⟩
        · rcases hh.2.2 with h | h
          · exact c3 h
          · unfold c_k at h
            omega
        · unfold c_k
          omega
        · unfold c_k
          omega
    unfold wb_336_28
    refine ⟨S.2.1, ?_⟩
    intro q4 e4
    subst e4
    obtain ⟨x1, x2, x3, x4⟩ := it 0 (by decide)
    simp only [Int.cast_ofNat_Int] at x1 x2 x3 x4
    rw [x1]
    refine ⟨x2, x3, ?_⟩
    intro v7 e7 _
    rw [x4] at e7
    have e7 : v7 = c_d H t 0 := e7
    subst e7
    refine ⟨fun c0 => single (by omega), fun c0 => q0 (fun m => ?_), fun c0 => q1 (Or.inl c0), fun c0 => single (by omega), fun c0 => single (by omega), fun c0 => more (Or.inl c0), fun c0 => single (by omega), fun c0 => more (Or.inr c0)⟩
    rcases m with m | ⟨m, _⟩ | ⟨m, _⟩ <;> omega
  refine ⟨fun c0 => fin 0 (Or.inl ⟨rfl, fun hh => ?_⟩), fun c0 => fin 1 (Or.inr ⟨rfl, ?_⟩)⟩
  · unfold c_k at hh
    omega
  · unfold c_k
    omega
/-- term t comes ahead in its bucket -/
def c_chd (H W : sw_H) (t : Nat) : Prop := (c_d H t 0 = 0 → W = H) ∧ (c_d H t 0 ≠ 0 → c_fr [sw_rv H 3 1, sw_rv H 3 5] H W ∧ (∀ j, sw_iv W (sw_rv H 3 1) j = if j = 14 * t + 7 then sw_iv H (sw_rv H 3 5) (c_bk H (c_d H t 6)).toNat else sw_iv H (sw_rv H 3 1) j) ∧ ∀ j, sw_iv W (sw_rv H 3 5) j = if j = (c_bk H (c_d H t 6)).toNat then (t : Int) else sw_iv H (sw_rv H 3 5) j)
theorem c_chain {p : Nat} (S : c_S H) (D : c_D H) (p1 : 1 ≤ p) (p2 : p ≤ 27) (hp : sw_ln H (sw_rv H 3 5) = 2 ^ p) (ht : 14 * t + 14 ≤ sw_ln H (sw_rv H 3 1)) (k : ∀ W, c_chd H W t → Q W) : wm_337 3 t H Q := by
  have dl := S.2.2.2.2.2.2.1
  have n15 := D.2.1
  have it : ∀ m : Nat, m ≤ 13 → sw_w ((t : Int) * 14 + (m : Int)) = (t : Int) * 14 + m ∧ 0 ≤ (t : Int) * 14 + (m : Int) ∧ (t : Int) * 14 + (m : Int) < sw_ln H (sw_rv H 3 1) ∧ ((t : Int) * 14 + (m : Int)).toNat = 14 * t + m := fun m h3 => by
    rw [sw_w_s (by omega) (by omega)]
    omega
  unfold wm_337
  intro y1 e1
  rw [sw_w_s (by omega) (by omega)] at e1
  subst e1
  refine ⟨S.2.1, ?_⟩
  intro q5 e5
  subst e5
  obtain ⟨x1, x2, x3, x4⟩ := it 0 (by decide)
  simp only [Int.cast_ofNat_Int] at x1 x2 x3 x4
  rw [x1]
  refine ⟨x2, x3, ?_⟩
  intro v8 e8 _
  rw [x4] at e8
  have e8 : v8 = c_d H t 0 := e8
  refine ⟨fun c0 => k H ⟨fun _ => rfl, fun hh => absurd (e8.symm.trans c0) hh⟩, fun c0 => ⟨S.2.1, ?_⟩⟩
  intro q11 e11
  subst e11
  obtain ⟨x1, x2, x3, x4⟩ := it 6 (by decide)
  simp only [Int.cast_ofNat_Int] at x1 x2 x3 x4
  rw [x1]
  refine ⟨x2, x3, ?_⟩
  intro v14 e14 _
  rw [x4] at e14
  have e14 : v14 = c_d H t 6 := e14
  refine ⟨S.2.2.2.1, ?_⟩
  intro q17 e17
  subst e17
  intro v20 e20 _
  subst e20
  intro y23 e23
  rw [e14] at e23
  have e23 : y23 = c_bk H (c_d H t 6) := e23
  have hb := c_bk_b p1 p2 hp (c_d H t 6)
  rw [← e23] at hb
  refine ⟨S.2.1, ?_⟩
  intro q27 e27
  subst e27
  refine ⟨S.2.2.2.1, ?_⟩
  intro q30 e30
  subst e30
  refine ⟨hb.1, hb.2, ?_⟩
  intro v33 e33 _
  obtain ⟨x1, x2, x3, x4⟩ := it 7 (by decide)
  simp only [Int.cast_ofNat_Int] at x1 x2 x3 x4
  rw [x1]
  refine ⟨x2, x3, ?_⟩
  intro H36 e36
  rw [x4] at e36
  have f36 : c_fr [sw_rv H 3 1] H H36 := by rw [e36]; exact c_fr_si _ _ _ _
  refine ⟨by rw [f36.2.2.1, f36.2.2.2.2.1]; exact S.2.2.2.1, ?_⟩
  intro q39 e39
  rw [f36.2.2.2.2.1] at e39
  subst e39
  refine ⟨hb.1, by rw [f36.2.2.2.1]; exact hb.2, ?_⟩
  intro H42 e42
  refine k H42 ⟨fun hh => absurd (e8.trans hh) c0, fun _ => ⟨?_, fun j => ?_, fun j => ?_⟩⟩
  · rw [e42]
    exact c_fr_sub (c_fr_trans f36 (c_fr_si _ _ _ _)) (by simp)
  · rw [e42, c_si_q n15, e36, sw_iv_si, e33, e23]
    by_cases cj : j = 14 * t + 7
    · rw [if_pos ⟨rfl, cj⟩, if_pos cj]
    · rw [if_neg (fun z => cj z.2), if_neg cj]
  · rw [e42, sw_iv_si, e36, c_si_q (Ne.symm n15), e23]
    by_cases cj : j = (c_bk H (c_d H t 6)).toNat
    · rw [if_pos ⟨rfl, cj⟩, if_pos cj]
    · rw [if_neg (fun z => cj z.2), if_neg cj]
end
end
