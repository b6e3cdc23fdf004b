/-! ===== the class: Row.isSame, Member.leave ===== -/
noncomputable section
variable {H Z X : sw_H} {nn r1 a1 r2 a2 a : Nat} {K : Wt → Prop} {tl mk l1 l2 : List Wt} {P : Int → sw_H → Prop} {Q : sw_H → Prop} {cn cs : Int}
theorem c_is_9 (hL : c_L H mk nn K tl) (h1 : c_sg H (w_d mk) r1 a1 l1) (h2 : c_sg H (w_d mk) r2 a2 l2) (hl : l1.length = l2.length) (hb : l1.length ≤ 1400) (q1 : l1 = l2 → P 1 H) (q0 : l1 ≠ l2 → P 0 H) : ∀ (n i : Nat), i ≤ l1.length → l1.length - i < n → (∀ j, j < i → l1[j]? = l2[j]?) → wl_365_9 P n r1 r2 i H
  | 0, _, _, h, _ => by omega
  | n + 1, i, hi, hn, inv => by
    have ln1 := (c_sg_len h1).1
    unfold wl_365_9
    intro v1 e1 _
    rw [ln1] at e1
    refine ⟨fun c => q1 (List.ext_getElem? (fun j => ?_)), fun c => ?_⟩
    · rcases Nat.lt_or_ge j i with g | g
      · exact inv j g
      · rw [List.getElem?_eq_none (by omega), List.getElem?_eq_none (by omega)]
    obtain ⟨w, ew⟩ : ∃ w, l1[i]? = some w := ⟨_, List.getElem?_eq_getElem (by omega)⟩
    obtain ⟨u, eu⟩ : ∃ u, l2[i]? = some u := ⟨_, List.getElem?_eq_getElem (by omega)⟩
    obtain ⟨x1, x2, x3, x4, x5, x6⟩ := c_sg_at h1 ew
    obtain ⟨y1, y2, y3, y4, y5, y6⟩ := c_sg_at h2 eu
    rw [x5]
    refine ⟨x6, ?_⟩
    intro q4 e4
    rw [e4]
    refine ⟨by omega, by omega, ?_⟩
    intro v7 e7 _
    rw [y5]
    refine ⟨y6, ?_⟩
    intro q10 e10
    rw [e10]
    refine ⟨by omega, by omega, ?_⟩
    intro v13 e13 _
    rw [Int.toNat_natCast] at e7 e13
    refine ⟨fun c1 => ?_, fun c1 => q0 (fun e => c1 ?_)⟩
    · intro y16 e16
      rw [sw_s1 (by omega)] at e16
      rw [e16]
      refine c_is_9 hL h1 h2 hl hb q1 q0 n (i + 1) (by omega) (by omega) (fun j hj => ?_)
      by_cases ej : j = i
      · rw [ej, eu, ew, ← x3, ← y3, ← e7, ← e13, c1]
      · exact inv j (by omega)
    · rw [← e, ew] at eu
      have eu := Option.some.inj eu
      rw [e7, e13]
      exact g_sg_inj (c_g hL.1.1) x2 y2 (by rw [x3, y3, eu])
theorem c_isSame (hL : c_L H mk nn K tl) (h1 : c_sg H (w_d mk) r1 a1 l1) (h2 : c_sg H (w_d mk) r2 a2 l2) (hb : l1.length ≤ 1400) (q1 : l1 = l2 → P 1 H) (q0 : l1 ≠ l2 → P 0 H) : wm_365 r1 r2 H P := by
  unfold wm_365
  intro v22 e22 _ v25 e25 _
  rw [(c_sg_len h1).1] at e22
  rw [(c_sg_len h2).1] at e25
  refine ⟨fun c => ⟨l1.length + 1, c_is_9 hL h1 h2 (by omega) hb q1 q0 _ 0 (by omega) (by omega) (fun j hj => absurd hj (Nat.not_lt_zero _))⟩, fun c => q0 (fun e => c (by rw [e22, e25, e]))⟩
/-- who is removed leaves -/
theorem c_leave (q : ∀ Z, c_fr [a] H Z → (∀ f, sw_iv Z a f = if f = 3 then 0 else if f = 6 then -1 else if f = 9 then 0 else if f = 11 then 0 else sw_iv H a f) → Q Z) : wm_306 a H Q := by
  unfold wm_306 wm_264
  intro H1 e1 H2 e2 H3 e3 H4 e4 _
  have f1 : c_fr [a] H H1 := by rw [e1]; exact c_fr_si _ _ _ _
  have f2 : c_fr [a] H1 H2 := by rw [e2]; exact c_fr_si _ _ _ _
  have f3 : c_fr [a] H2 H3 := by rw [e3]; exact c_fr_si _ _ _ _
  have f4 : c_fr [a] H3 H4 := by rw [e4]; exact c_fr_si _ _ _ _
  refine q H4 (c_fr_t f1 (c_fr_t f2 (c_fr_t f3 f4))) (fun f => ?_)
  rw [e4]
  by_cases c11 : f = 11
  · rw [c11, c_si_eq]
    rfl
  rw [c_si_f c11, e3]
  by_cases c9 : f = 9
  · rw [c9, c_si_eq]
    rfl
  rw [c_si_f c9, e2]
  by_cases c6 : f = 6
  · rw [c6, c_si_eq]
    rfl
  rw [c_si_f c6, e1]
  by_cases c3 : f = 3
  · rw [c3, c_si_eq]
    rfl
  rw [c_si_f c3, if_neg c3, if_neg c6, if_neg c9, if_neg c11]
end
