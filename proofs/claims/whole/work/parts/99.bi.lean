/-! ===== the class: trees and groups cleared, leaves put ===== -/
noncomputable section
section
variable {H G X Y : sw_H} {d e f : Nat → Wt} {nn r ra g m : Nat} {K : Wt → Prop} {tl mk mm l : List Wt} {s a b c x cn cs N U M wo : Int} {Q : sw_H → Prop} {P : Int → sw_H → Prop} {A B : List Nat} {w wa wb : Wt} {T : w_T}
theorem c_blankT {y : Nat} (ts : c_ts H r) (hy : y < 31) (q : ∀ G, c_fr [r + 1, r + 2, r + 3] H G → (∀ i j, 1 ≤ i → i ≤ 3 → sw_iv G (r + i) j = if j = y then 0 else sw_iv H (r + i) j) → Q G) : wm_284 r y H Q := by
  obtain ⟨t1, t2, t3, t4, t5, t6, t7, t8, t9, t10, t11⟩ := ts
  unfold wm_284
  rw [t4]
  refine ⟨(t8 1 (by omega) (by omega)).1, ?_⟩
  intro q1 e1
  rw [e1]
  refine ⟨Int.natCast_nonneg _, by rw [(t8 1 (by omega) (by omega)).2]; exact w_i31 hy, ?_⟩
  intro H4 e4
  rw [Int.toNat_natCast] at e4
  have f4 : c_fr [r + 1] H H4 := by rw [e4]; exact c_fr_si _ _ _ _
  rw [f4.2.2.2.2.1, t5]
  refine ⟨by rw [f4.2.2.1]; exact (t8 2 (by omega) (by omega)).1, ?_⟩
  intro q7 e7
  rw [e7]
  refine ⟨Int.natCast_nonneg _, by rw [f4.2.2.2.1, (t8 2 (by omega) (by omega)).2]; exact w_i31 hy, ?_⟩
  intro H10 e10
  rw [Int.toNat_natCast] at e10
  have f10 : c_fr [r + 2] H4 H10 := by rw [e10]; exact c_fr_si _ _ _ _
  rw [f10.2.2.2.2.1, f4.2.2.2.2.1, t6]
  refine ⟨by rw [f10.2.2.1, f4.2.2.1]; exact (t8 3 (by omega) (by omega)).1, ?_⟩
  intro q13 e13
  rw [e13]
  refine ⟨Int.natCast_nonneg _, by rw [f10.2.2.2.1, f4.2.2.2.1, (t8 3 (by omega) (by omega)).2]; exact w_i31 hy, ?_⟩
  intro H16 e16
  rw [Int.toNat_natCast] at e16
  have f16 : c_fr [r + 3] H10 H16 := by rw [e16]; exact c_fr_si _ _ _ _
  refine q H16 (c_fr_trans f4 (c_fr_trans f10 f16)) (fun i j h1 h2 => ?_)
  have hi : i = 1 ∨ i = 2 ∨ i = 3 := by omega
  rcases hi with h | h | h <;> subst h
  · rw [f16.2.2.2.2.2 (r + 1) (by simp), f10.2.2.2.2.2 (r + 1) (by simp), e4]
    by_cases c : j = y
    · rw [if_pos c, c, c_si_eq]
    · rw [if_neg c, c_si_f c]
  · rw [f16.2.2.2.2.2 (r + 2) (by simp), e10]
    by_cases c : j = y
    · rw [if_pos c, c, c_si_eq]
    · rw [if_neg c, c_si_f c, f4.2.2.2.2.2 (r + 2) (by simp)]
  · rw [e16]
    by_cases c : j = y
    · rw [if_pos c, c, c_si_eq]
    · rw [if_neg c, c_si_f c, f10.2.2.2.2.2 (r + 3) (by simp), f4.2.2.2.2.2 (r + 3) (by simp)]
theorem c_ts_fr (h : c_ts H r) (k : c_fr A H G) : c_ts G r := by
  unfold c_ts at h ⊢
  rw [k.2.2.1, k.2.2.2.2.1, k.2.2.2.2.1, k.2.2.2.2.1, k.2.2.2.2.1, k.2.2.1, k.2.2.2.1]
  obtain ⟨h1, h2, h3, h4, h5, h6, h7, h8, h9, h10, h11⟩ := h
  refine ⟨h1, h2, h3, h4, h5, h6, h7, fun i a b => ?_, h9, h10, fun j hj => ?_⟩
  · rw [k.2.2.1, k.2.2.2.1]; exact h8 i a b
  · rw [k.2.2.2.2.1, k.2.2.1]; exact h11 j hj
theorem c_gs_fr (h : c_gs H g) (k : c_fr A H G) : c_gs G g := by
  unfold c_gs at h ⊢
  rw [k.2.2.1, k.2.2.2.2.1, k.2.2.2.2.1, k.2.2.1, k.2.2.2.1]
  obtain ⟨h1, h2, h3, h4, h5, h6, h7, h8⟩ := h
  exact ⟨h1, h2, h3, h4, h5, h6, h7, c_ts_fr h8 k⟩
theorem c_treeClear (ts : c_ts H r) (q : ∀ G, c_fr [r, r + 1, r + 2, r + 3] H G → sw_iv G r 0 = 0 → (∀ i j, 1 ≤ i → i ≤ 3 → j < 31 → sw_iv G (r + i) j = 0) → Q G) : wm_257 r H Q := by
  unfold wm_257
  intro H11 e11
  have f11 : c_fr [r, r + 1, r + 2, r + 3] H H11 := by rw [e11]; exact c_fr_sub (c_fr_si _ _ _ _) (by simp)
  have lp : ∀ (n k : Nat) {Z : sw_H}, k ≤ 31 → 31 - k < n → c_fr [r, r + 1, r + 2, r + 3] H Z → sw_iv Z r 0 = 0 → (∀ i j, 1 ≤ i → i ≤ 3 → j < k → sw_iv Z (r + i) j = 0) → wl_257_5 Q n r k Z := by
    intro n
    induction n with
    | zero => intro k Z h1 h2; omega
    | succ n ih =>
      intro k Z h1 h2 fr z0 hz
      unfold wl_257_5
      refine ⟨fun c => ?_, fun c => ?_⟩
      · have e : k = 31 := by omega
        subst e
        exact q Z fr z0 hz
      · refine c_blankT (c_ts_fr ts fr) (by omega) (fun Y fY hY _ => ?_)
        intro y6 e6
        rw [sw_w_s (by omega) (by omega)] at e6
        rw [e6, show (k : Int) + 1 = ((k + 1 : Nat) : Int) by omega]
        refine ih (k + 1) (by omega) (by omega) (c_fr_t fr (c_fr_sub fY (by simp))) (by rw [fY.2.2.2.2.2 r (by simp)]; exact z0) (fun i j a b c => ?_)
        rw [hY i j a b]
        by_cases cj : j = k
        · rw [if_pos cj]
        · rw [if_neg cj]; exact hz i j a b (by omega)
  exact ⟨32, lp 32 0 (by omega) (by omega) f11 (by rw [e11, c_si_eq]) (fun i j _ _ h => by omega)⟩
theorem c_groupClear (hg : c_gs H g) (q : ∀ G, c_fr [g, g + 1, g + 2, g + 3, g + 4, g + 22] H G → sw_iv G g 2 = 0 → sw_iv G g 3 = 0 → sw_iv G g 5 = 0 → sw_iv G (g + 1) 0 = 0 → (∀ i j, 2 ≤ i → i ≤ 4 → j < 31 → sw_iv G (g + i) j = 0) → (∀ j, j < 31 → sw_iv G (g + 22) j = 0) → Q G) : wm_153 g H Q := by
  have hg' := hg
  obtain ⟨g1, g2, g3, g4, g5, g6, g7, g8⟩ := hg
  unfold wm_153
  rw [g4]
  refine ⟨g8.2.2.1, ?_⟩
  intro q1 e1
  rw [e1]
  refine c_treeClear g8 (fun H4 f4 z0 hz _ => ?_)
  rw [f4.2.2.2.2.1, g5]
  refine ⟨by rw [f4.2.2.1]; exact g6, ?_⟩
  intro q9 e9
  rw [e9]
  have l22 : sw_ln H4 (g + 22) = 31 := by rw [f4.2.2.2.1]; exact g7
  unfold wm_59
  intro v12 e12 _
  rw [e12]
  refine ⟨32, c_fill_l (a := g + 22) (v := 0) 32 (x := 0) (H := H4) (by rw [l22]; omega) (by omega) (by omega) (by rw [l22]; decide) (fun H12 f12 h12 => ?_)⟩
  intro _ H17 e17 H20 e20 H23 e23
  have f17 : c_fr [g] H12 H17 := by rw [e17]; exact c_fr_si _ _ _ _
  have f20 : c_fr [g] H17 H20 := by rw [e20]; exact c_fr_si _ _ _ _
  have f23 : c_fr [g] H20 H23 := by rw [e23]; exact c_fr_si _ _ _ _
  have ff := c_fr_t f17 (c_fr_t f20 f23)
  refine q H23 (c_fr_sub (c_fr_trans f4 (c_fr_trans f12 ff)) (by simp [Nat.add_assoc])) ?_ ?_ ?_ ?_ (fun i j h1 h2 h3 => ?_) (fun j hj => ?_)
  · rw [e23, c_si_f (by decide), e20, c_si_f (by decide), e17, c_si_eq]
  · rw [e23, c_si_f (by decide), e20, c_si_eq]
  · rw [e23, c_si_eq]
  · rw [ff.2.2.2.2.2 (g + 1) (by simp), f12.2.2.2.2.2 (g + 1) (by simp)]; exact z0
  · rw [ff.2.2.2.2.2 (g + i) (by simp; omega), f12.2.2.2.2.2 (g + i) (by simp; omega)]
    have := hz (i - 1) j (by omega) (by omega) h3
    rw [show g + 1 + (i - 1) = g + i by omega] at this
    exact this
  · rw [ff.2.2.2.2.2 (g + 22) (by simp), h12, if_pos (by rw [l22]; omega)]
theorem c_copyLeaf {p o : Nat} (ne : p ≠ o) (q : ∀ G, c_fr [p] H G → (∀ f, f < 6 → sw_iv G p f = sw_iv H o f) → Q G) : wm_258 p o H Q := by
  unfold wm_258
  intro v1 e1 _ H4 e4 v7 e7 _ H10 e10 v13 e13 _ H16 e16 v19 e19 _ H22 e22 v25 e25 _ H28 e28 v31 e31 _ H34 e34
  have ne' : o ≠ p := fun h => ne h.symm
  have f4 : c_fr [p] H H4 := by rw [e4]; exact c_fr_si _ _ _ _
  have f10 : c_fr [p] H H10 := c_fr_t f4 (by rw [e10]; exact c_fr_si _ _ _ _)
  have f16 : c_fr [p] H H16 := c_fr_t f10 (by rw [e16]; exact c_fr_si _ _ _ _)
  have f22 : c_fr [p] H H22 := c_fr_t f16 (by rw [e22]; exact c_fr_si _ _ _ _)
  have f28 : c_fr [p] H H28 := c_fr_t f22 (by rw [e28]; exact c_fr_si _ _ _ _)
  have f34 : c_fr [p] H H34 := c_fr_t f28 (by rw [e34]; exact c_fr_si _ _ _ _)
  rw [f4.2.2.2.2.2 o (by simpa using ne')] at e7
  rw [f10.2.2.2.2.2 o (by simpa using ne')] at e13
  rw [f16.2.2.2.2.2 o (by simpa using ne')] at e19
  rw [f22.2.2.2.2.2 o (by simpa using ne')] at e25
  rw [f28.2.2.2.2.2 o (by simpa using ne')] at e31
  refine q H34 f34 (fun f hf => ?_)
  have hh : f = 0 ∨ f = 1 ∨ f = 2 ∨ f = 3 ∨ f = 4 ∨ f = 5 := by omega
  rcases hh with h | h | h | h | h | h <;> subst h
  · rw [e34, c_si_f (by decide), e28, c_si_f (by decide), e22, c_si_f (by decide), e16, c_si_f (by decide), e10, c_si_f (by decide), e4, c_si_eq, e1]
  · rw [e34, c_si_f (by decide), e28, c_si_f (by decide), e22, c_si_f (by decide), e16, c_si_f (by decide), e10, c_si_eq, e7]
  · rw [e34, c_si_f (by decide), e28, c_si_f (by decide), e22, c_si_f (by decide), e16, c_si_eq, e13]
  · rw [e34, c_si_f (by decide), e28, c_si_f (by decide), e22, c_si_eq, e19]
  · rw [e34, c_si_f (by decide), e28, c_si_eq, e25]
  · rw [e34, c_si_eq, e31]
theorem c_putLeaf {k o : Nat} (ts : c_ts H r) (hk : k < 16) (no : o < r ∨ r + 20 < o) (q : ∀ G, c_fr [r + 5 + k, r + 1, r + 2] H G → (∀ f, f < 6 → sw_iv G (r + 5 + k) f = sw_iv H o f) → (∀ j, sw_iv G (r + 1) j = if j = 2 * k then sw_iv H o 1 else sw_iv H (r + 1) j) → (∀ j, sw_iv G (r + 2) j = if j = 2 * k then sw_iv H o 4 else sw_iv H (r + 2) j) → Q G) : wm_154 r k o H Q := by
  obtain ⟨t1, t2, t3, t4, t5, t6, t7, t8, t9, t10, t11⟩ := ts
  unfold wm_154
  rw [t7]
  refine ⟨t9, ?_⟩
  intro q1 e1
  rw [e1, Int.toNat_natCast, (t11 k hk).1]
  refine ⟨by omega, by rw [t10]; omega, (t11 k hk).2, ?_⟩
  intro q4 e4
  rw [e4]
  refine c_copyLeaf (by omega) (fun H7 f7 h7 _ => ?_)
  have ov : sw_iv H7 o = sw_iv H o := f7.2.2.2.2.2 o (by simp; omega)
  rw [f7.2.2.2.2.1, t4]
  refine ⟨by rw [f7.2.2.1]; exact (t8 1 (by omega) (by omega)).1, ?_⟩
  intro q12 e12 v15 e15 _
  rw [e12, sw_w_s (by omega) (by omega), show (2 * (k : Int)) = ((2 * k : Nat) : Int) by omega]
  rw [ov] at e15
  refine ⟨by omega, by rw [f7.2.2.2.1, (t8 1 (by omega) (by omega)).2]; omega, ?_⟩
  intro H18 e18
  rw [Int.toNat_natCast] at e18
  have f18 : c_fr [r + 1] H7 H18 := by rw [e18]; exact c_fr_si _ _ _ _
  rw [f18.2.2.2.2.1, f7.2.2.2.2.1, t5]
  refine ⟨by rw [f18.2.2.1, f7.2.2.1]; exact (t8 2 (by omega) (by omega)).1, ?_⟩
  intro q21 e21 v24 e24 _
  rw [e21]
  rw [f18.2.2.2.2.2 o (by simp; omega), ov] at e24
  refine ⟨by omega, by rw [f18.2.2.2.1, f7.2.2.2.1, (t8 2 (by omega) (by omega)).2]; omega, ?_⟩
  intro H27 e27
  rw [Int.toNat_natCast] at e27
  have f27 : c_fr [r + 2] H18 H27 := by rw [e27]; exact c_fr_si _ _ _ _
  refine q H27 (c_fr_trans f7 (c_fr_trans f18 f27)) (fun f hf => ?_) (fun j => ?_) (fun j => ?_)
  · rw [f27.2.2.2.2.2 _ (by simp; omega), f18.2.2.2.2.2 _ (by simp; omega)]
    exact h7 f hf
  · rw [f27.2.2.2.2.2 _ (by simp), e18]
    by_cases c : j = 2 * k
    · rw [if_pos c, c, c_si_eq, e15]
    · rw [if_neg c, c_si_f c, f7.2.2.2.2.2 _ (by simp; omega)]
  · rw [e27]
    by_cases c : j = 2 * k
    · rw [if_pos c, c, c_si_eq, e24]
    · rw [if_neg c, c_si_f c, f18.2.2.2.2.2 _ (by simp), f7.2.2.2.2.2 _ (by simp; omega)]
/-- the group at g -/
def c_gp (H : sw_H) (mk : List Wt) (g : Nat) (G : w_G) : Prop := c_gs H g ∧ gg_ok G ∧ sw_iv H g 2 = gg_ep G ∧ sw_iv H g 3 = gg_lf G ∧ c_tr H mk (g + 1) (gg_T G) ∧ w_at mk (sw_iv H g 4) (w_th (gg_T G) 0 (t_top (gg_T G))) ∧ w_az mk (sw_iv H g 5) (gg_cf G) ∧ w_at mk (sw_iv H g 6) (gg_in G) ∧ w_at mk (sw_iv H g 7) (gg_es G) ∧ (∀ x, x < t_w (gg_T G) → w_az mk (sw_iv H (g + 22) x) (gg_hd G x)) ∧ ∀ x, t_w (gg_T G) ≤ x → x < 31 → sw_iv H (g + 22) x = 0
theorem c_gp_ch {G' : w_G} (h : c_gp H mk g G') (fl : c_full H) (ad : c_ads H) (k : c_ch A H G) (hA : ∀ a ∈ A, a < g ∨ g + 22 < a) (hl : w_le mk mm) : c_gp G mm g G' := by
  obtain ⟨h1, h2, h3, h4, h5, h6, h7, h8, h9, h10, h11⟩ := h
  have r1 := h1.1
  have r2 := h1.2.1
  have no : ∀ q, g ≤ q → q ≤ g + 22 → sw_ty H q ≠ 0 ∧ ¬ c_ow H q := fun q g1 g2 => ⟨fl q (by omega) (by omega), c_fx ad (by omega) (by omega) (by omega) (by omega)⟩
  have ev : ∀ q, g ≤ q → q ≤ g + 22 → ∀ f, sw_iv G q f = sw_iv H q f := fun q g1 g2 => (k.2.1 q (no q g1 g2).1 (no q g1 g2).2 (fun hm => by have := hA q hm; omega)).1
  refine ⟨c_gs_ch h1 fl ad k (fun a ha _ => by have := hA a ha; omega) (fun hm => by have := hA g hm; omega), h2, by rw [ev g (by omega) (by omega)]; exact h3, by rw [ev g (by omega) (by omega)]; exact h4, c_tr_ch h5 fl ad k (fun a ha => by have := hA a ha; omega) hl, by rw [ev g (by omega) (by omega)]; exact w_le_at hl h6, by rw [ev g (by omega) (by omega)]; exact w_le_az hl h7, by rw [ev g (by omega) (by omega)]; exact w_le_at hl h8, by rw [ev g (by omega) (by omega)]; exact w_le_at hl h9, fun x hx => ?_, fun x hx hx2 => ?_⟩
  · rw [ev (g + 22) (by omega) (by omega)]; exact w_le_az hl (h10 x hx)
  · rw [ev (g + 22) (by omega) (by omega)]; exact h11 x hx hx2
end
end
