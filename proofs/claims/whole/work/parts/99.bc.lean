/-! ===== the class: Crypt, leaves, trees ===== -/
noncomputable section
section
variable {H G X Y : sw_H} {d e f : Nat → Wt} {nn r ra : Nat} {K : Wt → Prop} {tl mk mm l : List Wt} {s a b c x cn cs N U M : Int} {Q : sw_H → Prop} {P : Int → sw_H → Prop} {A B : List Nat} {w wa wb : Wt} {T : w_T}
/-- Crypt, but its row -/
def c_C (H : sw_H) (mk : List Wt) : Prop := sw_ty H 11 = 32 ∧ sw_rv H 11 0 = 3 ∧ sw_rv H 11 1 = 12 ∧ sw_rv H 11 2 = 13 ∧ sw_rv H 11 3 = 14 ∧ sw_rv H 11 4 = 16 ∧ sw_rv H 11 5 = 17 ∧ (sw_ty H 12 = 1 ∧ sw_ln H 12 = 24) ∧ (sw_ty H 13 = 1 ∧ sw_ln H 13 = 24) ∧ sw_ln H 15 = 1400 ∧ (sw_ty H 16 = 1 ∧ sw_ln H 16 = 31) ∧ (sw_ty H 17 = 1 ∧ sw_ln H 17 = 144) ∧ ∀ m : Nat, m < 24 → w_at mk (sw_iv H 12 m) (w_nm m) ∧ w_at mk (sw_iv H 13 m) (w_pub m)
theorem c_C_ch (h : c_C H mk) (k : c_ch A H G) (fl : c_full H) (ad : c_ads H) (hA : ∀ a ∈ A, 13 < a ∨ a = 2) (hl : w_le mk mm) : c_C G mm := by
  have no : ∀ q, 10 < q → q ≤ 1491 → sw_ty H q ≠ 0 ∧ ¬ c_ow H q := fun q h1 h2 => ⟨fl q (by omega) h2, c_fx ad (by omega) h2 (by omega) (by omega)⟩
  have et : ∀ q, 10 < q → q ≤ 1491 → sw_ty G q = sw_ty H q ∧ sw_ln G q = sw_ln H q := fun q h1 h2 => k.1.2 q (no q h1 h2).1
  have ev : ∀ q, 10 < q → q ≤ 13 → (∀ f, sw_iv G q f = sw_iv H q f) ∧ ∀ f, sw_rv G q f = sw_rv H q f := fun q h1 h2 => k.2.1 q (no q h1 (by omega)).1 (no q h1 (by omega)).2 (fun hm => by have := hA q hm; omega)
  unfold c_C at h ⊢
  rw [(et 11 (by omega) (by omega)).1, (ev 11 (by omega) (by omega)).2, (ev 11 (by omega) (by omega)).2, (ev 11 (by omega) (by omega)).2, (ev 11 (by omega) (by omega)).2, (ev 11 (by omega) (by omega)).2, (ev 11 (by omega) (by omega)).2, (et 12 (by omega) (by omega)).1, (et 12 (by omega) (by omega)).2, (et 13 (by omega) (by omega)).1, (et 13 (by omega) (by omega)).2, (et 15 (by omega) (by omega)).2, (et 16 (by omega) (by omega)).1, (et 16 (by omega) (by omega)).2, (et 17 (by omega) (by omega)).1, (et 17 (by omega) (by omega)).2]
  obtain ⟨h1, h2, h3, h4, h5, h6, h7, h8, h9, h10, h11, h12, h13⟩ := h
  refine ⟨h1, h2, h3, h4, h5, h6, h7, h8, h9, h10, h11, h12, fun m hm => ?_⟩
  rw [(ev 12 (by omega) (by omega)).1, (ev 13 (by omega) (by omega)).1]
  exact ⟨w_le_at hl (h13 m hm).1, w_le_at hl (h13 m hm).2⟩
/-- Terms and Crypt -/
def c_W (H : sw_H) (mk : List Wt) (nn : Nat) (K : Wt → Prop) (tl : List Wt) (cn cs : Int) : Prop := c_V H mk nn K tl cn cs ∧ c_C H mk ∧ ∃ s, c_row H 14 15 s
theorem c_W_fr (h : c_W H mk nn K tl cn cs) (k : c_fr A H G) (hA : ∀ a ∈ A, c_fix a ∧ (15 < a ∨ a = 2)) : c_W G mk nn K tl cn cs := by
  obtain ⟨hV, hC, s, hr⟩ := h
  refine ⟨c_V_fr hV k (fun a ha => (hA a ha).1), c_C_ch hC (c_V_ch hV k (fun a ha => (hA a ha).1)) hV.2.2.2.1 hV.2.2.2.2 (fun a ha => by have := (hA a ha).2; omega) (w_le_refl _), s, c_row_fr hr k (fun h => by have := (hA _ h).2; omega) (fun h => by have := (hA _ h).2; omega)⟩
theorem c_W_row (h : c_W H mk nn K tl cn cs) (k : c_fr [14, 15] H G) (hr : c_rr G mk 14 15 l) : c_W G mk nn K tl cn cs := by
  obtain ⟨hV, hC, s, _⟩ := h
  have hA : ∀ a ∈ [14, 15], c_fix a := fun a ha => by simp at ha; unfold c_fix; omega
  obtain ⟨⟨sg, g1, _⟩, _⟩ := hr
  exact ⟨c_V_fr hV k hA, c_C_ch hC (c_V_ch hV k hA) hV.2.2.2.1 hV.2.2.2.2 (fun a ha => by simp at ha; omega) (w_le_refl _), sg, g1⟩
/-- where terms are made -/
theorem c_W_ch (h : c_W H mk nn K tl cn cs) {nm : Nat} {K' : Wt → Prop} {tl' : List Wt} (hG : c_V G mm nm K' tl' cn cs) (k : c_ch A H G) (hA : ∀ a ∈ A, 15 < a ∨ a = 2) (hl : w_le mk mm) : c_W G mm nm K' tl' cn cs := by
  obtain ⟨hV, hC, s, hr⟩ := h
  have f14 : c_fix 14 := by unfold c_fix; omega
  have f15 : c_fix 15 := by unfold c_fix; omega
  exact ⟨hG, c_C_ch hC k hV.2.2.2.1 hV.2.2.2.2 (fun a ha => by have := hA a ha; omega) hl, s, c_row_ch hr k (c_fix_no hV.2.2.2.2 f14) (c_fix_no hV.2.2.2.2 f15) (fun h => by have := hA _ h; omega) (fun h => by have := hA _ h; omega)⟩
/-- the row made empty -/
theorem c_W_clear (h : c_W H mk nn K tl cn cs) (k : ∀ G, c_W G mk nn K tl cn cs → c_rr G mk 14 15 [] → c_fr [14, 15] H G → sw_ln G 15 = 1400 → Q G) : wm_160 14 H Q := by
  have h' := h
  obtain ⟨hV, hC, s, hr⟩ := h
  have f14 : c_fix 14 := by unfold c_fix; omega
  have f15 : c_fix 15 := by unfold c_fix; omega
  refine c_clear hr (fun G a1 a2 => ?_)
  have a3 : c_fr [14, 15] H G := c_fr_sub a2 (by simp)
  have r : c_rr G mk 14 15 [] := by
    refine ⟨⟨[], a1, by simp, rfl⟩, f14, f15, ?_⟩
    have : sw_iv G 3 = sw_iv H 3 := a3.2.2.2.2.2 3 (by simp)
    have n := hV.1.2.1
    unfold c_n at n ⊢
    rw [this]
    exact n
  exact k G (c_W_row h' a3 r) r a3 (by rw [a3.2.2.2.1]; exact hC.2.2.2.2.2.2.2.2.2.1)
/-- publicOf -/
theorem c_pub (lm : c_lm cn cs N U M) (h : c_W H mk nn K tl cn cs) (ha : w_at mk a wa) (bd : c_bl mk tl N U M) (k : ∀ X t, c_W X (w_tl mk (w_t 5 wa [] [] [])) nn K tl cn cs → w_at (w_tl mk (w_t 5 wa [] [] [])) t (w_t 5 wa [] [] []) → c_ch [] H X → P t X) : wm_161 11 a H P := by
  have h' := h
  obtain ⟨hV, hC, _⟩ := h
  have t1 := hV.1.1.1.2.2.1
  have al := w_at_le ha
  have n4 := hV.1.2.1
  have S := hV.1.1.1.1
  have s13 := S.2.2.2.2.2.2.2.2.2.2.2.2
  have s12 := S.2.2.2.2.2.2.2.2.2.2.2.1
  have c0 := hC.2.1
  unfold wm_161
  rw [c0]
  refine ⟨S.1, ?_⟩
  intro q1 e1
  refine ⟨S.1, ?_⟩
  intro q4 e4
  rw [e4, s13]
  refine ⟨s12.1, ?_⟩
  intro q7 e7
  rw [e1, e7]
  refine c_ofL lm hV (l := []) ⟨[], s12, by simp, rfl⟩ hV.1.1.2.2.1 hV.1.1.2.2.2.1 (by simp) bd (by decide) (by unfold c_va; omega) (fun sg e => ?_) (fun X t a1 a2 a3 _ _ => k X t (c_W_ch h' a1 a3 (by simp) (w_le_tl _ _)) a2 a3)
  unfold w_tm w_t
  rw [e, if_neg (by decide), w_az_dz (Or.inr ha)]
  rfl
/-- derived -/
theorem c_der (lm : c_lm cn cs N U M) (h : c_W H mk nn K tl cn cs) (ha : w_at mk a wa) (b0 : 0 ≤ b) (b9 : b ≤ 9) (bd : c_bl mk tl N U M) (k : ∀ X t, c_W X (w_tl mk (w_t 3 wa [b.toNat] [] [])) nn K tl cn cs → w_at (w_tl mk (w_t 3 wa [b.toNat] [] [])) t (w_t 3 wa [b.toNat] [] []) → c_ch [] H X → P t X) : wm_262 11 a b H P := by
  have h' := h
  obtain ⟨hV, hC, _⟩ := h
  have t1 := hV.1.1.1.2.2.1
  have al := w_at_le ha
  have n4 := hV.1.2.1
  have S := hV.1.1.1.1
  have s13 := S.2.2.2.2.2.2.2.2.2.2.2.2
  have s12 := S.2.2.2.2.2.2.2.2.2.2.2.1
  have c0 := hC.2.1
  unfold wm_262
  rw [c0]
  refine ⟨S.1, ?_⟩
  intro q1 e1
  refine ⟨S.1, ?_⟩
  intro q4 e4
  rw [e4, s13]
  refine ⟨s12.1, ?_⟩
  intro q7 e7
  rw [e1, e7]
  refine c_ofL lm hV (l := []) ⟨[], s12, by simp, rfl⟩ hV.1.1.2.2.1 hV.1.1.2.2.2.1 (by simp) bd (by decide) (by unfold c_va; omega) (fun sg e => ?_) (fun X t a1 a2 a3 _ _ => k X t (c_W_ch h' a1 a3 (by simp) (w_le_tl _ _)) a2 a3)
  unfold w_tm w_t
  rw [e, if_pos rfl, w_az_dz (Or.inr ha)]
  rfl
/-- a LEAF, but its signature -/
def c_lf (H : sw_H) (mk : List Wt) (p : Nat) (ow : Int) (ky sk : Wt) (so : Int) (ph : Wt) : Prop := sw_iv H p 0 = ow ∧ w_at mk (sw_iv H p 1) ky ∧ w_at mk (sw_iv H p 2) sk ∧ sw_iv H p 3 = so ∧ w_az mk (sw_iv H p 4) ph ∧ 1 ≤ so ∧ so ≤ 3
theorem c_lf_iv {p : Nat} {ow so : Int} {ky sk ph : Wt} (h : c_lf H mk p ow ky sk so ph) (e : ∀ f, f < 5 → sw_iv G p f = sw_iv H p f) (hl : w_le mk mm) : c_lf G mm p ow ky sk so ph := by
  unfold c_lf at h ⊢
  rw [e 0 (by omega), e 1 (by omega), e 2 (by omega), e 3 (by omega), e 4 (by omega)]
  exact ⟨h.1, w_le_at hl h.2.1, w_le_at hl h.2.2.1, h.2.2.2.1, w_le_az hl h.2.2.2.2.1, h.2.2.2.2.2⟩
theorem c_writeTo {p : Nat} {ow so z : Int} {ky sk ph sg : Wt} (hL : c_L H mk nn K tl) (hm : mk.length ≤ 999999999) (h : c_rr H mk r ra l) (hc : l.length + 7 ≤ sw_ln H ra) (hp : c_lf H mk p ow ky sk so ph) (hz : z ≠ 0 → w_at mk (sw_iv H p 5) sg) (np : p ≠ r ∧ p ≠ ra) (k : ∀ G, c_rr G mk r ra (l ++ w_lh ow ky sk so ph ++ (if z ≠ 0 then [sg] else [])) → c_fr [r, ra] H G → Q G) : wm_162 p r z H Q := by
  have pv : ∀ G, c_fr [r, ra] H G → sw_iv G p = sw_iv H p := fun G f => f.2.2.2.2.2 p (by simp; exact np)
  have ln : ∀ G, c_fr [r, ra] H G → sw_ln G ra = sw_ln H ra := fun G f => f.2.2.2.1 ra
  obtain ⟨p0, p1, p2, p3, p4, p5, p6⟩ := hp
  unfold wm_162
  intro v15 e15 _
  rw [p0] at e15
  subst e15
  refine c_s_b16 h (by omega) (fun H1 r1 f1 _ => ?_)
  intro v23 e23 _
  rw [pv H1 f1] at e23
  subst e23
  refine c_s_term r1 (by rw [ln H1 f1, List.length_append]; simp [w_b16]; omega) (by omega) p1 (fun H2 r2 f2 _ => ?_)
  have f12 := c_fr_t f1 f2
  intro v31 e31 _
  rw [pv H2 f12] at e31
  subst e31
  refine c_s_term r2 (by rw [ln H2 f12]; simp [w_b16]; omega) (by omega) p2 (fun H3 r3 f3 _ => ?_)
  have f13 := c_fr_t f12 f3
  intro v39 e39 _
  rw [pv H3 f13, p3] at e39
  subst e39
  refine c_s_byte r3 (by rw [ln H3 f13]; simp [w_b16]; omega) (by omega) (by omega) (fun H4 r4 f4 _ => ?_)
  have f14 := c_fr_t f13 f4
  have last : ∀ H5 l5, c_rr H5 mk r ra l5 → l5.length < sw_ln H ra → c_fr [r, ra] H H5 → l5 = l ++ w_lh v15 ky sk v39 ph → wb_162_35 Q p r z H5 := by
    intro H5 l5 r5 h5 f5 e5
    unfold wb_162_35
    refine ⟨fun c => ?_, fun c => ?_⟩
    · rw [if_neg (by simpa using c), List.append_nil, ← e5] at k
      exact k H5 r5 f5
    · intro v1 e1 _
      rw [pv H5 f5] at e1
      subst e1
      refine c_s_term r5 (by rw [ln H5 f5]; exact h5) (by omega) (hz c) (fun H6 r6 f6 _ => ?_)
      rw [if_pos c, ← e5] at k
      exact k H6 r6 (c_fr_t f5 f6)
  intro v47 e47 _
  rw [pv H4 f14, p3] at e47
  subst e47
  refine ⟨fun c => ?_, fun c => ?_⟩
  · refine last H4 _ r4 (by simp [w_b16]; omega) f14 ?_
    unfold w_lh
    rw [if_neg c]
    simp
  · intro v50 e50 _
    have last2 : ∀ y, m_vs mk.length y ∧ w_sg (w_d mk) y = w_pb ph → wb_162_34 Q p r z y r H4 := by
      intro y hy
      unfold wb_162_34
      refine c_s_put r4 (by rw [ln H4 f14]; simp [w_b16]; omega) hy (fun H5 r5 f5 _ => ?_)
      refine last H5 _ r5 (by simp [w_b16]; omega) (c_fr_t f14 f5) ?_
      unfold w_lh
      rw [if_pos c]
      simp
    rw [pv H4 f14] at e50
    have pb := w_az_le p4
    refine ⟨fun c0 => ?_, fun c0 => last2 0 ?_⟩
    · intro v53 e53 _
      rw [pv H4 f14] at e53
      rw [sw_w_s (by omega) (by omega)]
      refine last2 _ ?_
      rcases p4 with ⟨g, _⟩ | g
      · rw [← e50] at g; exact absurd g c0
      · have := w_sg_term g
        rw [e53]
        refine ⟨this.1, ?_⟩
        rw [this.2]
        unfold w_pb
        rw [if_neg (c_at_ne hL g)]
    · have := w_sg_byte (mk := mk) (x := 0) (by omega) (by omega)
      refine ⟨this.1, ?_⟩
      rw [this.2]
      unfold w_pb
      rcases p4 with ⟨g, g2⟩ | g
      · rw [if_pos g2]
      · have := w_at_le g
        omega
/-- the cells of a tree -/
def c_ts (H : sw_H) (r : Nat) : Prop := 17 < r ∧ r + 20 ≤ 1491 ∧ sw_ty H r = 104 ∧ sw_rv H r 1 = r + 1 ∧ sw_rv H r 2 = r + 2 ∧ sw_rv H r 3 = r + 3 ∧ sw_rv H r 4 = r + 4 ∧ (∀ i, 1 ≤ i → i ≤ 3 → sw_ty H (r + i) = 1 ∧ sw_ln H (r + i) = 31) ∧ sw_ty H (r + 4) = 49 ∧ sw_ln H (r + 4) = 16 ∧ ∀ k, k < 16 → sw_rv H (r + 4) k = r + 5 + k ∧ sw_ty H (r + 5 + k) = 48
/-- the tree there -/
def c_tr (H : sw_H) (mk : List Wt) (r : Nat) (T : w_T) : Prop := c_ts H r ∧ t_ok T ∧ sw_iv H r 0 = t_dp T ∧ (∀ x, x < t_w T → w_az mk (sw_iv H (r + 1) x) (t_ky T x) ∧ w_az mk (sw_iv H (r + 2) x) (t_ph T x) ∧ sw_iv H (r + 3) x = t_um T x) ∧ (∀ x, t_w T ≤ x → x < 31 → sw_iv H (r + 1) x = 0 ∧ sw_iv H (r + 2) x = 0 ∧ sw_iv H (r + 3) x = 0) ∧ ∀ k, 2 * k < t_w T → t_ky T (2 * k) ≠ [] → c_lf H mk (r + 5 + k) (t_ow T k) (t_ky T (2 * k)) (t_sk T k) (t_so T k) (t_ph T (2 * k)) ∧ w_at mk (sw_iv H (r + 5 + k) 5) (t_sg T k)
theorem c_ts_ch (h : c_ts H r) (fl : c_full H) (ad : c_ads H) (k : c_ch A H G) (hA : ∀ a ∈ A, a ≠ r ∧ a ≠ r + 4) : c_ts G r := by
  obtain ⟨h1, h2, h3, h4, h5, h6, h7, h8, h9, h10, h11⟩ := h
  have no : ∀ q, r ≤ q → q ≤ r + 20 → sw_ty H q ≠ 0 ∧ ¬ c_ow H q := fun q g1 g2 => ⟨fl q (by omega) (by omega), c_fx ad (by omega) (by omega) (by omega) (by omega)⟩
  have et : ∀ q, r ≤ q → q ≤ r + 20 → sw_ty G q = sw_ty H q ∧ sw_ln G q = sw_ln H q := fun q g1 g2 => k.1.2 q (no q g1 g2).1
  have e0 := (k.2.1 r (no r (by omega) (by omega)).1 (no r (by omega) (by omega)).2 (fun hm => (hA r hm).1 rfl)).2
  have e4 := (k.2.1 (r + 4) (no _ (by omega) (by omega)).1 (no _ (by omega) (by omega)).2 (fun hm => (hA _ hm).2 rfl)).2
  refine ⟨h1, h2, by rw [(et r (by omega) (by omega)).1]; exact h3, by rw [e0]; exact h4, by rw [e0]; exact h5, by rw [e0]; exact h6, by rw [e0]; exact h7, fun i i1 i2 => ?_, by rw [(et _ (by omega) (by omega)).1]; exact h9, by rw [(et _ (by omega) (by omega)).2]; exact h10, fun k hk => ?_⟩
  · rw [(et _ (by omega) (by omega)).1, (et _ (by omega) (by omega)).2]; exact h8 i i1 i2
  · rw [e4, (et _ (by omega) (by omega)).1]; exact h11 k hk
theorem c_tr_ch (h : c_tr H mk r T) (fl : c_full H) (ad : c_ads H) (k : c_ch A H G) (hA : ∀ a ∈ A, a < r ∨ r + 20 < a) (hl : w_le mk mm) : c_tr G mm r T := by
  obtain ⟨h1, h2, h3, h4, h5, h6⟩ := h
  have r1 := h1.1
  have r2 := h1.2.1
  have no : ∀ q, r ≤ q → q ≤ r + 20 → sw_ty H q ≠ 0 ∧ ¬ c_ow H q := fun q g1 g2 => ⟨fl q (by omega) (by omega), c_fx ad (by omega) (by omega) (by omega) (by omega)⟩
  have ev : ∀ q, r ≤ q → q ≤ r + 20 → ∀ f, sw_iv G q f = sw_iv H q f := fun q g1 g2 => (k.2.1 q (no q g1 g2).1 (no q g1 g2).2 (fun hm => by have := hA q hm; omega)).1
  have w31 := t_w31 h2.1
  refine ⟨c_ts_ch h1 fl ad k (fun a ha => by have := hA a ha; omega), h2, by rw [ev r (by omega) (by omega)]; exact h3, fun x hx => ?_, fun x hx hx2 => ?_, fun j hj hn => ?_⟩
  · rw [ev (r + 1) (by omega) (by omega), ev (r + 2) (by omega) (by omega), ev (r + 3) (by omega) (by omega)]
    exact ⟨w_le_az hl (h4 x hx).1, w_le_az hl (h4 x hx).2.1, (h4 x hx).2.2⟩
  · rw [ev (r + 1) (by omega) (by omega), ev (r + 2) (by omega) (by omega), ev (r + 3) (by omega) (by omega)]
    exact h5 x hx hx2
  · refine ⟨c_lf_iv (h6 j hj hn).1 (fun f _ => ev _ (by omega) (by omega) f) hl, ?_⟩
    rw [ev _ (by omega) (by omega)]
    exact w_le_at hl (h6 j hj hn).2
end
end
