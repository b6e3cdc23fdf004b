/-! ===== the class: arrays that grow ===== -/
noncomputable section
section
variable {H G : sw_H} {r a b : Nat} {l : List Int} {x : Int} {Q : sw_H → Prop} {P : Int → sw_H → Prop} {R : Nat → sw_H → Prop}
theorem c_nw_ty (H : sw_H) (t n m c : Nat) : sw_ty (sw_nw H t n m) c = if c = sw_n H + 2 then t else sw_ty H c := rfl
theorem c_nw_ln (H : sw_H) (t n m c : Nat) : sw_ln (sw_nw H t n m) c = if c = sw_n H + 2 then n else sw_ln H c := rfl
theorem c_nw_iv (H : sw_H) (t n m c g : Nat) : sw_iv (sw_nw H t n m) c g = if c = sw_n H + 2 then 0 else sw_iv H c g := rfl
theorem c_nw_rv (H : sw_H) (t n m c g : Nat) : sw_rv (sw_nw H t n m) c g = if c = sw_n H + 2 then 0 else sw_rv H c g := rfl
theorem c_min {y z : Int} (p : P (if z < y then z else y) H) : wm_63 y z H P := by
  unfold wm_63
  refine ⟨fun c => ?_, fun c => ?_⟩
  · rw [if_pos c] at p; exact p
  · rw [if_neg (by omega)] at p; exact p
/-- a longer copy of an array -/
theorem c_copyOf (ht : sw_ty H a = 1) (hfree : sw_ty H (sw_n H + 2) = 0) (hx : (sw_ln H a : Int) < x) (hx1 : x ≤ 134217728) (l1 : sw_n H < sxlim.1) (l2 : sw_s H + x.toNat ≤ sxlim.2) (k : ∀ G, sw_n G = sw_n H + 1 → sw_s G = sw_s H + x.toNat → (∀ c, sw_ty G c = if c = sw_n H + 2 then 1 else sw_ty H c) → (∀ c, sw_ln G c = if c = sw_n H + 2 then x.toNat else sw_ln H c) → (∀ c g, c ≠ sw_n H + 2 → sw_iv G c g = sw_iv H c g ∧ sw_rv G c g = sw_rv H c g) → (∀ g, sw_iv G (sw_n H + 2) g = if g < sw_ln H a then sw_iv H a g else 0) → R (sw_n H + 2) G) : wm_244 a x H R := by
  have ne : a ≠ sw_n H + 2 := fun e => by rw [e, hfree] at ht; cases ht
  unfold wm_244
  intro v1 e1 _
  subst e1
  refine ⟨fun _ => ⟨by omega, hx1, l1, l2, ?_⟩, fun c => by omega⟩
  intro H4 e4 _ y8 e8 v12 e12 _
  rw [e4, c_nw_ln, if_neg ne] at e12
  subst e12
  refine c_min (fun _ _ => ?_)
  rw [if_neg (by omega)]
  have ly : sw_ln H4 y8 = x.toNat := by rw [e4, c_nw_ln, e8, if_pos rfl]
  have la : sw_ln H4 a = sw_ln H a := by rw [e4, c_nw_ln, if_neg ne]
  refine ⟨by omega, by omega, by omega, ?_⟩
  intro H20 e20
  rw [e8]
  have hn : sw_n H20 = sw_n H + 1 := by rw [e20, e4]; rfl
  refine k H20 hn (by rw [e20, e4]; rfl) (fun c => by rw [e20, e4]; rfl) (fun c => by rw [e20, e4]; rfl) (fun c g hc => ⟨?_, ?_⟩) (fun g => ?_)
  · rw [e20, sw_iv_cp, if_neg (fun z => hc (z.1.trans e8)), e4, c_nw_iv, if_neg hc]
  · have : sw_rv H20 c g = sw_rv H4 c g := by rw [e20]; rfl
    rw [this, e4, c_nw_rv, if_neg hc]
  · rw [e20, sw_iv_cp, e8]
    by_cases cg : g < sw_ln H a
    · rw [if_pos ⟨rfl, by omega, by omega⟩, if_pos cg, e4, c_nw_iv, if_neg ne]
      congr 1
      omega
    · rw [if_neg (by omega), if_neg cg, e4, c_nw_iv, if_pos rfl]
/-- whose Terms are -/
def c_ow (H : sw_H) (a : Nat) : Prop := a = 3 ∨ a = sw_rv H 3 1 ∨ a = sw_rv H 3 3 ∨ a = sw_rv H 3 5 ∨ a = sw_rv H 3 6 ∨ a = sw_rv H 3 8
/-- nothing but Terms has changed -/
def c_ft (H G : sw_H) : Prop := sw_ext H G ∧ (∀ a, sw_ty H a ≠ 0 → ¬ c_ow H a → (∀ f, sw_iv G a f = sw_iv H a f) ∧ ∀ f, sw_rv G a f = sw_rv H a f) ∧ (∀ a, c_ow G a → c_ow H a ∨ sw_ty H a = 0) ∧ sw_rv G 3 0 = sw_rv H 3 0
theorem c_ft_refl (H : sw_H) : c_ft H H := ⟨sw_ext_refl H, fun _ _ _ => ⟨fun _ => rfl, fun _ => rfl⟩, fun _ h => Or.inl h, rfl⟩
theorem c_ft_trans {K : sw_H} (h : c_ft H G) (k : c_ft G K) : c_ft H K := by
  obtain ⟨h1, h2, h3, h4⟩ := h
  obtain ⟨k1, k2, k3, k4⟩ := k
  refine ⟨sw_ext_trans h1 k1, fun a ha ho => ?_, fun a ha => ?_, k4.trans h4⟩
  · have hg : ¬ c_ow G a := fun hh => by
      rcases h3 a hh with h | h
      · exact ho h
      · exact ha h
    have t2 := (h1.2 a ha).1
    obtain ⟨x1, x2⟩ := h2 a ha ho
    obtain ⟨y1, y2⟩ := k2 a (by rw [t2]; exact ha) hg
    exact ⟨fun f => (y1 f).trans (x1 f), fun f => (y2 f).trans (x2 f)⟩
  · rcases k3 a ha with h | h
    · exact h3 a h
    · by_cases c : sw_ty H a = 0
      · exact Or.inr c
      · rw [(h1.2 a c).1] at h
        exact absurd h c
/-- the rows behind the last are empty, row 0 too -/
def c_Z (H : sw_H) : Prop := ∀ j : Nat, j < sw_ln H (sw_rv H 3 1) → (14 * (c_n H + 1) ≤ j ∨ j < 14) → sw_iv H (sw_rv H 3 1) j = 0
/-- the same, to be seen through its rows -/
def c_vw (H G : sw_H) : Prop := (∀ f, sw_iv G 3 f = sw_iv H 3 f) ∧ (∀ j : Nat, (j : Int) < 14 * (c_n H + 1) → sw_iv G (sw_rv G 3 1) j = sw_iv H (sw_rv H 3 1) j) ∧ (∀ j : Nat, (j : Int) < sw_iv H 3 4 → sw_iv G (sw_rv G 3 3) j = sw_iv H (sw_rv H 3 3) j) ∧ (∀ j, sw_iv G (sw_rv G 3 5) j = sw_iv H (sw_rv H 3 5) j) ∧ sw_ln G (sw_rv G 3 5) = sw_ln H (sw_rv H 3 5) ∧ sw_rv G 3 6 = sw_rv H 3 6 ∧ (∀ j, sw_iv G (sw_rv G 3 6) j = sw_iv H (sw_rv H 3 6) j)
theorem c_lk_vw {n : Int} (h : ∀ t : Nat, 1 ≤ t → (t : Int) ≤ n → c_d G t 7 = c_d H t 7) : ∀ (L : List Nat) (x : Int), (∀ t ∈ L, 1 ≤ t ∧ (t : Int) ≤ n) → c_lk H x L → c_lk G x L
  | [], _, _, e => e
  | t :: L, x, hm, e => ⟨e.1, e.2.1, e.2.2.1, by
    have := hm t List.mem_cons_self
    rw [h t this.1 this.2]
    exact c_lk_vw h L _ (fun u hu => hm u (List.mem_cons_of_mem _ hu)) e.2.2.2⟩
theorem c_T_vw {d : Nat → Wt} {nn : Nat} (T : c_T H d nn) (V : c_vw H G) (S : c_S G) (D : c_D G) (h1 : 14 * (c_n H + 1) ≤ sw_ln G (sw_rv G 3 1)) (h2 : sw_iv H 3 4 ≤ sw_ln G (sw_rv G 3 3)) (h3 : sw_ln G (sw_rv G 3 1) = 14 * sw_ln G (sw_rv G 3 8)) : c_T G d nn := by
  obtain ⟨S0, D0, t1, t2, t3, t4, t5, t6, t7, t8, t9, ch, c1, c2, c3⟩ := T
  obtain ⟨v1, v2, v3, v4, v5, v6, v7⟩ := V
  have en : c_n G = c_n H := v1 2
  have hd : ∀ t k : Nat, (t : Int) ≤ c_n H → k ≤ 13 → c_d G t k = c_d H t k := fun t k ht hk => v2 (14 * t + k) (by omega)
  have hsn : ∀ t, c_R H t → c_sn G t = c_sn H t := fun t ht => by
    have r := t8 t ht
    have w1 := r.2.1
    have w2 := r.2.2.1
    have w3 := r.2.2.2.1
    clear r
    have e4 := hd t 4 ht.2 (by decide)
    have e5 := hd t 5 ht.2 (by decide)
    unfold c_sn
    rw [e4, e5]
    exact m_sl_cg (fun k hk => v3 _ (by omega))
  have hR : ∀ t, c_R G t ↔ c_R H t := fun t => by unfold c_R; rw [en]
  refine ⟨S, D, by omega, by omega, by rw [v1]; exact t3, by rw [v1]; exact h2, by rw [en, v5]; exact t5, by rw [v5]; exact t6, h3, fun t ht => ?_, fun t u ht hu => t9 t u ((hR t).mp ht) ((hR u).mp hu), ch, fun b hb => ?_, fun b t h => (hR t).mpr (c2 b t h), fun t ht h0 => ?_⟩
  · have ht := (hR t).mp ht
    have r := t8 t ht
    have ht2 := ht.2
    have r1 := r.1
    unfold c_rw at r ⊢
    rw [hsn t ht, hd t 0 ht2 (by decide), hd t 1 ht2 (by decide), hd t 2 ht2 (by decide), hd t 3 ht2 (by decide), hd t 4 ht2 (by decide), hd t 5 ht2 (by decide), hd t 6 ht2 (by decide), v1 4]
    refine ⟨?_, r.2⟩
    unfold c_va at r1 ⊢
    obtain ⟨u1, u2, u3, u4, u5, u6, u7, u8, u9, u10, u11, u12, u13, u14⟩ := r1
    refine ⟨u1, u2, u3, u4, u5, u6, u7, u8, u9, u10, u11, u12, u13, fun h => ?_⟩
    obtain ⟨z1, z2, z3⟩ := u14 h
    clear u7 u8 u9 u10 u11 u12 u13 u14
    exact ⟨z1, by rw [hd _ 0 (by omega) (by decide)]; exact z2, z3⟩
  · rw [v5] at hb
    rw [v4]
    exact c_lk_vw (n := c_n H) (fun t _ ht => hd t 7 ht (by decide)) _ _ (fun t ht => c2 b t ht) (c1 b hb)
  · have ht := (hR t).mp ht
    rw [hd t 0 ht.2 (by decide)] at h0
    have := c3 t ht h0
    unfold c_bk at this ⊢
    rw [hd t 6 ht.2 (by decide), v5]
    exact this
end
end
