/-! ===== SW: heaps ===== -/
section
variable {S : List Int32} {H G : sw_H} {h : sx_H} {q d k : Nat}
theorem sw_arr (r : sw_rel S H h) (ht : sw_ty H q = d) (h0 : d ≠ 0) (h6 : d ≠ 6) : ∃ k c, q = k + 2 ∧ k < h.1 ∧ sx_get h k = some c ∧ sx_arr h (sw_p q) = some (k, c) ∧ sw_rc d (sw_ln H q) (sw_iv H q) (sw_rv H q) c := by
  obtain ⟨r1, r2, r3, r4, r5, r6, r7, r8, r9, r10, r11, r12⟩ := r
  match q, ht with
  | 0, ht => rw [r6] at ht; exact absurd ht.symm h0
  | 1, ht => rw [r7] at ht; exact absurd ht.symm h6
  | k + 2, ht =>
    by_cases hk : k < h.1
    · obtain ⟨c, hc, hr⟩ := r12 k hk
      refine ⟨k, c, rfl, hk, hc, ?_, ?_⟩
      · show sx_arr h (.ref (k + 1)) = _
        unfold sx_arr
        simp only [hc]
      · rw [← ht]; exact hr
    · have := r11 (k + 2) (by omega)
      rw [this] at ht
      exact absurd ht.symm h0
theorem sw_obj {c : Nat} (r : sw_rel S H h) (ht : sw_ty H q = 8 * c + 8) : ∃ k fs, q = k + 2 ∧ k < h.1 ∧ sx_get h k = some (.inl (c, fs)) ∧ sx_arr h (sw_p q) = some (k, .inl (c, fs)) ∧ sw_ln H q = fs.length ∧ (c < 13 → fs.length = (sxD c).length) ∧ ∀ f v, fs[f]? = some v → sw_fv v (sw_iv H q f) (sw_rv H q f) ∧ sw_kd v = sw_kd (sx_lg .null (sxD c) f) := by
  obtain ⟨k, x, e, hk, hg, ha, hr⟩ := sw_arr r ht (by omega) (by omega)
  match x, hg, ha, hr with
  | .inl (ci, fs), hg, ha, hr =>
    obtain ⟨h1, h2, h3, h4⟩ := hr
    have : ci = c := by omega
    subst this
    exact ⟨k, fs, e, hk, hg, ha, h2, h3, h4⟩
  | .inr (.inl (u, m, l)), _, _, hr => obtain ⟨h1, h2, _⟩ := hr; omega
  | .inr (.inr (.inl (m, l))), _, _, hr => obtain ⟨h1, _⟩ := hr; omega
  | .inr (.inr (.inr (ci, m, l))), _, _, hr => obtain ⟨h1, _⟩ := hr; omega
theorem sw_ints {u : Nat} (r : sw_rel S H h) (ht : sw_ty H q = u + 1) (hu : u < 3) : ∃ k l, q = k + 2 ∧ k < h.1 ∧ sx_get h k = some (.inr (.inl (u, sw_ln H q, l))) ∧ sx_arr h (sw_p q) = some (k, .inr (.inl (u, sw_ln H q, l))) ∧ sw_ln H q < 134217729 ∧ ∀ f, f < sw_ln H q → sw_iv H q f = (sx_ag 0 l f).toInt := by
  obtain ⟨k, x, e, hk, hg, ha, hr⟩ := sw_arr r ht (by omega) (by omega)
  match x, hg, ha, hr with
  | .inl (ci, fs), hg, ha, hr => obtain ⟨h1, _⟩ := hr; omega
  | .inr (.inl (v, m, l)), hg, ha, hr =>
    obtain ⟨h1, h2, h3, h4, h5⟩ := hr
    have : v = u := by omega
    subst this
    rw [h3]
    exact ⟨k, l, e, hk, hg, ha, h4, h5⟩
  | .inr (.inr (.inl (m, l))), _, _, hr => obtain ⟨h1, _⟩ := hr; omega
  | .inr (.inr (.inr (ci, m, l))), _, _, hr => obtain ⟨h1, _⟩ := hr; omega
theorem sw_longs (r : sw_rel S H h) (ht : sw_ty H q = 4) : ∃ k l, q = k + 2 ∧ k < h.1 ∧ sx_get h k = some (.inr (.inr (.inl (sw_ln H q, l)))) ∧ sx_arr h (sw_p q) = some (k, .inr (.inr (.inl (sw_ln H q, l)))) ∧ sw_ln H q < 134217729 ∧ ∀ f, f < sw_ln H q → sw_iv H q f = (sx_ag 0 l f).toInt := by
  obtain ⟨k, x, e, hk, hg, ha, hr⟩ := sw_arr r ht (by omega) (by omega)
  match x, hg, ha, hr with
  | .inl (ci, fs), hg, ha, hr => obtain ⟨h1, _⟩ := hr; omega
  | .inr (.inl (v, m, l)), hg, ha, hr => obtain ⟨h1, h2, _⟩ := hr; omega
  | .inr (.inr (.inl (m, l))), hg, ha, hr =>
    obtain ⟨h1, h3, h4, h5⟩ := hr
    rw [h3]
    exact ⟨k, l, e, hk, hg, ha, h4, h5⟩
  | .inr (.inr (.inr (ci, m, l))), _, _, hr => obtain ⟨h1, _⟩ := hr; omega
theorem sw_refs {c : Nat} (r : sw_rel S H h) (ht : sw_ty H q = 8 * c + 9) : ∃ k l, q = k + 2 ∧ k < h.1 ∧ sx_get h k = some (.inr (.inr (.inr (c, sw_ln H q, l)))) ∧ sx_arr h (sw_p q) = some (k, .inr (.inr (.inr (c, sw_ln H q, l)))) ∧ sw_ln H q < 134217729 ∧ ∀ f, f < sw_ln H q → sw_rv H q f = (match sx_ag none l f with
    | some r => r + 1
    | none => 0) := by
  obtain ⟨k, x, e, hk, hg, ha, hr⟩ := sw_arr r ht (by omega) (by omega)
  match x, hg, ha, hr with
  | .inl (ci, fs), hg, ha, hr => obtain ⟨h1, _⟩ := hr; omega
  | .inr (.inl (v, m, l)), hg, ha, hr => obtain ⟨h1, h2, _⟩ := hr; omega
  | .inr (.inr (.inl (m, l))), hg, ha, hr => obtain ⟨h1, _⟩ := hr; omega
  | .inr (.inr (.inr (ci, m, l))), hg, ha, hr =>
    obtain ⟨h1, h3, h4, h5⟩ := hr
    have : ci = c := by omega
    subst this
    rw [h3]
    exact ⟨k, l, e, hk, hg, ha, h4, h5⟩
theorem sw_rel_upd (r : sw_rel S H h) (hk : k < h.1) {c : sx_C} (e1 : sw_n G = sw_n H) (e2 : sw_s G = sw_s H) (e3 : ∀ a, sw_ty G a = sw_ty H a) (e4 : ∀ a, sw_ln G a = sw_ln H a) (e5 : ∀ b, b ≠ k + 2 → sw_iv G b = sw_iv H b ∧ sw_rv G b = sw_rv H b) (hc : sw_rc (sw_ty G (k + 2)) (sw_ln G (k + 2)) (sw_iv G (k + 2)) (sw_rv G (k + 2)) c) : sw_rel S G (sx_set h k c) := by
  obtain ⟨r1, r2, r3, r4, r5, r6, r7, r8, r9, r10, r11, r12⟩ := r
  refine ⟨?_, ?_, r3, r4, sx_set_len r5 hk c, ?_, ?_, ?_, r9, ?_, ?_, ?_⟩
  · rw [e1]; exact r1
  · rw [e2]; exact r2
  · rw [e3]; exact r6
  · rw [e3]; exact r7
  · rw [e4]; exact r8
  · intro f hf
    rw [(e5 1 (by omega)).1]
    exact r10 f hf
  · intro a ha
    rw [e3]
    exact r11 a (by rw [← e1]; exact ha)
  · intro m hm
    have hm : m < h.1 := hm
    rw [sx_get_set r5 hk c m]
    by_cases e : m = k
    · subst e
      exact ⟨c, if_pos rfl, hc⟩
    · obtain ⟨c1, g1, g2⟩ := r12 m hm
      refine ⟨c1, ?_, ?_⟩
      · rw [if_neg e]; exact g1
      · rw [e3, e4, (e5 (m + 2) (by omega)).1, (e5 (m + 2) (by omega)).2]
        exact g2
theorem sw_rel_new (r : sw_rel S H h) {c : sx_C} {t n m : Nat} (l1 : sw_n H < sxlim.1) (l2 : sw_s H + m ≤ sxlim.2) (hc : sw_rc t n (fun _ => 0) (fun _ => 0) c) : sw_rel S (sw_nw H t n m) (sx_push h m c) ∧ (t ≠ 0 → sw_ext H (sw_nw H t n m)) := by
  obtain ⟨r1, r2, r3, r4, r5, r6, r7, r8, r9, r10, r11, r12⟩ := r
  have tne : ∀ a, a ≠ sw_n H + 2 → sw_ty (sw_nw H t n m) a = sw_ty H a ∧ sw_ln (sw_nw H t n m) a = sw_ln H a ∧ sw_iv (sw_nw H t n m) a = sw_iv H a ∧ sw_rv (sw_nw H t n m) a = sw_rv H a := by
    intro a ha
    have ha : a ≠ H.1 + 2 := ha
    refine ⟨if_neg ha, if_neg ha, ?_, ?_⟩
    · funext g; exact if_neg ha
    · funext g; exact if_neg ha
  refine ⟨⟨?_, ?_, ?_, ?_, ?_, ?_, ?_, ?_, r9, ?_, ?_, ?_⟩, ?_⟩
  · show h.1 + 1 = H.1 + 1; rw [r1]; rfl
  · show h.2.1 + m = H.2.1 + m; rw [r2]; rfl
  · show h.1 + 1 ≤ _; omega
  · show h.2.1 + m ≤ _; omega
  · show h.1 + 1 = (c :: h.2.2).length; rw [r5]; rfl
  · rw [(tne 0 (by omega)).1]; exact r6
  · rw [(tne 1 (by omega)).1]; exact r7
  · rw [(tne 1 (by omega)).2.1]; exact r8
  · intro f hf; rw [(tne 1 (by omega)).2.2.1]; exact r10 f hf
  · intro a ha
    have ha : H.1 + 1 + 2 ≤ a := ha
    rw [(tne a (by show a ≠ H.1 + 2; omega)).1]
    exact r11 a (by show H.1 + 2 ≤ a; omega)
  · intro x hx
    have hx : x < h.1 + 1 := hx
    rw [sx_get_push r5 m c x]
    by_cases e : x = h.1
    · subst e
      refine ⟨c, if_pos rfl, ?_⟩
      have e2 : h.1 + 2 = H.1 + 2 := by rw [r1]; rfl
      have w1 : sw_ty (sw_nw H t n m) (h.1 + 2) = t := if_pos e2
      have w2 : sw_ln (sw_nw H t n m) (h.1 + 2) = n := if_pos e2
      have w3 : sw_iv (sw_nw H t n m) (h.1 + 2) = fun _ => 0 := by funext g; exact if_pos e2
      have w4 : sw_rv (sw_nw H t n m) (h.1 + 2) = fun _ => 0 := by funext g; exact if_pos e2
      rw [w1, w2, w3, w4]
      exact hc
    · obtain ⟨c1, g1, g2⟩ := r12 x (by omega)
      have := tne (x + 2) (by omega)
      refine ⟨c1, ?_, ?_⟩
      · rw [if_neg e]; exact g1
      · rw [this.1, this.2.1, this.2.2.1, this.2.2.2]; exact g2
  · intro ht
    refine ⟨Nat.le_succ _, fun a ha => ?_⟩
    by_cases e : a = sw_n H + 2
    · subst e
      exact absurd (r11 _ (Nat.le_refl _)) ha
    · exact ⟨(tne a e).1, (tne a e).2.1⟩
theorem sw_ext_si (H : sw_H) (q f : Nat) (z : Int) : sw_ext H (sw_si H q f z) := ⟨Nat.le_refl _, fun _ _ => ⟨rfl, rfl⟩⟩
theorem sw_ext_sr (H : sw_H) (q f r : Nat) : sw_ext H (sw_sr H q f r) := ⟨Nat.le_refl _, fun _ _ => ⟨rfl, rfl⟩⟩
theorem sw_ext_cp (H : sw_H) (a sp b dp m : Nat) : sw_ext H (sw_cp H a sp b dp m) := ⟨Nat.le_refl _, fun _ _ => ⟨rfl, rfl⟩⟩
theorem sw_iv_si (H : sw_H) (q f : Nat) (z : Int) (b g : Nat) : sw_iv (sw_si H q f z) b g = if b = q ∧ g = f then z else sw_iv H b g := rfl
theorem sw_rv_sr (H : sw_H) (q f z : Nat) (b g : Nat) : sw_rv (sw_sr H q f z) b g = if b = q ∧ g = f then z else sw_rv H b g := rfl
theorem sw_iv_cp (H : sw_H) (a sp b dp m c g : Nat) : sw_iv (sw_cp H a sp b dp m) c g = if c = b ∧ dp ≤ g ∧ g < dp + m then sw_iv H a (sp + (g - dp)) else sw_iv H c g := rfl
/-- a store into an array of ints, booleans, bytes -/
theorem sw_rel_ast {u : Nat} {l : List (List Int32)} {z : Int} {f : Nat} (r : sw_rel S H h) (hq : q = k + 2) (hk : k < h.1) (ht : sw_ty H q = u + 1) (hu : u < 3) (hn : sw_ln H q < 134217729) (hl : ∀ f, f < sw_ln H q → sw_iv H q f = (sx_ag 0 l f).toInt) (hz : sw_c z) : sw_rel S (sw_si H q f z) (sx_set h k (.inr (.inl (u, sw_ln H q, sx_as 0 l f (Int32.ofInt z))))) := by
  subst hq
  refine sw_rel_upd r hk rfl rfl (fun _ => rfl) (fun _ => rfl) (fun b hb => ⟨?_, rfl⟩) ?_
  · funext g
    rw [sw_iv_si, if_neg (fun e => hb e.1)]
  · refine ⟨ht, hu, rfl, hn, fun g hg => ?_⟩
    rw [sw_iv_si, sx_ag_as]
    by_cases e : g = f
    · rw [if_pos ⟨rfl, e⟩, if_pos e, sw_c_id hz]
    · rw [if_neg (fun x => e x.2), if_neg e]
      exact hl g hg
theorem sw_cpy (f g : List (List Int32)) (sp dp : Nat) : ∀ m x, sx_ag 0 (sx_cpy f g sp dp m) x = if dp ≤ x ∧ x < dp + m then sx_ag 0 f (sp + (x - dp)) else sx_ag 0 g x := by
  intro m
  induction m with
  | zero => intro x; rw [if_neg (by omega)]; rfl
  | succ m ih =>
    intro x
    show sx_ag 0 (sx_as 0 (sx_cpy f g sp dp m) (dp + m) (sx_ag 0 f (sp + m))) x = _
    rw [sx_ag_as, ih x]
    by_cases e : x = dp + m
    · rw [if_pos e, if_pos (by omega), e, Nat.add_sub_cancel_left]
    · rw [if_neg e]
      by_cases e2 : dp ≤ x ∧ x < dp + m
      · rw [if_pos e2, if_pos (by omega)]
      · rw [if_neg e2, if_neg (by omega)]
end
