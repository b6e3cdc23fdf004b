/-! ===== what SF computes, SI computes: instruction by instruction ===== -/
variable {S : List Int32} {q : Nat}
theorem sy_i0_s : sy_snd S q sy_i0 sx_i0 := by
  intro ρ E en ls st T ls' st' h a hc hE hl hs H e
  cases e
  exact ⟨_, _, _, rfl, hl, ⟨_, _, rfl, rfl, hs⟩, H⟩
theorem sy_i1_s : sy_snd S q sy_i1 sx_i1 := by
  intro ρ E en ls st T ls' st' h a hc hE hl hs H e
  unfold sy_i1 at e
  split at e
  · next x hx =>
    cases e
    obtain ⟨v, h1, h2⟩ := sy_lk_ok hl hx
    have h2 : v = .int x := h2
    subst h2
    exact ⟨ls', .int x :: st', h, by simp only [sx_i1, h1], hl, ⟨_, _, rfl, rfl, hs⟩, H⟩
  · next k hx =>
    cases e
    obtain ⟨v, h1, x, rfl, h2⟩ := sy_lk_ok hl hx
    exact ⟨ls', .int x :: st', h, by simp only [sx_i1, h1], hl, ⟨_, _, rfl, ⟨x, rfl, h2⟩, hs⟩, H⟩
  · cases e
theorem sy_i2_s : sy_snd S q sy_i2 sx_i2 := by
  intro ρ E en ls st T ls' st' h a hc hE hl hs H e
  unfold sy_i2 at e
  split at e
  · next x hx =>
    cases e
    obtain ⟨v, h1, h2⟩ := sy_lk_ok hl hx
    have h2 : v = .ref x := h2
    subst h2
    exact ⟨ls', .ref x :: st', h, by simp only [sx_i2, h1], hl, ⟨_, _, rfl, rfl, hs⟩, H⟩
  · cases e
theorem sy_i3_s : sy_snd S q sy_i3 sx_i3 := by
  intro ρ E en ls st T ls' st' h a hc hE hl hs H e
  unfold sy_i3 at e
  split at e
  · next x r =>
    cases e
    obtain ⟨v, r', rfl, hv, hr⟩ := hs
    have hv : v = .int x := hv
    subst hv
    exact ⟨_, _, h, rfl, sy_st_ok _ hl rfl, hr, H⟩
  · next k r =>
    cases e
    obtain ⟨v, r', rfl, ⟨x, rfl, hx⟩, hr⟩ := hs
    exact ⟨_, _, h, rfl, sy_st_ok _ hl ⟨x, rfl, hx⟩, hr, H⟩
  · cases e
theorem sy_i4_s : sy_snd S q sy_i4 sx_i4 := by
  intro ρ E en ls st T ls' st' h a hc hE hl hs H e
  unfold sy_i4 at e
  split at e
  · next x r =>
    cases e
    obtain ⟨v, r', rfl, hv, hr⟩ := hs
    have hv : v = .ref x := hv
    subst hv
    exact ⟨_, _, h, rfl, sy_st_ok _ hl rfl, hr, H⟩
  · cases e
theorem sy_i5_s : sy_snd S q sy_i5 sx_i5 := by
  intro ρ E en ls st T ls' st' h a hc hE hl hs H e
  unfold sy_i5 at e
  split at e
  · next w hw =>
    split at e
    · next x hx =>
      cases e
      obtain ⟨v, h1, h2⟩ := sy_lk_ok hl hw
      have h2 := sy_c_ok hE hx h2
      subst h2
      exact ⟨_, st', h, by simp only [sx_i5, h1], sy_st_ok _ hl rfl, hs, H⟩
    · cases e
  · cases e
theorem sy_i6_s : sy_snd S q sy_i6 sx_i6 := by
  intro ρ E en ls st T ls' st' h a hc hE hl hs H e
  unfold sy_i6 at e
  split at e
  · next w r =>
    obtain ⟨v, r', rfl, hv, hr⟩ := hs
    rw [sy_cat_ok hv] at e
    cases hb : Nat.beq v.category 1 with
    | false => rw [hb] at e; cases e
    | true =>
      rw [hb] at e
      cases e
      exact ⟨_, _, h, by simp only [sx_i6, hb, cond_true], hl, hr, H⟩
  · cases e
theorem sy_i7_s : sy_snd S q sy_i7 sx_i7 := by
  intro ρ E en ls st T ls' st' h a hc hE hl hs H e
  unfold sy_i7 at e
  split at e
  · next w r =>
    obtain ⟨v, r', rfl, hv, hr⟩ := hs
    rw [sy_cat_ok hv] at e
    cases hb : Nat.beq v.category 1 with
    | false => rw [hb] at e; cases e
    | true =>
      rw [hb] at e
      cases e
      exact ⟨_, _, h, by simp only [sx_i7, hb, cond_true], hl, ⟨_, _, rfl, hv, _, _, rfl, hv, hr⟩, H⟩
  · cases e
theorem sy_i8_s : sy_snd S q sy_i8 sx_i8 := by
  intro ρ E en ls st T ls' st' h a hc hE hl hs H e
  unfold sy_i8 at e
  split at e
  · next w1 w2 r =>
    obtain ⟨v1, r1, rfl, hv1, v2, r2, rfl, hv2, hr⟩ := hs
    rw [sy_cat_ok hv1, sy_cat_ok hv2] at e
    cases hb : (Nat.beq v1.category 1 && Nat.beq v2.category 1) with
    | false => rw [hb] at e; cases e
    | true =>
      rw [hb] at e
      cases e
      exact ⟨_, _, h, by simp only [sx_i8, hb, cond_true], hl, ⟨_, _, rfl, hv1, _, _, rfl, hv2, _, _, rfl, hv1, _, _, rfl, hv2, hr⟩, H⟩
  · cases e
theorem sy_bin_s (f : Int32 → Int32 → Int32) : sy_snd S q (sy_bin f) (sx_bin f) := by
  intro ρ E en ls st T ls' st' h a hc hE hl hs H e
  unfold sy_bin at e
  split at e
  · next y x r =>
    obtain ⟨vy, r1, rfl, hy, vx, r2, rfl, hx, hr⟩ := hs
    split at e
    · next x1 y1 ex ey =>
      cases e
      have e1 := sy_c_ok hE ex hx
      have e2 := sy_c_ok hE ey hy
      subst e1 e2
      exact ⟨_, _, h, rfl, hl, ⟨_, _, rfl, rfl, hr⟩, H⟩
    · cases hb : (sy_isI x && sy_isI y) with
      | false => rw [hb] at e; cases e
      | true =>
        rw [hb] at e
        cases e
        rw [Bool.and_eq_true] at hb
        obtain ⟨x1, rfl⟩ := sy_isI_ok hb.1 hx
        obtain ⟨y1, rfl⟩ := sy_isI_ok hb.2 hy
        exact ⟨_, _, h, rfl, hl, ⟨_, _, rfl, ⟨_, rfl, fun h9 => by omega⟩, hr⟩, H⟩
  · cases e
theorem sy_and_s : sy_snd S q sy_and (sx_bin (fun x y => x &&& y)) := by
  intro ρ E en ls st T ls' st' h a hc hE hl hs H e
  unfold sy_and at e
  split at e
  · next c r =>
    obtain ⟨vy, r1, rfl, hy, vx, r2, rfl, ⟨x, rfl, hx⟩, hr⟩ := hs
    have hy : vy = .int c := hy
    subst hy
    cases hb : decide (c = 31) with
    | false => rw [hb] at e; cases e
    | true =>
      rw [hb] at e
      cases e
      have hb := of_decide_eq_true hb
      subst hb
      exact ⟨_, _, h, rfl, hl, ⟨_, _, rfl, ⟨_, rfl, fun _ => by rw [hx (by omega), hc.2]⟩, hr⟩, H⟩
  · exact sy_bin_s _ ρ E en ls st T ls' st' h a hc hE hl hs H e
theorem sy_div_s (f : Int32 → Int32 → Int32) : sy_snd S q (sy_div f) (sx_div f) := by
  intro ρ E en ls st T ls' st' h a hc hE hl hs H e
  unfold sy_div at e
  split at e
  · next y x r =>
    obtain ⟨vy, r1, rfl, hy, vx, r2, rfl, hx, hr⟩ := hs
    split at e
    · next x1 y1 ex ey =>
      have e1 := sy_c_ok hE ex hx
      have e2 := sy_c_ok hE ey hy
      subst e1 e2
      by_cases h0 : y1 = 0
      · rw [if_pos h0] at e; cases e
      · rw [if_neg h0] at e
        cases e
        exact ⟨_, _, h, by simp only [sx_div, if_neg h0], hl, ⟨_, _, rfl, rfl, hr⟩, H⟩
    · cases e
  · cases e
theorem sy_i20_s : sy_snd S q sy_i20 sx_i20 := by
  intro ρ E en ls st T ls' st' h a hc hE hl hs H e
  unfold sy_i20 at e
  split at e
  · next x r =>
    obtain ⟨vx, r1, rfl, hx, hr⟩ := hs
    split at e
    · next x1 ex =>
      cases e
      have e1 := sy_c_ok hE ex hx
      subst e1
      exact ⟨_, _, h, rfl, hl, ⟨_, _, rfl, rfl, hr⟩, H⟩
    · cases e
  · cases e
theorem sy_i21_s : sy_snd S q sy_i21 sx_i21 := by
  intro ρ E en ls st T ls' st' h a hc hE hl hs H e
  unfold sy_i21 at e
  split at e
  · next x r =>
    obtain ⟨vx, r1, rfl, hx, hr⟩ := hs
    split at e
    · next x1 ex =>
      cases e
      have e1 := sy_c_ok hE ex hx
      subst e1
      exact ⟨_, _, h, rfl, hl, ⟨_, _, rfl, rfl, hr⟩, H⟩
    · cases hb : sy_isI x with
      | false => rw [hb] at e; cases e
      | true =>
        rw [hb] at e
        cases e
        obtain ⟨x1, rfl⟩ := sy_isI_ok hb hx
        exact ⟨_, _, h, rfl, hl, ⟨_, _, rfl, ⟨_, rfl, fun h9 => by omega⟩, hr⟩, H⟩
  · cases e
theorem sy_i22_s : sy_snd S q sy_i22 sx_i22 := by
  intro ρ E en ls st T ls' st' h a hc hE hl hs H e
  unfold sy_i22 at e
  split at e
  · next y x r =>
    cases e
    obtain ⟨vy, r1, rfl, hy, vx, r2, rfl, hx, hr⟩ := hs
    have hy : vy = .long y := hy
    have hx : vx = .long x := hx
    subst hx hy
    exact ⟨_, _, h, rfl, hl, ⟨_, _, rfl, rfl, hr⟩, H⟩
  · cases e
theorem sy_if1_s (r : Nat) (hr : r < 6) (f : Int32 → Bool) (hf : ∀ x, f x = sy_rel r x 0) : sy_snd S q (sy_if1 r) (sx_if1 f) := by
  intro ρ E en ls st T ls' st' h a hc hE hl hs H e
  unfold sy_if1 at e
  split at e
  · next x s =>
    obtain ⟨vx, r1, rfl, hx, hs⟩ := hs
    split at e
    · next lo hi ei =>
      obtain ⟨x1, rfl, h1, h2⟩ := sy_iv_ok hE ei hx
      split at e
      · next z ez =>
        cases e
        have hz := sy_dec_ok hr ez h1 h2 (y := 0) (by decide) (by decide)
        rw [← hf] at hz
        exact ⟨_, _, h, by simp only [sx_if1, hz], hl, hs, H⟩
      · cases e
    · cases e
  · cases e
theorem sy_if2_s (r : Nat) (hr : r < 6) (f : Int32 → Int32 → Bool) (hf : ∀ x y, f x y = sy_rel r x y) : sy_snd S q (sy_if2 r) (sx_if2 f) := by
  intro ρ E en ls st T ls' st' h a hc hE hl hs H e
  unfold sy_if2 at e
  split at e
  · next y x s =>
    obtain ⟨vy, r1, rfl, hy, vx, r2, rfl, hx, hs⟩ := hs
    split at e
    · next a1 b1 c1 d1 ei ej =>
      obtain ⟨x1, rfl, h1, h2⟩ := sy_iv_ok hE ei hx
      obtain ⟨y1, rfl, h3, h4⟩ := sy_iv_ok hE ej hy
      split at e
      · next z ez =>
        cases e
        have hz := sy_dec_ok hr ez h1 h2 h3 h4
        rw [← hf] at hz
        exact ⟨_, _, h, by simp only [sx_if2, hz], hl, hs, H⟩
      · cases e
    · cases e
  · cases e
theorem sy_i35_s : sy_snd S q sy_i35 sx_i35 := by
  intro ρ E en ls st T ls' st' h a hc hE hl hs H e
  cases e
  exact ⟨_, _, _, rfl, hl, hs, H⟩
theorem sy_i36_s (cd : List (List sx_N)) : sy_snd S q (sy_i36 cd) (sx_i36 cd) := by
  intro ρ E en ls st T ls' st' h a hc hE hl hs H e
  unfold sy_i36 at e
  split at e
  · next d lo hi offs x r ei =>
    obtain ⟨vx, r1, rfl, hx, hr⟩ := hs
    split at e
    · next x1 ex =>
      have e1 := sy_c_ok hE ex hx
      subst e1
      split at e
      · next t et =>
        cases e
        exact ⟨_, _, h, by simp only [sx_i36, ei, et], hl, hr, H⟩
      · cases e
    · split at e
      · next lo1 hi1 ev =>
        obtain ⟨x1, rfl, h1, h2⟩ := sy_iv_ok hE ev hx
        cases hb : (Nat.blt hi1 (lo + 2147483648).toNat || Nat.blt (hi + 2147483648).toNat lo1) with
        | false => rw [hb] at e; cases e
        | true =>
          rw [hb] at e
          rw [Bool.or_eq_true, Nat.blt_eq, Nat.blt_eq] at hb
          have hout : x1.toInt < lo ∨ hi < x1.toInt := by
            rw [sy_toInt]
            omega
          have e : (match sx_to cd ((en.2.2.2.1 : Int) + d) with
            | some t => some (some t, ls, r, T)
            | none => none) = some a := e
          split at e
          · next t et =>
            cases e
            exact ⟨_, _, h, by simp only [sx_i36, ei, sx_sw, if_pos hout, et], hl, hr, H⟩
          · cases e
      · cases e
  · cases e
