/-! ===== the class: areLeavesOther, isUnmergedRight ===== -/
noncomputable section
variable {H Z X : sw_H} {nn r l k x c : Nat} {K S : Wt → Prop} {tl mk mm : List Wt} {cn cs N U M : Int} {P : Int → sw_H → Prop} {T : w_T}
/-- the key of a node -/
theorem c_key_0 (hL : c_L H mk nn K tl) (ht : c_tr H mk r T) (hx : x < t_w T) : sw_iv H (r + 1) x = 0 ↔ t_ky T x = [] := by
  have a := (ht.2.2.2.1 x hx).1
  rcases a with ⟨a, b⟩ | a
  · exact ⟨fun _ => b, fun _ => a⟩
  · have := (w_at_le a).1
    exact ⟨fun c => by omega, fun c => (c_at_ne hL a c).elim⟩
theorem c_lo_8 {k2 : Nat → Int → sw_H → Prop} (hL : c_L H mk nn K tl) (ht : c_tr H mk r T) {a : Nat} (ha : a < 2 ^ t_dp T) (q1 : (∀ b, b < a → t_is T a → t_is T b → t_ky T (2 * a) ≠ t_ky T (2 * b) ∧ t_ow T a ≠ t_ow T b) → k2 r ((a + 1 : Nat) : Int) H) (q0 : (¬ ∀ b, b < a → t_is T a → t_is T b → t_ky T (2 * a) ≠ t_ky T (2 * b) ∧ t_ow T a ≠ t_ow T b) → P 0 H) : ∀ (n b : Nat), b ≤ a → a - b < n → (∀ j, j < b → t_is T a → t_is T j → t_ky T (2 * a) ≠ t_ky T (2 * j) ∧ t_ow T a ≠ t_ow T j) → wl_369_8 P k2 n r a b H
  | 0, _, _, h, _ => by omega
  | n + 1, b, hb, hn, hp => by
    have h4 := ht.2.1.1
    have d16 := t_d_16 h4
    have w31 := t_w_4 h4
    have haw := (t_lf_w T a).mpr ha
    obtain ⟨_, _, _, rv1, _, _, rv4, ty3, ty4, ln4, rvk⟩ := ht.1
    have t1 := (ty3 1 (by decide) (by decide)).1
    have l1 := (ty3 1 (by decide) (by decide)).2
    unfold wl_369_8
    refine ⟨fun c => ?_, fun c => ?_⟩
    · intro y ey
      rw [sw_s1 (by omega)] at ey
      rw [ey]
      exact q1 (fun j hj => hp j (by omega))
    have bl : b < 2 ^ t_dp T := by omega
    have hbw := (t_lf_w T b).mpr bl
    have nxt : (t_is T a → t_is T b → t_ky T (2 * a) ≠ t_ky T (2 * b) ∧ t_ow T a ≠ t_ow T b) → wb_369_57 P k2 (wl_369_8 P k2 n) r a b H := fun hx => by
      unfold wb_369_57
      intro y ey
      rw [sw_s1 (by omega)] at ey
      rw [ey]
      exact c_lo_8 hL ht ha q1 q0 n (b + 1) (by omega) (by omega) (fun j hj => by
        rcases Nat.lt_or_ge j b with g | g
        · exact hp j g
        · rw [show j = b by omega]; exact hx)
    have nz : (t_is T a → t_is T b → t_ky T (2 * a) ≠ t_ky T (2 * b) ∧ t_ow T a ≠ t_ow T b) → wb_369_28 P k2 (wl_369_8 P k2 n) r a b 0 H := fun hx => by
      unfold wb_369_28
      exact ⟨fun _ => nxt hx, fun c => absurd rfl c⟩
    rw [rv1, sw_2k (by omega), sw_2k (by omega)]
    refine ⟨t1, ?_⟩
    intro q45 e45
    rw [e45]
    refine ⟨by omega, by rw [l1]; omega, ?_⟩
    intro v48 e48 _
    rw [Int.toNat_natCast] at e48
    have ka := c_key_0 hL ht haw
    rw [← e48] at ka
    refine ⟨fun c1 => nz (fun h => absurd (ka.mp c1) h.2), fun c1 => ⟨t1, ?_⟩⟩
    intro q51 e51
    rw [e51]
    refine ⟨by omega, by rw [l1]; omega, ?_⟩
    intro v54 e54 _
    rw [Int.toNat_natCast] at e54
    have kb := c_key_0 hL ht hbw
    rw [← e54] at kb
    refine ⟨fun c2 => nz (fun _ h => absurd (kb.mp c2) h.2), fun c2 => ?_⟩
    have ga : t_ky T (2 * a) ≠ [] := fun e => c1 (ka.mpr e)
    have gb : t_ky T (2 * b) ≠ [] := fun e => c2 (kb.mpr e)
    have ta : t_is T a := ⟨ha, ga⟩
    have tb : t_is T b := ⟨bl, gb⟩
    unfold wb_369_28
    refine ⟨fun c => absurd c (by decide), fun _ => ?_⟩
    rw [rv1, sw_2k (by omega), sw_2k (by omega)]
    refine ⟨t1, ?_⟩
    intro q8 e8
    rw [e8]
    refine ⟨by omega, by rw [l1]; omega, ?_⟩
    intro v11 e11 _
    refine ⟨t1, ?_⟩
    intro q14 e14
    rw [e14]
    refine ⟨by omega, by rw [l1]; omega, ?_⟩
    intro v17 e17 _
    rw [Int.toNat_natCast] at e11 e17
    have az := c_az_iff hL (ht.2.2.2.1 _ haw).1 (ht.2.2.2.1 _ hbw).1
    rw [← e11, ← e17] at az
    refine ⟨fun c3 => q0 (fun h => (h b (by omega) ta tb).1 (az.mp c3)), fun c3 => ?_⟩
    rw [rv4]
    refine ⟨ty4, ?_⟩
    intro q20 e20
    rw [e20]
    refine ⟨by omega, by rw [ln4]; omega, ?_⟩
    rw [Int.toNat_natCast, (rvk a (by omega)).1]
    refine ⟨(rvk a (by omega)).2, ?_⟩
    intro q23 e23 v26 e26 _
    refine ⟨ty4, ?_⟩
    intro q29 e29
    rw [e29]
    refine ⟨by omega, by rw [ln4]; omega, ?_⟩
    rw [Int.toNat_natCast, (rvk b (by omega)).1]
    refine ⟨(rvk b (by omega)).2, ?_⟩
    intro q32 e32 v35 e35 _
    rw [e23, (ht.2.2.2.2.2 a haw ga).1.1] at e26
    rw [e32, (ht.2.2.2.2.2 b hbw gb).1.1] at e35
    refine ⟨fun c4 => nxt (fun _ _ => ⟨fun e => c3 (az.mpr e), fun e => c4 (by rw [e26, e35]; exact e)⟩), fun c4 => q0 (fun h => (h b (by omega) ta tb).2 (by rw [← e26, ← e35]; exact c4))⟩
theorem c_lo_2 (hL : c_L H mk nn K tl) (ht : c_tr H mk r T) (q1 : t_one T → t_onm T → P 1 H) (q0 : ¬ (t_one T ∧ t_onm T) → P 0 H) : ∀ (n a : Nat), a ≤ 2 ^ t_dp T → 2 ^ t_dp T - a < n → (∀ i b, i < a → b < i → t_is T i → t_is T b → t_ky T (2 * i) ≠ t_ky T (2 * b) ∧ t_ow T i ≠ t_ow T b) → wl_369_2 P n r a H
  | 0, _, _, h, _ => by omega
  | n + 1, a, ha, hn, hp => by
    unfold wl_369_2
    refine c_leavesX ht ?_
    intro _ _
    refine ⟨fun c => q1 (fun i b hib hi hb => (hp i b (by have := hi.1; omega) hib hi hb).1) (fun i b hib hi hb => (hp i b (by have := hi.1; omega) hib hi hb).2), fun c => ?_⟩
    refine ⟨a + 1, c_lo_8 hL ht (a := a) (by omega) (fun h1 => ?_) (fun h1 => q0 (fun hh => h1 (fun b hb ta tb => ⟨hh.1 a b hb ta tb, hh.2 a b hb ta tb⟩))) _ 0 (by omega) (by omega) (fun j hj => by omega)⟩
    exact c_lo_2 hL ht q1 q0 n (a + 1) (by omega) (by omega) (fun i b hi => by
      rcases Nat.lt_or_ge i a with g | g
      · exact hp i b g
      · rw [show i = a by omega]; exact h1 b)
theorem c_areLeavesOther (hL : c_L H mk nn K tl) (ht : c_tr H mk r T) (q1 : t_one T → t_onm T → P 1 H) (q0 : ¬ (t_one T ∧ t_onm T) → P 0 H) : wm_369 r H P := by
  have hp : 0 < 2 ^ t_dp T := Nat.two_pow_pos _
  unfold wm_369
  exact ⟨2 ^ t_dp T + 1, c_lo_2 hL ht q1 q0 _ 0 (by omega) (by omega) (fun i b hi => by omega)⟩
theorem c_aboveT {l j : Nat} (hl : l < 16) (hj : j ≤ 4) (q : P ((t_ab l j : Nat) : Int) H) : wm_249 l j H P := c_above hl hj q
theorem c_ur_30 {k5 : Nat → Int → Int → Int → sw_H → Prop} (hL : c_L H mk nn K tl) (ht : c_tr H mk r T) (hx : x < t_w T) (hl : l < 2 ^ t_dp T) (q1 : (∀ j, 1 ≤ j → j < w_h x → t_ky T (t_ab l j) ≠ [] → w_bit (t_um T (t_ab l j)) l = 1) → wb_370_55 P k5 r x (w_h x : Nat) l H) (q0 : (¬ ∀ j, 1 ≤ j → j < w_h x → t_ky T (t_ab l j) ≠ [] → w_bit (t_um T (t_ab l j)) l = 1) → P 0 H) : ∀ (n j : Nat), 1 ≤ j → w_h x + 1 - j < n → (∀ i, 1 ≤ i → i < j → i < w_h x → t_ky T (t_ab l i) ≠ [] → w_bit (t_um T (t_ab l i)) l = 1) → j ≤ w_h x + 1 → wl_370_30 P k5 n r x (w_h x : Nat) l j H
  | 0, _, _, h, _, _ => by omega
  | n + 1, j, h1, hn, inv, hj => by
    have h4 := ht.2.1.1
    have d16 := t_d_16 h4
    have w31 := t_w_4 h4
    have hh := (t_h_le h4 hx).1
    obtain ⟨_, _, _, rv1, rv2, rv3, rv4, ty3, ty4, ln4, rvk⟩ := ht.1
    unfold wl_370_30
    refine ⟨fun c => q1 (fun i i1 i2 => inv i i1 (by omega) i2), fun c => ?_⟩
    have jw := t_ab_w (T := T) (k := l) (h := j) h4 hl (by omega)
    have nxt : (t_ky T (t_ab l j) ≠ [] → w_bit (t_um T (t_ab l j)) l = 1) → wb_370_53 P k5 (wl_370_30 P k5 n) r x (w_h x : Nat) l j H := fun hb => by
      unfold wb_370_53
      intro y ey
      rw [sw_s1 (by omega)] at ey
      rw [ey]
      refine c_ur_30 hL ht hx hl q1 q0 n (j + 1) (by omega) (by omega) (fun i i1 i2 => ?_) (by omega)
      by_cases e : i = j
      · rw [e]; exact fun _ => hb
      · exact inv i i1 (by omega)
    refine c_aboveT (by omega) (by omega) ?_
    intro _ _
    rw [rv1]
    refine ⟨(ty3 1 (by decide) (by decide)).1, ?_⟩
    intro q17 e17
    rw [e17]
    refine ⟨by omega, by rw [(ty3 1 (by decide) (by decide)).2]; omega, ?_⟩
    intro v20 e20 _
    rw [Int.toNat_natCast] at e20
    have ka := c_key_0 hL ht jw
    rw [← e20] at ka
    refine ⟨fun c1 => nxt (fun h => absurd (ka.mp c1) h), fun c1 => ?_⟩
    rw [rv3]
    refine ⟨(ty3 3 (by decide) (by decide)).1, ?_⟩
    intro q23 e23
    rw [e23]
    refine ⟨by omega, by rw [(ty3 3 (by decide) (by decide)).2]; omega, ?_⟩
    intro v26 e26 _
    rw [Int.toNat_natCast, (ht.2.2.2.1 _ jw).2.2] at e26
    have um := ht.2.1.2.1 _ jw
    rw [e26, sw_bit ⟨by omega, by omega⟩ (by omega)]
    refine ⟨fun c2 => nxt (fun _ => (w_bit_01 _ _).resolve_left c2), fun c2 => q0 (fun h => ?_)⟩
    have := h j h1 (by omega) (fun e => c1 (ka.mpr e))
    omega
theorem c_ur_5 (hL : c_L H mk nn K tl) (ht : c_tr H mk r T) (hx : x < t_w T) (ho : x % 2 = 1) (q1 : t_mg T x → P 1 H) (q0 : ¬ t_mg T x → P 0 H) : ∀ (n l : Nat), l ≤ 16 → 16 - l < n → (∀ b, b < l → w_bit (t_um T x) b = 1 → t_is T b ∧ t_ab b (w_h x) = x ∧ ∀ j, 1 ≤ j → j < w_h x → t_ky T (t_ab b j) ≠ [] → w_bit (t_um T (t_ab b j)) b = 1) → wl_370_5 P n r x (w_h x : Nat) l H
  | 0, _, _, h, _ => by omega
  | n + 1, l, hl, hn, inv => by
    have h4 := ht.2.1.1
    have d16 := t_d_16 h4
    have w31 := t_w_4 h4
    obtain ⟨hh1, hh2⟩ := t_h_le h4 hx
    have hh2 := hh2 ho
    obtain ⟨_, _, _, rv1, rv2, rv3, rv4, ty3, ty4, ln4, rvk⟩ := ht.1
    unfold wl_370_5
    refine ⟨fun c => q1 (fun b hb => inv b (by omega)), fun c => ?_⟩
    have nxt : (w_bit (t_um T x) l = 1 → t_is T l ∧ t_ab l (w_h x) = x ∧ ∀ j, 1 ≤ j → j < w_h x → t_ky T (t_ab l j) ≠ [] → w_bit (t_um T (t_ab l j)) l = 1) → wb_370_55 P (wl_370_5 P n) r x (w_h x : Nat) l H := fun hb => by
      unfold wb_370_55
      intro y ey
      rw [sw_s1 (by omega)] at ey
      rw [ey]
      refine c_ur_5 hL ht hx ho q1 q0 n (l + 1) (by omega) (by omega) (fun b hb' => ?_)
      by_cases e : b = l
      · rw [e]; exact hb
      · exact inv b (by omega)
    rw [rv3]
    refine ⟨(ty3 3 (by decide) (by decide)).1, ?_⟩
    intro q32 e32
    rw [e32]
    refine ⟨by omega, by rw [(ty3 3 (by decide) (by decide)).2]; omega, ?_⟩
    intro v35 e35 _
    rw [Int.toNat_natCast, (ht.2.2.2.1 _ hx).2.2] at e35
    have um := ht.2.1.2.1 _ hx
    rw [e35, sw_bit ⟨by omega, by omega⟩ (by omega)]
    refine ⟨fun c1 => nxt (fun h => by omega), fun c1 => ?_⟩
    have b1 := (w_bit_01 _ _).resolve_left c1
    refine c_hasLeaf hL ht (fun g1 g2 g3 => ?_) (fun g => ?_)
    rotate_left
    · intro _ _
      exact ⟨fun _ => q0 (fun h => g ⟨by omega, by have := (h l (by omega) b1).1.1; omega, by rw [Int.toNat_natCast]; exact (h l (by omega) b1).1.2⟩), fun c => absurd rfl c⟩
    intro _ _
    refine ⟨fun c => absurd c (by decide), fun _ => ?_⟩
    rw [Int.toNat_natCast] at g3
    have ll : l < 2 ^ t_dp T := by omega
    refine c_aboveT (by omega) (by omega) ?_
    intro _ _
    refine ⟨fun c2 => ?_, fun c2 => q0 (fun h => c2 (by rw [(h l (by omega) b1).2.1]))⟩
    have g2 : t_ab l (w_h x) = x := by omega
    exact ⟨w_h x + 1, c_ur_30 hL ht hx ll (fun h => nxt (fun _ => ⟨⟨ll, g3⟩, g2, h⟩)) (fun h => q0 (fun hh => h (hh l (by omega) b1).2.2)) _ 1 (Nat.le_refl _) (by omega) (fun i i1 i2 => by omega) (by omega)⟩
theorem c_isUnmergedRight (hL : c_L H mk nn K tl) (ht : c_tr H mk r T) (hx : x < t_w T) (ho : x % 2 = 1) (q1 : t_mg T x → P 1 H) (q0 : ¬ t_mg T x → P 0 H) : wm_370 r x H P := by
  have w31 := t_w_4 ht.2.1.1
  unfold wm_370
  refine c_height (by omega) ?_
  intro _ _
  exact ⟨17, c_ur_5 hL ht hx ho q1 q0 _ 0 (by omega) (by omega) (fun b hb => by omega)⟩
end
