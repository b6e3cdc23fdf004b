/-! ===== the class: isSideRight, isSound, areLeavesSigned, leafOf, isSame of leaves ===== -/
noncomputable section
variable {H H0 Z X : sw_H} {nn r l k x c o p p2 : Nat} {K S : Wt → Prop} {tl mk m0 mm : List Wt} {cn cs N U M mo : Int} {P : Int → sw_H → Prop} {T : w_T} {f g : p_L}
theorem sw_and_31f : ∀ y : Fin 31, sw_and (y.val : Int) 1 = ((y.val % 2 : Nat) : Int) := by decide
theorem c_ss_12 (lmm : c_lm cn cs N U M) (hr : 17 < r) (hx : x < t_w T) (hk : t_ky T x ≠ []) (hc : c + 2 ^ w_h c ≤ t_w T) (ho : o + 2 ^ w_h o ≤ t_w T) (ho0 : 2 ^ w_h o ≤ o + 1) (eo : o + c = 2 * x) (hW : c_W H mk nn K tl cn cs) (ht : c_tr H mk r T) (hb : c_bS S mk tl N U M) (hS1 : S (w_wt T x o)) (hS2 : ∀ y ∈ w_ordk (w_h o) o (w_h o + 1) 0, S (w_th T (t_um T x) y)) (hz : c_rz H 17 (w_rs T (w_h c) c)) (q1 : ∀ J mm, t_ss T x c o → w_mo S mk mm → c_bS S mm tl N U M → c_W J mm nn K tl cn cs → c_ch [14, 15, 16] H J → P 1 J) (q0 : ∀ J mm, ¬ t_ss T x c o → w_mo S mk mm → c_bS S mm tl N U M → c_W J mm nn K tl cn cs → c_ch [14, 15, 16] H J → P 0 J) : ∀ (n k : Nat) {x5 x6 : Int}, k ≤ (w_rs T (w_h c) c).length → (w_rs T (w_h c) c).length - k < n → x5 = ((((w_rs T (w_h c) c).take k).filter (t_kp T x)).length : Nat) → (∀ y, (((w_rs T (w_h c) c).take k).filter (t_kp T x)).getLast? = some y → x6 = (y : Nat)) → wl_371_12 P n 11 r x c ((w_rs T (w_h c) c).length : Nat) x5 x6 k H
  | 0, _, _, _, _, h, _, _ => by omega
  | n + 1, k, x5, x6, hkl, hn, h5, h6 => by
    have h4 := ht.2.1.1
    have w31 := t_w_4 h4
    have l136 := w_rs_136 ht.2.1 hc
    have hL := hW.1.1
    obtain ⟨_, r20, _, rv1, rv2, rv3, rv4, ty3, ty4, ln4, rvk⟩ := ht.1
    unfold wl_371_12
    refine ⟨fun c1 => ?_, fun c1 => ?_⟩
    · have et : (w_rs T (w_h c) c).take k = w_rs T (w_h c) c := List.take_of_length_le (by omega)
      rw [et] at h5 h6
      have h6 : ∀ y, (t_rf T x c).getLast? = some y → x6 = (y : Nat) := h6
      have h5 : x5 = ((t_rf T x c).length : Nat) := h5
      refine ⟨fun c2 => q0 H mk (fun ⟨y, hy, _⟩ => c2 ?_) w_mo_refl hb hW (c_ch_refl _ _), fun c2 => ?_⟩
      · rw [h5, hy]; rfl
      obtain ⟨y, hy⟩ : ∃ y, t_rf T x c = [y] := List.length_eq_one_iff.mp (by omega)
      have ey := h6 y (by rw [hy]; rfl)
      obtain ⟨y1, y2⟩ := t_rf_in ht.2.1 hc hy
      have uq : ∀ {B : Prop}, (t_ss T x c o → B) ↔ (t_ph T y ≠ [] ∧ t_ph T y = w_wt T x o → B) := fun {B} => ⟨fun h g => h ⟨y, hy, g⟩, fun h ⟨y', hy', g⟩ => by
        rw [hy] at hy'
        have : y = y' := (List.cons.inj hy').1
        subst this
        exact h g⟩
      rw [ey, rv2]
      refine ⟨(ty3 2 (by decide) (by decide)).1, ?_⟩
      intro q16 e16
      rw [e16]
      refine ⟨by omega, by rw [(ty3 2 (by decide) (by decide)).2]; omega, ?_⟩
      intro v19 e19 _
      rw [Int.toNat_natCast] at e19
      have ph := (ht.2.2.2.1 y y1).2.1
      rw [← e19] at ph
      refine ⟨fun c3 => ?_, fun c3 => q0 H mk (uq.mpr (fun g => g.1 ?_)) w_mo_refl hb hW (c_ch_refl _ _)⟩
      rotate_left
      · rcases ph with ⟨_, g⟩ | g
        · exact g
        · have := (w_at_le g).1
          omega
      have at1 : w_at mk v19 (t_ph T y) := ph.resolve_left (fun g => c3 g.1)
      have phne := c_at_ne hL at1
      rw [rv3]
      refine ⟨(ty3 3 (by decide) (by decide)).1, ?_⟩
      intro q22 e22
      rw [e22]
      refine ⟨by omega, by rw [(ty3 3 (by decide) (by decide)).2]; omega, ?_⟩
      intro v25 e25 _
      rw [Int.toNat_natCast, (ht.2.2.2.1 _ hx).2.2] at e25
      have um := ht.2.1.2.1 _ hx
      have eo' : sw_w ((sw_w (2 * (x : Int))) - (c : Int)) = ((o : Nat) : Int) := by
        rw [sw_2k (by omega), sw_w_s (by omega) (by omega)]
        omega
      rw [eo', e25]
      clear eo'
      refine c_treeHashS (S := S) lmm hb ho ho0 hW ht ⟨by omega, by omega⟩ hS2 (fun z31 J1 m1 mo1 b1 W1 a1 C1 => ?_)
      intro _ _
      have T1 := c_tr_ch ht hW.1.2.2.2.1 hW.1.2.2.2.2 C1 (fun a ha => by simp at ha; omega) mo1.1
      obtain ⟨_, _, _, _, rv2', _, _, ty3', _⟩ := T1.1
      rw [rv2']
      refine ⟨(ty3' 2 (by decide) (by decide)).1, ?_⟩
      intro q36 e36
      rw [e36]
      refine ⟨by omega, by rw [(ty3' 2 (by decide) (by decide)).2]; omega, ?_⟩
      intro v39 e39 _
      rw [Int.toNat_natCast] at e39
      have ph1 := (T1.2.2.2.1 y y1).2.1
      rw [← e39] at ph1
      refine c_wantedS (S := S) lmm b1 W1 T1 hx hk a1 hS1 (fun z45 J2 m2 mo2 b2 W2 a2 C2 => ?_)
      intro _ _
      have mo12 := w_mo_trans mo1 mo2
      have C12 : c_ch [14, 15, 16] H J2 := c_ch_t C1 (c_ch_sub C2 (by simp))
      have a2 : w_at m2 z45 (w_wt T x o) := a2
      have iff := c_az_iff W2.1.1 (w_le_az mo2.1 ph1) (Or.inr a2)
      refine ⟨fun c4 => q0 J2 m2 (uq.mpr (fun g => c4 (iff.mpr g.2))) mo12 b2 W2 C12, fun c4 => q1 J2 m2 ⟨y, hy, phne, iff.mp c4⟩ mo12 b2 W2 C12⟩
    · have kl : k < (w_rs T (w_h c) c).length := by omega
      obtain ⟨y, hy⟩ : ∃ y, (w_rs T (w_h c) c)[k]? = some y := ⟨_, List.getElem?_eq_getElem kl⟩
      obtain ⟨y31, _⟩ := w_rs_31 ht.2.1 _ c rfl hc y (List.mem_of_getElem? hy)
      have et : (w_rs T (w_h c) c).take (k + 1) = (w_rs T (w_h c) c).take k ++ [y] := by rw [List.take_add_one, hy]; rfl
      have no : t_kp T x y = false → wb_371_38 P (wl_371_12 P n) 11 r x c ((w_rs T (w_h c) c).length : Nat) x5 x6 k (y : Nat) 1 H := fun h => by
        have ef : ((w_rs T (w_h c) c).take (k + 1)).filter (t_kp T x) = ((w_rs T (w_h c) c).take k).filter (t_kp T x) := by rw [et, List.filter_append, List.filter_cons_of_neg (by rw [h]; decide), List.filter_nil, List.append_nil]
        unfold wb_371_38
        refine ⟨fun _ => ?_, fun c => absurd c (by decide)⟩
        unfold wb_371_44
        intro y19 e19
        rw [sw_s1 (by omega)] at e19
        rw [e19]
        exact c_ss_12 lmm hr hx hk hc ho ho0 eo hW ht hb hS1 hS2 hz q1 q0 n (k + 1) (by omega) (by omega) (by rw [ef]; exact h5) (by rw [ef]; exact h6)
      have yes : t_kp T x y = true → wb_371_38 P (wl_371_12 P n) 11 r x c ((w_rs T (w_h c) c).length : Nat) x5 x6 k (y : Nat) 0 H := fun h => by
        have ef : ((w_rs T (w_h c) c).take (k + 1)).filter (t_kp T x) = ((w_rs T (w_h c) c).take k).filter (t_kp T x) ++ [y] := by rw [et, List.filter_append, List.filter_cons_of_pos h, List.filter_nil]
        have fl : (((w_rs T (w_h c) c).take k).filter (t_kp T x)).length ≤ k := by
          have a := List.length_filter_le (t_kp T x) ((w_rs T (w_h c) c).take k)
          rw [List.length_take] at a
          omega
        unfold wb_371_38
        refine ⟨fun c => absurd rfl c, fun _ => ?_⟩
        intro y8 e8
        rw [h5, sw_s1 (by omega)] at e8
        unfold wb_371_44
        intro y19 e19
        rw [sw_s1 (by omega)] at e19
        rw [e19]
        refine c_ss_12 lmm hr hx hk hc ho ho0 eo hW ht hb hS1 hS2 hz q1 q0 n (k + 1) (by omega) (by omega) (by rw [ef, e8, List.length_append, List.length_singleton]) (fun y' h' => ?_)
        rw [ef, List.getLast?_concat] at h'
        rw [Option.some.inj h']
      obtain ⟨cc1, _, _, _, _, _, cc5, _, _, _, _, cc17, _⟩ := hW.2.1
      rw [cc5]
      refine ⟨cc17.1, ?_⟩
      intro q50 e50
      rw [e50]
      refine ⟨by omega, by rw [cc17.2]; omega, ?_⟩
      intro v53 e53 _
      rw [Int.toNat_natCast, hz k y hy] at e53
      rw [e53]
      have a31 : sw_and (y : Int) 1 = ((y % 2 : Nat) : Int) := sw_and_31f ⟨y, y31⟩
      rw [a31]
      refine ⟨fun c2 => yes ?_, fun c2 => ?_⟩
      · unfold t_kp
        rw [decide_eq_true_iff]
        rintro ⟨g, _⟩
        rw [g] at c2
        exact c2 rfl
      rw [rv3]
      refine ⟨(ty3 3 (by decide) (by decide)).1, ?_⟩
      intro q59 e59
      rw [e59]
      refine ⟨by omega, by rw [(ty3 3 (by decide) (by decide)).2]; omega, ?_⟩
      intro v62 e62 _
      rw [Int.toNat_natCast, (ht.2.2.2.1 _ hx).2.2] at e62
      have um := ht.2.1.2.1 _ hx
      have s31 : sw_shr (y : Int) 1 = ((y / 2 : Nat) : Int) := sw_shr_1 ⟨y, y31⟩
      rw [e62, s31, sw_bit ⟨by omega, by omega⟩ (by omega)]
      refine ⟨fun c3 => yes ?_, fun c3 => no ?_⟩
      · unfold t_kp
        rw [decide_eq_true_iff]
        intro g
        omega
      · unfold t_kp
        rw [decide_eq_false_iff_not]
        exact fun g => g ⟨by omega, (w_bit_01 _ _).resolve_left c3⟩
theorem c_isSideRight (lmm : c_lm cn cs N U M) (hr : 17 < r) (hx : x < t_w T) (hk : t_ky T x ≠ []) (hc : c + 2 ^ w_h c ≤ t_w T) (ho : o + 2 ^ w_h o ≤ t_w T) (ho0 : 2 ^ w_h o ≤ o + 1) (eo : o + c = 2 * x) (hW : c_W H mk nn K tl cn cs) (ht : c_tr H mk r T) (hb : c_bS S mk tl N U M) (hS1 : S (w_wt T x o)) (hS2 : ∀ y ∈ w_ordk (w_h o) o (w_h o + 1) 0, S (w_th T (t_um T x) y)) (q1 : ∀ J mm, t_ss T x c o → w_mo S mk mm → c_bS S mm tl N U M → c_W J mm nn K tl cn cs → c_ch [14, 15, 16, 17] H J → P 1 J) (q0 : ∀ J mm, ¬ t_ss T x c o → w_mo S mk mm → c_bS S mm tl N U M → c_W J mm nn K tl cn cs → c_ch [14, 15, 16, 17] H J → P 0 J) : wm_371 11 r x c H P := by
  have pc := Nat.two_pow_pos (w_h c)
  obtain ⟨cc1, _, _, _, _, _, cc5, _, _, _, _, cc17, _⟩ := hW.2.1
  unfold wm_371
  rw [cc5]
  refine ⟨cc17.1, ?_⟩
  intro q68 e68
  rw [e68]
  refine c_resolution (by unfold c_fix; omega) (by omega) hW.1 ht cc17.2 (by omega) (fun G rz fG => ?_)
  intro _ _
  have fx : ∀ a ∈ [17], c_fix a ∧ (15 < a ∨ a = 2) := fun a ha => by simp at ha; unfold c_fix; omega
  have WG := c_W_fr hW fG fx
  have cG := c_V_ch hW.1 fG (fun a ha => (fx a ha).1)
  have tG := c_tr_fr hW.1 ht fG (fun a ha => ⟨(fx a ha).1, by simp at ha; omega⟩)
  have up : ∀ {J : sw_H}, c_ch [14, 15, 16] G J → c_ch [14, 15, 16, 17] H J := fun {J} c => c_ch_sub (c_ch_trans cG c) (by simp)
  exact ⟨(w_rs T (w_h c) c).length + 1, c_ss_12 lmm hr hx hk hc ho ho0 eo WG tG hb hS1 hS2 rz (fun J mm a1 a2 a3 a4 a5 => q1 J mm a1 a2 a3 a4 (up a5)) (fun J mm a1 a2 a3 a4 a5 => q0 J mm a1 a2 a3 a4 (up a5)) _ 0 (by omega) (by omega) rfl (fun y h => by cases h)⟩
theorem c_sn_7 (lmm : c_lm cn cs N U M) (hr : 17 < r) (hW0 : c_W H0 m0 nn K tl cn cs) (ht : c_tr H0 m0 r T) (h1 : t_one T) (h2 : t_onm T) (hS : ∀ v, t_sS T v → S v) (q : ∀ z J mm, ((z = 1 ∧ t_snd T) ∨ (z = 0 ∧ ¬ t_snd T)) → w_mo S m0 mm → c_bS S mm tl N U M → c_W J mm nn K tl cn cs → c_ch [14, 15, 16, 17] H0 J → P z J) : ∀ (n k : Nat) {H : sw_H} {mq : List Wt}, w_mo S m0 mq → c_bS S mq tl N U M → c_W H mq nn K tl cn cs → c_ch [14, 15, 16, 17] H0 H → 2 * k + 1 ≤ t_w T + 1 → t_w T - (2 * k + 1) < n → (∀ x, x < 2 * k + 1 → x % 2 = 1 → t_ky T x ≠ [] → t_snx T x) → wl_313_7 P n 11 r ((2 * k + 1 : Nat) : Int) H
  | 0, _, _, _, _, _, _, _, _, h, _ => by omega
  | n + 1, k, H, mq, mo, hb, hW, cH, hk, hn, inv => by
    have h4 := ht.2.1.1
    have w31 := t_w_4 h4
    have tH := c_tr_ch ht hW0.1.2.2.2.1 hW0.1.2.2.2.2 cH (fun a ha => by simp at ha; omega) mo.1
    obtain ⟨_, _, _, rv1, rv2, rv3, rv4, ty3, ty4, ln4, rvk⟩ := tH.1
    unfold wl_313_7
    refine c_nodes tH ?_
    intro _ _
    refine ⟨fun c => q 1 H mq (Or.inl ⟨rfl, h1, h2, fun x hx => inv x (by omega)⟩) mo hb hW cH, fun c => ?_⟩
    have hx : 2 * k + 1 < t_w T := by omega
    have nxt : ∀ {J : sw_H} {mj : List Wt}, (t_ky T (2 * k + 1) ≠ [] → t_snx T (2 * k + 1)) → w_mo S m0 mj → c_bS S mj tl N U M → c_W J mj nn K tl cn cs → c_ch [14, 15, 16, 17] H0 J → wb_313_45 P (wl_313_7 P n) 11 r ((2 * k + 1 : Nat) : Int) J := fun {J mj} hs1 a1 a2 a3 a4 => by
      unfold wb_313_45
      intro y ey
      have e : sw_w (((2 * k + 1 : Nat) : Int) + 2) = ((2 * (k + 1) + 1 : Nat) : Int) := by rw [sw_w_s (by omega) (by omega)]; omega
      rw [e] at ey
      rw [ey]
      refine c_sn_7 lmm hr hW0 ht h1 h2 hS q n (k + 1) a1 a2 a3 a4 (by omega) (by omega) (fun x x1 x2 => ?_)
      by_cases e : x = 2 * k + 1
      · rw [e]; exact hs1
      · exact inv x (by omega) x2
    rw [rv1]
    refine ⟨(ty3 1 (by decide) (by decide)).1, ?_⟩
    intro q10 e10
    rw [e10]
    refine ⟨by omega, by rw [(ty3 1 (by decide) (by decide)).2]; omega, ?_⟩
    intro v13 e13 _
    rw [Int.toNat_natCast] at e13
    have ka := c_key_0 hW.1.1 tH hx
    rw [← e13] at ka
    refine ⟨fun c1 => nxt (fun h => absurd (ka.mp c1) h) mo hb hW cH, fun c1 => ?_⟩
    have g : t_ky T (2 * k + 1) ≠ [] := fun e => c1 (ka.mpr e)
    refine c_height (by omega) ?_
    intro _ _
    obtain ⟨hh1, hh2⟩ := t_h_le h4 hx
    have hh2 := hh2 (by omega)
    obtain ⟨s1, s2, s3, s4, s5, s6⟩ := t_sd h4 hx (by omega)
    have p8 : 2 ^ (w_h (2 * k + 1) - 1) ≤ 2 ^ 3 := Nat.pow_le_pow_right (by decide) (by omega)
    have plx : 2 ^ (w_h (2 * k + 1) - 1) ≤ 2 * k + 1 := by rw [s1] at s3; unfold t_lch at s3; have := Nat.two_pow_pos (w_h (2 * k + 1) - 1); omega
    have pp := Nat.two_pow_pos (w_h (2 * k + 1) - 1)
    intro y21 e21
    rw [sw_w_s (by omega) (by omega), show ((w_h (2 * k + 1) : Nat) : Int) - 1 = ((w_h (2 * k + 1) - 1 : Nat) : Int) by omega, sw_shl_1 (by omega)] at e21
    have ee : sw_w (((2 * k + 1 : Nat) : Int) - y21) = ((t_lch (2 * k + 1) : Nat) : Int) := by
      rw [e21, sw_w_s (by omega) (by omega)]
      unfold t_lch
      omega
    have ef : sw_w (((2 * k + 1 : Nat) : Int) + y21) = ((t_rch (2 * k + 1) : Nat) : Int) := by
      rw [e21]
      clear ee
      rw [sw_w_s (by omega) (by omega)]
      unfold t_rch
      omega
    have sum : t_rch (2 * k + 1) + t_lch (2 * k + 1) = 2 * (2 * k + 1) := by unfold t_lch t_rch; omega
    rw [ee, ef]
    clear ee ef e21
    have no : ∀ {J : sw_H} {mj : List Wt}, ¬ t_snx T (2 * k + 1) → w_mo S m0 mj → c_bS S mj tl N U M → c_W J mj nn K tl cn cs → c_ch [14, 15, 16, 17] H0 J → P 0 J := fun {J mj} hs1 a1 a2 a3 a4 => q 0 J mj (Or.inr ⟨rfl, fun h => hs1 (h.2.2 _ hx (by omega) g)⟩) a1 a2 a3 a4
    refine c_isUnmergedRight hW.1.1 tH hx (by omega) (fun mg => ?_) (fun mg => ?_)
    rotate_left
    · intro _ _
      exact ⟨fun _ => no (fun h => mg h.1) mo hb hW cH, fun c => absurd rfl c⟩
    intro _ _
    refine ⟨fun c => absurd c (by decide), fun _ => ?_⟩
    have S1 : ∀ o, (o = t_rch (2 * k + 1) ∨ (o = t_lch (2 * k + 1) ∧ ¬ t_ss T (2 * k + 1) (t_lch (2 * k + 1)) (t_rch (2 * k + 1)))) → S (w_wt T (2 * k + 1) o) ∧ ∀ y ∈ w_ordk (w_h o) o (w_h o + 1) 0, S (w_th T (t_um T (2 * k + 1)) y) := fun o ho => ⟨hS _ ⟨2 * k + 1, o, hx, by omega, g, inv, ho, Or.inl rfl⟩, fun y hy => hS _ ⟨2 * k + 1, o, hx, by omega, g, inv, ho, Or.inr ⟨y, hy, rfl⟩⟩⟩
    refine c_isSideRight (S := S) lmm hr hx g s4 s6 s5 sum hW tH hb (S1 _ (Or.inl rfl)).1 (S1 _ (Or.inl rfl)).2  (fun J mj a1 a2 a3 a4 a5 => ?_) (fun J mj a1 a2 a3 a4 a5 => ?_)
    · intro _ _
      exact ⟨fun _ => nxt (fun _ => ⟨mg, Or.inl a1⟩) (w_mo_trans mo a2) a3 a4 (c_ch_t cH a5), fun c => absurd c (by decide)⟩
    intro _ _
    refine ⟨fun c => absurd rfl c, fun _ => ?_⟩
    have cJ := c_ch_t cH a5
    have moJ := w_mo_trans mo a2
    have tJ := c_tr_ch ht hW0.1.2.2.2.1 hW0.1.2.2.2.2 cJ (fun a ha => by simp at ha; omega) moJ.1
    refine c_isSideRight (S := S) lmm hr hx g s6 s4 s3 (by omega) a4 tJ a3 (S1 _ (Or.inr ⟨rfl, a1⟩)).1 (S1 _ (Or.inr ⟨rfl, a1⟩)).2 (fun V mv b1 b2 b3 b4 b5 => ?_) (fun V mv b1 b2 b3 b4 b5 => ?_)
    · intro _ _
      exact ⟨fun _ => nxt (fun _ => ⟨mg, Or.inr b1⟩) (w_mo_trans moJ b2) b3 b4 (c_ch_t cJ b5), fun c => absurd c (by decide)⟩
    · intro _ _
      exact ⟨fun c => absurd rfl c, fun _ => no (fun h => h.2.elim a1 b1) (w_mo_trans moJ b2) b3 b4 (c_ch_t cJ b5)⟩
theorem c_isSound (lmm : c_lm cn cs N U M) (hr : 17 < r) (hW : c_W H mk nn K tl cn cs) (ht : c_tr H mk r T) (hb : c_bS S mk tl N U M) (hS : ∀ v, t_sS T v → S v) (q : ∀ z J mm, ((z = 1 ∧ t_snd T) ∨ (z = 0 ∧ ¬ t_snd T)) → w_mo S mk mm → c_bS S mm tl N U M → c_W J mm nn K tl cn cs → c_ch [14, 15, 16, 17] H J → P z J) : wm_313 11 r H P := by
  have tw : 1 ≤ t_w T := by rw [t_w_e]; have := Nat.two_pow_pos (t_dp T); omega
  unfold wm_313
  refine c_areLeavesOther hW.1.1 ht (fun h1 h2 => ?_) (fun h1 => ?_)
  rotate_left
  · intro _ _
    exact ⟨fun c => absurd rfl c, fun _ => q 0 H mk (Or.inr ⟨rfl, fun h => h1 ⟨h.1, h.2.1⟩⟩) w_mo_refl hb hW (c_ch_refl _ _)⟩
  intro _ _
  exact ⟨fun _ => ⟨t_w T + 1, c_sn_7 lmm hr hW ht h1 h2 hS q _ 0 w_mo_refl hb hW (c_ch_refl _ _) (by omega) (by omega) (fun x x1 x2 => by omega)⟩, fun c => absurd c (by decide)⟩
theorem c_ts_2 (hml : mk.length ≤ 999999999) (hr : 17 < r) (hW0 : c_W H0 mk nn K tl cn cs) (ht : c_tr H0 mk r T) (q : ∀ z J, ((z = 1 ∧ t_sgn T) ∨ (z = 0 ∧ ¬ t_sgn T)) → c_W J mk nn K tl cn cs → c_fr [14, 15] H0 J → P z J) : ∀ (n l : Nat) {H : sw_H}, c_W H mk nn K tl cn cs → c_fr [14, 15] H0 H → l ≤ 2 ^ t_dp T → 2 ^ t_dp T - l < n → (∀ j, j < l → t_is T j → w_lfs (t_lfa T j) (j : Int)) → wl_314_2 P n 11 r l H
  | 0, _, _, _, _, _, h, _ => by omega
  | n + 1, l, H, hW, fH, hl, hn, inv => by
    have h4 := ht.2.1.1
    have d16 := t_d_16 h4
    have w31 := t_w_4 h4
    have tH := c_tr_fr hW0.1 ht fH (fun a ha => by simp at ha; unfold c_fix; omega)
    obtain ⟨_, _, _, rv1, rv2, rv3, rv4, ty3, ty4, ln4, rvk⟩ := tH.1
    unfold wl_314_2
    refine c_leavesX tH ?_
    intro _ _
    refine ⟨fun c => q 1 H (Or.inl ⟨rfl, fun j hj => inv j (by have := hj.1; omega) hj⟩) hW fH, fun c => ?_⟩
    have ll : l < 2 ^ t_dp T := by omega
    have lw := (t_lf_w T l).mpr ll
    have nxt : ∀ {J : sw_H}, (t_is T l → w_lfs (t_lfa T l) (l : Int)) → c_W J mk nn K tl cn cs → c_fr [14, 15] H0 J → wb_314_23 P (wl_314_2 P n) 11 r l J := fun {J} hs1 a3 a4 => by
      unfold wb_314_23
      intro y ey
      rw [sw_s1 (by omega)] at ey
      rw [ey]
      refine c_ts_2 hml hr hW0 ht q n (l + 1) a3 a4 (by omega) (by omega) (fun j hj => ?_)
      by_cases e : j = l
      · rw [e]; exact hs1
      · exact inv j (by omega)
    rw [rv1, sw_2k (by omega)]
    refine ⟨(ty3 1 (by decide) (by decide)).1, ?_⟩
    intro q10 e10
    rw [e10]
    refine ⟨by omega, by rw [(ty3 1 (by decide) (by decide)).2]; omega, ?_⟩
    intro v13 e13 _
    rw [Int.toNat_natCast] at e13
    have ka := c_key_0 hW.1.1 tH lw
    rw [← e13] at ka
    refine ⟨fun c1 => nxt (fun h => absurd (ka.mp c1) h.2) hW fH, fun c1 => ?_⟩
    have g : t_ky T (2 * l) ≠ [] := fun e => c1 (ka.mpr e)
    rw [rv4]
    refine ⟨ty4, ?_⟩
    intro q16 e16
    rw [e16]
    refine ⟨by omega, by rw [ln4]; omega, ?_⟩
    rw [Int.toNat_natCast, (rvk l (by omega)).1]
    refine ⟨(rvk l (by omega)).2, ?_⟩
    intro q19 e19
    rw [e19]
    obtain ⟨lf1, lf2⟩ := tH.2.2.2.2.2 l lw g
    refine c_isLeafSigned hml hW lf1 lf2 (by omega) (fun z J hz WJ fJ => ?_)
    intro _ _
    have fHJ := c_fr_t fH fJ
    refine ⟨fun c2 => nxt (fun _ => ?_) WJ fHJ, fun c2 => q 0 J (Or.inr ⟨rfl, fun h => ?_⟩) WJ fHJ⟩
    · rcases hz with ⟨_, h⟩ | ⟨ez, _⟩
      · exact h
      · exact absurd ez c2
    · rcases hz with ⟨ez, _⟩ | ⟨_, hn⟩
      · omega
      · exact hn (h l ⟨ll, g⟩)
theorem c_areLeavesSigned (hml : mk.length ≤ 999999999) (hr : 17 < r) (hW : c_W H mk nn K tl cn cs) (ht : c_tr H mk r T) (q : ∀ z J, ((z = 1 ∧ t_sgn T) ∨ (z = 0 ∧ ¬ t_sgn T)) → c_W J mk nn K tl cn cs → c_fr [14, 15] H J → P z J) : wm_314 11 r H P := by
  have hp : 0 < 2 ^ t_dp T := Nat.two_pow_pos _
  unfold wm_314
  exact ⟨2 ^ t_dp T + 1, c_ts_2 hml hr hW ht q _ 0 hW (c_fr_refl _ _) (by omega) (by omega) (fun j hj => by omega)⟩
/-- the first leaf of a member -/
theorem c_lo2_2 (hL : c_L H mk nn K tl) (ht : c_tr H mk r T) (q1 : ∀ l, t_is T l → t_ow T l = mo → P l H) (q0 : (∀ l, t_is T l → t_ow T l ≠ mo) → P (-1) H) : ∀ (n l : Nat), l ≤ 2 ^ t_dp T → 2 ^ t_dp T - l < n → (∀ j, j < l → t_is T j → t_ow T j ≠ mo) → wl_312_2 P n r mo l H
  | 0, _, _, h, _ => by omega
  | n + 1, l, hl, hn, inv => by
    have h4 := ht.2.1.1
    have d16 := t_d_16 h4
    have w31 := t_w_4 h4
    obtain ⟨_, _, _, rv1, rv2, rv3, rv4, ty3, ty4, ln4, rvk⟩ := ht.1
    unfold wl_312_2
    refine c_leavesX ht ?_
    intro _ _
    refine ⟨fun c => q0 (fun j hj => inv j (by have := hj.1; omega) hj), fun c => ?_⟩
    have ll : l < 2 ^ t_dp T := by omega
    have lw := (t_lf_w T l).mpr ll
    have nxt : (t_is T l → t_ow T l ≠ mo) → wb_312_22 P (wl_312_2 P n) r mo l H := fun hs1 => by
      unfold wb_312_22
      intro y ey
      rw [sw_s1 (by omega)] at ey
      rw [ey]
      refine c_lo2_2 hL ht q1 q0 n (l + 1) (by omega) (by omega) (fun j hj => ?_)
      by_cases e : j = l
      · rw [e]; exact hs1
      · exact inv j (by omega)
    rw [rv1, sw_2k (by omega)]
    refine ⟨(ty3 1 (by decide) (by decide)).1, ?_⟩
    intro q10 e10
    rw [e10]
    refine ⟨by omega, by rw [(ty3 1 (by decide) (by decide)).2]; omega, ?_⟩
    intro v13 e13 _
    rw [Int.toNat_natCast] at e13
    have ka := c_key_0 hL ht lw
    rw [← e13] at ka
    refine ⟨fun c1 => nxt (fun h => absurd (ka.mp c1) h.2), fun c1 => ?_⟩
    have g : t_ky T (2 * l) ≠ [] := fun e => c1 (ka.mpr e)
    rw [rv4]
    refine ⟨ty4, ?_⟩
    intro q16 e16
    rw [e16]
    refine ⟨by omega, by rw [ln4]; omega, ?_⟩
    rw [Int.toNat_natCast, (rvk l (by omega)).1]
    refine ⟨(rvk l (by omega)).2, ?_⟩
    intro q19 e19 v22 e22 _
    rw [e19, (ht.2.2.2.2.2 l lw g).1.1] at e22
    exact ⟨fun c2 => nxt (fun _ e => c2 (by rw [e22]; exact e)), fun c2 => q1 l ⟨ll, g⟩ (by rw [← e22]; exact c2)⟩
theorem c_leafOf (hL : c_L H mk nn K tl) (ht : c_tr H mk r T) (q1 : ∀ l, t_is T l → t_ow T l = mo → P l H) (q0 : (∀ l, t_is T l → t_ow T l ≠ mo) → P (-1) H) : wm_312 r mo H P := by
  have hp : 0 < 2 ^ t_dp T := Nat.two_pow_pos _
  unfold wm_312
  exact ⟨2 ^ t_dp T + 1, c_lo2_2 hL ht q1 q0 _ 0 (by omega) (by omega) (fun j hj => by omega)⟩
theorem c_sameLf (hL : c_L H mk nn K tl) (h1 : c_Lf H mk p f) (h2 : c_Lf H mk p2 g) (q1 : f = g → P 1 H) (q0 : f ≠ g → P 0 H) : wm_315 p p2 H P := by
  obtain ⟨f1, f2, f3, f4, f5, f6⟩ := f
  obtain ⟨g1, g2, g3, g4, g5, g6⟩ := g
  obtain ⟨⟨a1, a2, a3, a4, a5, _⟩, a6⟩ := h1
  obtain ⟨⟨b1, b2, b3, b4, b5, _⟩, b6⟩ := h2
  have a1 : sw_iv H p 0 = f1 := a1
  have b1 : sw_iv H p2 0 = g1 := b1
  have a4 : sw_iv H p 3 = f4 := a4
  have b4 : sw_iv H p2 3 = g4 := b4
  have k2 := c_az_iff hL (Or.inr a2) (Or.inr b2)
  have k3 := c_az_iff hL (Or.inr a3) (Or.inr b3)
  have k5 := c_az_iff hL a5 b5
  have k6 := c_az_iff hL (Or.inr a6) (Or.inr b6)
  have no : ¬ (f1 = g1 ∧ f2 = g2 ∧ f3 = g3 ∧ f4 = g4 ∧ f5 = g5 ∧ f6 = g6) → P 0 H := fun h => q0 (fun e => h (by
    rw [Prod.mk.injEq, Prod.mk.injEq, Prod.mk.injEq, Prod.mk.injEq, Prod.mk.injEq] at e
    exact e))
  unfold wm_315
  intro v1 e1 _ v4 e4 _
  rw [a1] at e1
  rw [b1] at e4
  refine ⟨fun c => no (fun h => c (by rw [e1, e4]; exact h.1)), fun c1 => ?_⟩
  intro v7 e7 _ v10 e10 _
  rw [← e7, ← e10] at k2
  refine ⟨fun c => no (fun h => c (k2.mpr h.2.1)), fun c2 => ?_⟩
  intro v13 e13 _ v16 e16 _
  rw [← e13, ← e16] at k3
  refine ⟨fun c => no (fun h => c (k3.mpr h.2.2.1)), fun c3 => ?_⟩
  intro v19 e19 _ v22 e22 _
  rw [a4] at e19
  rw [b4] at e22
  refine ⟨fun c => no (fun h => c (by rw [e19, e22]; exact h.2.2.2.1)), fun c4 => ?_⟩
  intro v25 e25 _ v28 e28 _
  rw [← e25, ← e28] at k5
  refine ⟨fun c => no (fun h => c (k5.mpr h.2.2.2.2.1)), fun c5 => ?_⟩
  intro v31 e31 _ v34 e34 _
  rw [← e31, ← e34] at k6
  refine ⟨fun c => no (fun h => c (k6.mpr h.2.2.2.2.2)), fun c6 => q1 ?_⟩
  have x1 : f1 = g1 := by rw [← e1, ← e4]; exact c1
  have x4 : f4 = g4 := by rw [← e19, ← e22]; exact c4
  have x2 : f2 = g2 := k2.mp c2
  have x3 : f3 = g3 := k3.mp c3
  have x5 : f5 = g5 := k5.mp c5
  have x6 : f6 = g6 := k6.mp c6
  rw [x1, x2, x3, x4, x5, x6]
end
