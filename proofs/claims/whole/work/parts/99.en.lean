/-! ===== the class: addLeaf ===== -/
noncomputable section
variable {H G Z X : sw_H} {mk mm tl : List Wt} {nn r k o h l x y : Nat} {K : Wt → Prop} {cn cs : Int} {T T' : w_T} {f : p_L} {Q : sw_H → Prop} {P : Int → sw_H → Prop} {A : List Nat}
theorem c_al_2 (hL : c_L H mk nn K tl) (ht : c_tr H mk r T) : ∀ (m n l : Nat), l ≤ 2 ^ t_dp T → m + l = 16 → m < n → wb_286_15 P r o ((t_fn T m l : Nat) : Int) H → wl_286_2 P n r o l H
  | _, 0, _, _, _, h, _ => by omega
  | m, n + 1, l, hl, hm, hn, q => by
    have d16 := t_d_16 ht.2.1.1
    have w31 := t_w_4 ht.2.1.1
    obtain ⟨_, _, _, r1, _, _, _, tya, _⟩ := ht.1
    have ta := tya 1 (by omega) (by omega)
    unfold wl_286_2
    refine c_leavesX ht ?_
    intro _ _
    refine ⟨fun c => ?_, fun c => ?_⟩
    · cases m with
      | zero => exact q
      | succ m => unfold t_fn at q; rw [if_neg (by omega)] at q; exact q
    · obtain ⟨m', rfl⟩ : ∃ m', m = m' + 1 := ⟨m - 1, by omega⟩
      have hlw := (t_lf_w T l).mpr (by omega)
      rw [r1, sw_2k (by omega)]
      refine ⟨ta.1, ?_⟩
      intro q6 e6
      rw [e6]
      refine ⟨by omega, by rw [ta.2]; omega, ?_⟩
      intro v ev _
      rw [Int.toNat_natCast] at ev
      have ky := c_ky0 hL ht (x := 2 * l) (by omega)
      rw [← ev] at ky
      refine ⟨fun c2 => ?_, fun c2 => ?_⟩
      · have g : t_ky T (2 * l) = [] := (ky.mp c2).resolve_left (by omega)
        unfold t_fn at q
        rw [if_neg (fun c => c.2 g)] at q
        exact q
      · have g : t_ky T (2 * l) ≠ [] := fun g => c2 (ky.mpr (Or.inr g))
        intro y ey
        rw [sw_s1 (by omega)] at ey
        subst ey
        refine c_al_2 hL ht m' n (l + 1) (by omega) (by omega) (by omega) ?_
        unfold t_fn at q
        rw [if_pos ⟨by omega, g⟩] at q
        exact q
theorem c_tr_gr {z : Int} (ht : c_tr H mk r T) (h3 : t_dp T ≤ 3) (hz : z = ((t_dp T + 1 : Nat) : Int)) : c_tr (sw_si H r 0 z) mk r (t_gr T) := by
  have f2 := c_fr_si H r 0 z
  have iv : ∀ a, a ≠ r → sw_iv (sw_si H r 0 z) a = sw_iv H a := fun a ha => f2.2.2.2.2.2 a (by simpa using ha)
  have hwl := t_w_le (T := T) (T' := t_gr T) (by show t_dp T ≤ t_dp T + 1; omega)
  have w31 := t_w_4 (T := t_gr T) (by show t_dp T + 1 ≤ 4; omega)
  obtain ⟨h1, h2, h3', h4, h5, h6⟩ := ht
  refine ⟨c_ts_fr h1 f2, t_ok_gr h2 h3, by rw [c_si_eq, hz]; rfl, fun x hx => ?_, fun x hx1 hx2 => ?_, fun k hk hne => ?_⟩
  · rw [iv _ (by omega), iv _ (by omega), iv _ (by omega)]
    show w_az mk _ (if x < t_w T then t_ky T x else []) ∧ w_az mk _ (if x < t_w T then t_ph T x else []) ∧ _ = (if x < t_w T then t_um T x else 0)
    by_cases c : x < t_w T
    · rw [if_pos c, if_pos c, if_pos c]; exact h4 x c
    · obtain ⟨g1, g2, g3⟩ := h5 x (by omega) (by omega)
      rw [if_neg c, if_neg c, if_neg c, g1, g2, g3]
      exact ⟨Or.inl ⟨rfl, rfl⟩, Or.inl ⟨rfl, rfl⟩, rfl⟩
  · rw [iv _ (by omega), iv _ (by omega), iv _ (by omega)]
    exact h5 x (by omega) hx2
  · have hne : (if 2 * k < t_w T then t_ky T (2 * k) else []) ≠ [] := hne
    by_cases c : 2 * k < t_w T
    · rw [if_pos c] at hne
      obtain ⟨g1, g2⟩ := h6 k c hne
      have nm2 : r + 5 + k ∉ [r] := by simp; omega
      show c_lf _ mk (r + 5 + k) (t_ow T k) (if 2 * k < t_w T then t_ky T (2 * k) else []) (t_sk T k) (t_so T k) (if 2 * k < t_w T then t_ph T (2 * k) else []) ∧ w_at mk _ (t_sg T k)
      rw [if_pos c, if_pos c]
      exact ⟨c_lf_fr g1 f2 nm2, by rw [f2.2.2.2.2.2 _ nm2]; exact g2⟩
    · rw [if_neg c] at hne; exact absurd rfl hne
theorem c_tr_u1 (ht : c_tr H mk r T) (hx : x < t_w T) (hk : t_ky T x ≠ []) (ho : x % 2 = 1) (hl : l < 16) : c_tr (sw_si H (r + 3) x (sw_or (sw_iv H (r + 3) x) ((2 ^ l : Nat) : Int))) mk r (t_u1 T l x) := by
  have hok := t_ok_u1 ht.2.1 hl ho
  unfold t_u1 at hok ⊢
  rw [if_neg hk] at hok ⊢
  have f2 := c_fr_si H (r + 3) x (sw_or (sw_iv H (r + 3) x) ((2 ^ l : Nat) : Int))
  have iv : ∀ a, a ≠ r + 3 → sw_iv (sw_si H (r + 3) x (sw_or (sw_iv H (r + 3) x) ((2 ^ l : Nat) : Int))) a = sw_iv H a := fun a ha => f2.2.2.2.2.2 a (by simpa using ha)
  obtain ⟨h1, h2, h3, h4, h5, h6⟩ := ht
  refine ⟨c_ts_fr h1 f2, hok, by rw [iv _ (by omega)]; exact h3, fun y hy => ?_, fun y hy1 hy2 => ?_, fun k hk hne => ?_⟩
  · obtain ⟨g1, g2, g3⟩ := h4 y hy
    rw [iv _ (by omega), iv _ (by omega)]
    refine ⟨g1, g2, ?_⟩
    show _ = fu (t_um T) x _ y
    by_cases d : y = x
    · subst d; rw [c_si_eq, fu_eq, g3]
    · rw [c_si_f d, fu_ne d]; exact g3
  · have hy1 : t_w T ≤ y := hy1
    rw [iv _ (by omega), iv _ (by omega), c_si_f (by omega)]
    exact h5 y hy1 hy2
  · obtain ⟨g1, g2⟩ := h6 k hk hne
    have nm2 : r + 5 + k ∉ [r + 3] := by simp; omega
    exact ⟨c_lf_fr g1 f2 nm2, by rw [f2.2.2.2.2.2 _ nm2]; exact g2⟩
theorem c_al_36 (hl : l < 2 ^ t_dp T) : ∀ (n h : Nat) {H : sw_H}, c_V H mk nn K tl cn cs → c_tr H mk r (t_un T l h) → h ≤ t_dp T → t_dp T - h < n → (∀ G, c_tr G mk r (t_un T l (t_dp T)) → c_fr (c_rg r) H G → P l G) → wl_286_36 P n r l ((h + 1 : Nat) : Int) H
  | 0, _, _, _, _, _, h, _ => by omega
  | n + 1, h, H, hV, ht, hh, hn, q => by
    have ed := t_un_dp (T := T) (l := l) h
    have d4 : t_dp T ≤ 4 := by have := ht.2.1.1; rw [ed] at this; exact this
    have d16 := t_d_16 d4
    unfold wl_286_36
    intro v ev _
    rw [ht.2.2.1, ed] at ev
    subst ev
    refine ⟨fun c => ?_, fun c => ?_⟩
    · have e : h = t_dp T := by omega
      subst e
      exact q H ht (c_fr_refl _ _)
    · refine c_above (f := l) (k := h + 1) (by omega) (by omega) ?_
      intro _ _
      have ea : l / 2 ^ (h + 1) * 2 ^ (h + 1 + 1) + 2 ^ (h + 1) - 1 = t_ab l (h + 1) := rfl
      rw [ea]
      have aw : t_ab l (h + 1) < t_w (t_un T l h) := by
        rw [t_dp_w ed]; exact t_ab_w d4 hl (by omega)
      have a31 : t_ab l (h + 1) < 31 := by
        have := t_w_4 ht.2.1.1
        omega
      obtain ⟨ts1, ts2, _, r1, _, r3, _, tya, _⟩ := ht.1
      have ta := tya 1 (by omega) (by omega)
      have tb := tya 3 (by omega) (by omega)
      rw [r1]
      refine ⟨ta.1, ?_⟩
      intro q16 e16
      rw [e16]
      refine ⟨by omega, by rw [ta.2]; omega, ?_⟩
      intro v ev _
      rw [Int.toNat_natCast] at ev
      have ky := c_ky0 hV.1 ht (x := t_ab l (h + 1)) (by omega)
      rw [← ev] at ky
      refine ⟨fun c2 => ?_, fun c2 => ?_⟩
      · have g : t_ky (t_un T l h) (t_ab l (h + 1)) = [] := (ky.mp c2).resolve_left (by omega)
        have eu : t_un T l (h + 1) = t_un T l h := by
          show t_u1 (t_un T l h) l (t_ab l (h + 1)) = _
          unfold t_u1; rw [if_pos g]
        unfold wb_286_59
        intro y ey
        rw [sw_s1 (by omega)] at ey
        subst ey
        exact c_al_36 hl n (h + 1) hV (by rw [eu]; exact ht) (by omega) (by omega) q
      · have g : t_ky (t_un T l h) (t_ab l (h + 1)) ≠ [] := fun g => c2 (ky.mpr (Or.inr g))
        rw [r3]
        refine ⟨tb.1, ?_⟩
        intro q22 e22
        rw [e22]
        refine ⟨by omega, by rw [tb.2]; omega, ?_⟩
        intro v25 e25 _
        refine ⟨by omega, by rw [tb.2]; omega, ?_⟩
        intro H28 e28
        rw [Int.toNat_natCast] at e25 e28
        rw [e25, sw_shl_h (by omega)] at e28
        have t28 : c_tr H28 mk r (t_un T l (h + 1)) := by
          rw [e28]
          exact c_tr_u1 ht aw g (t_ab_o (by omega) (by omega) (by omega)) (by omega)
        have f28 : c_fr (c_rg r) H H28 := by rw [e28]; exact c_rg_1 (i := 3) (by omega) (c_fr_si _ _ _ _)
        unfold wb_286_59
        intro y ey
        rw [sw_s1 (by omega)] at ey
        subst ey
        exact c_al_36 hl n (h + 1) (c_V_fr hV f28 (fun a ha => by rw [c_rg_m] at ha; unfold c_fix; omega)) t28 (by omega) (by omega) (fun Z tZ fZ => q Z tZ (c_fr_t f28 fZ))
theorem c_al_30 (hV : c_V H mk nn K tl cn cs) (ht : c_tr H mk r T) (hl : l < 2 ^ t_dp T) (no : o < r ∨ r + 20 < o) (hf : c_Lf H mk o f) (hok : t_lfok f) (q : ∀ G, c_tr G mk r (t_un (t_put T l f) l (t_dp T)) → c_fr (c_rg r) H G → P l G) : wb_286_30 P r o l H := by
  unfold wb_286_30
  refine c_putLeafX ht hl no hf hok (fun G tG fG => ?_)
  intro _
  exact ⟨t_dp T + 1, c_al_36 (T := t_put T l f) hl _ 0 (c_V_fr hV fG (fun a ha => by have := ht.1.1; have := ht.1.2.1; rw [c_rg_m] at ha; unfold c_fix; omega)) tG (by omega) (by show t_dp T - 0 < _; omega) (fun Z tZ fZ => q Z tZ (c_fr_t fG fZ))⟩
theorem c_addLeaf (hV : c_V H mk nn K tl cn cs) (ht : c_tr H mk r T) (no : o < r ∨ r + 20 < o) (hf : c_Lf H mk o f) (hok : t_lfok f) (hl : t_fl T < 16) (q : ∀ G, c_tr G mk r (t_add T f) → c_fr (c_rg r) H G → P ((t_fl T : Nat) : Int) G) : wm_286 r o H P := by
  have d16 := t_d_16 ht.2.1.1
  have hle := t_fl_le (T := T)
  have hrd := t_room_dp ht.2.1.1 hl
  unfold wm_286
  refine ⟨17, c_al_2 hV.1 ht 16 17 0 (by omega) (by omega) (by omega) ?_⟩
  show wb_286_15 P r o ((t_fl T : Nat) : Int) H
  unfold wb_286_15
  refine ⟨fun _ => ?_, fun c => by omega⟩
  refine c_leavesX ht ?_
  intro _ _
  refine ⟨fun c => ?_, fun c => ?_⟩
  · have er : t_room T (t_fl T) = T := by unfold t_room; rw [if_neg (by omega)]
    refine c_al_30 hV ht (by omega) no hf hok (fun G tG fG => q G ?_ fG)
    unfold t_add; rw [er]; exact tG
  · have er : t_room T (t_fl T) = t_gr T := by unfold t_room; rw [if_pos (by omega)]
    rw [er] at hrd
    have hrd1 : t_dp T + 1 ≤ 4 := hrd.1
    intro v ev _ H49 e49
    rw [ht.2.2.1] at ev
    rw [ev, sw_s1 (by omega)] at e49
    have t49 : c_tr H49 mk r (t_gr T) := by rw [e49]; exact c_tr_gr ht (by omega) rfl
    have f49 : c_fr (c_rg r) H H49 := by rw [e49]; exact c_rg_1 (i := 0) (by omega) (c_fr_si _ _ _ _)
    refine c_al_30 (c_V_fr hV f49 (fun a ha => by have := ht.1.1; have := ht.1.2.1; rw [c_rg_m] at ha; unfold c_fix; omega)) t49 hrd.2 no (c_Lf_fr hf f49 (by rw [c_rg_m]; omega)) hok (fun G tG fG => q G ?_ (c_fr_t f49 fG))
    unfold t_add; rw [er]; exact tG
end
