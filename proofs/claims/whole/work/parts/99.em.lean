/-! ===== the class: trees that change ===== -/
noncomputable section
variable {H G Z X : sw_H} {mk mm tl : List Wt} {nn r k o h l x y : Nat} {K : Wt → Prop} {cn cs : Int} {T T' : w_T} {f : p_L} {Q : sw_H → Prop} {P : Int → sw_H → Prop} {A : List Nat}
/-- the cells of a Tree -/
def c_rg (r : Nat) : List Nat := (List.range 21).map (fun i => r + i)
theorem c_rg_m {a : Nat} : a ∈ c_rg r ↔ r ≤ a ∧ a ≤ r + 20 := by
  unfold c_rg
  rw [List.mem_map]
  constructor
  · rintro ⟨i, hi, rfl⟩
    have := List.mem_range.mp hi
    omega
  · intro h
    exact ⟨a - r, List.mem_range.mpr (by omega), by omega⟩
theorem c_rg_3 (f : c_fr [r + 1, r + 2, r + 3] H G) : c_fr (c_rg r) H G := c_fr_sub f (fun a ha => by
  rw [c_rg_m]; simp at ha; omega)
theorem c_rg_1 {i : Nat} (hi : i ≤ 20) (f : c_fr [r + i] H G) : c_fr (c_rg r) H G := c_fr_sub f (fun a ha => by
  rw [c_rg_m]; simp at ha; omega)
/-- the Leaf at o -/
def c_Lf (H : sw_H) (mk : List Wt) (o : Nat) (f : p_L) : Prop := c_lf H mk o f.1 f.2.1 f.2.2.1 f.2.2.2.1 f.2.2.2.2.1 ∧ w_at mk (sw_iv H o 5) f.2.2.2.2.2
theorem c_Lf_fr (h : c_Lf H mk o f) (k : c_fr A H G) (ho : o ∉ A) : c_Lf G mk o f := ⟨c_lf_fr h.1 k ho, by rw [k.2.2.2.2.2 o ho]; exact h.2⟩
theorem c_tr_bl (ht : c_tr H mk r T) (f : c_fr [r + 1, r + 2, r + 3] H G) (e : ∀ i j, 1 ≤ i → i ≤ 3 → sw_iv G (r + i) j = if j = y then 0 else sw_iv H (r + i) j) : c_tr G mk r (t_bl T y) := by
  obtain ⟨h1, h2, h3, h4, h5, h6⟩ := ht
  refine ⟨c_ts_fr h1 f, t_ok_bl h2, by rw [f.2.2.2.2.2 r (by simp)]; exact h3, fun x hx => ?_, fun x hx1 hx2 => ?_, fun k hk hne => ?_⟩
  · show w_az mk (sw_iv G (r + 1) x) (fu (t_ky T) y [] x) ∧ w_az mk (sw_iv G (r + 2) x) (fu (t_ph T) y [] x) ∧ sw_iv G (r + 3) x = fu (t_um T) y 0 x
    rw [e 1 x (by omega) (by omega), e 2 x (by omega) (by omega), e 3 x (by omega) (by omega)]
    by_cases c : x = y
    · subst c
      rw [if_pos rfl, if_pos rfl, if_pos rfl, fu_eq, fu_eq, fu_eq]
      exact ⟨Or.inl ⟨rfl, rfl⟩, Or.inl ⟨rfl, rfl⟩, rfl⟩
    · rw [if_neg c, if_neg c, if_neg c, fu_ne c, fu_ne c, fu_ne c]
      exact h4 x hx
  · rw [e 1 x (by omega) (by omega), e 2 x (by omega) (by omega), e 3 x (by omega) (by omega)]
    by_cases c : x = y
    · rw [if_pos c, if_pos c, if_pos c]; exact ⟨rfl, rfl, rfl⟩
    · rw [if_neg c, if_neg c, if_neg c]; exact h5 x hx1 hx2
  · have hne : fu (t_ky T) y [] (2 * k) ≠ [] := hne
    have c : 2 * k ≠ y := fun c => hne (by rw [c, fu_eq])
    rw [fu_ne c] at hne
    obtain ⟨g1, g2⟩ := h6 k hk hne
    show c_lf G mk (r + 5 + k) (t_ow T k) (fu (t_ky T) y [] (2 * k)) (t_sk T k) (t_so T k) (fu (t_ph T) y [] (2 * k)) ∧ w_at mk (sw_iv G (r + 5 + k) 5) (t_sg T k)
    rw [fu_ne c, fu_ne c]
    have nm : r + 5 + k ∉ [r + 1, r + 2, r + 3] := by simp; omega
    exact ⟨c_lf_fr g1 f nm, by rw [f.2.2.2.2.2 _ nm]; exact g2⟩
theorem c_blankX (ht : c_tr H mk r T) (hy : y < 31) (q : ∀ G, c_tr G mk r (t_bl T y) → c_fr (c_rg r) H G → Q G) : wm_284 r y H Q :=
  c_blankT ht.1 hy (fun G f e => q G (c_tr_bl ht f e) (c_rg_3 f))
theorem c_putLeafX (ht : c_tr H mk r T) (hk : k < 2 ^ t_dp T) (no : o < r ∨ r + 20 < o) (hf : c_Lf H mk o f) (hok : t_lfok f) (q : ∀ G, c_tr G mk r (t_put T k f) → c_fr (c_rg r) H G → Q G) : wm_154 r k o H Q := by
  have d16 := t_d_16 ht.2.1.1
  have hkw := (t_lf_w T k).mpr hk
  refine c_putLeaf ht.1 (by omega) no (fun G fG e1 e2 e3 => q G ?_ (c_fr_sub fG (fun a ha => by rw [c_rg_m]; simp at ha; omega)))
  obtain ⟨h1, h2, h3, h4, h5, h6⟩ := ht
  have w31 := t_w_4 h2.1
  have e4 : sw_iv G (r + 3) = sw_iv H (r + 3) := fG.2.2.2.2.2 _ (by simp; omega)
  refine ⟨c_ts_fr h1 fG, t_ok_put h2 hok, by rw [fG.2.2.2.2.2 r (by simp; omega)]; exact h3, fun x hx => ?_, fun x hx1 hx2 => ?_, fun j hj hne => ?_⟩
  · show w_az mk (sw_iv G (r + 1) x) (fu (t_ky T) (2 * k) f.2.1 x) ∧ w_az mk (sw_iv G (r + 2) x) (fu (t_ph T) (2 * k) f.2.2.2.2.1 x) ∧ sw_iv G (r + 3) x = fu (t_um T) (2 * k) 0 x
    rw [e2, e3, e4]
    by_cases c : x = 2 * k
    · subst c
      rw [if_pos rfl, if_pos rfl, fu_eq, fu_eq, fu_eq]
      refine ⟨Or.inr hf.1.2.1, hf.1.2.2.2.2.1, ?_⟩
      rw [(h4 (2 * k) hkw).2.2]
      exact (h2.2.1 (2 * k) hkw).2.2.1 (by omega)
    · rw [if_neg c, if_neg c, fu_ne c, fu_ne c, fu_ne c]
      exact h4 x hx
  · have hx1 : t_w T ≤ x := hx1
    rw [e2, e3, e4, if_neg (by omega), if_neg (by omega)]
    exact h5 x hx1 hx2
  · have hne : fu (t_ky T) (2 * k) f.2.1 (2 * j) ≠ [] := hne
    show c_lf G mk (r + 5 + j) (fu (t_ow T) k f.1 j) (fu (t_ky T) (2 * k) f.2.1 (2 * j)) (fu (t_sk T) k f.2.2.1 j) (fu (t_so T) k f.2.2.2.1 j) (fu (t_ph T) (2 * k) f.2.2.2.2.1 (2 * j)) ∧ w_at mk (sw_iv G (r + 5 + j) 5) (fu (t_sg T) k f.2.2.2.2.2 j)
    by_cases c : j = k
    · subst c
      rw [fu_eq, fu_eq, fu_eq, fu_eq, fu_eq, fu_eq]
      have hf2 := hf.2
      refine ⟨?_, by rw [e1 5 (by omega)]; exact hf2⟩
      have := hf.1
      unfold c_lf at this ⊢
      rw [e1 0 (by omega), e1 1 (by omega), e1 2 (by omega), e1 3 (by omega), e1 4 (by omega)]
      exact this
    · rw [fu_ne (by omega)] at hne
      rw [fu_ne c, fu_ne (by omega), fu_ne c, fu_ne c, fu_ne (by omega), fu_ne c]
      obtain ⟨g1, g2⟩ := h6 j hj hne
      have nm : r + 5 + j ∉ [r + 5 + k, r + 1, r + 2] := by simp; omega
      exact ⟨c_lf_fr g1 fG nm, by rw [fG.2.2.2.2.2 _ nm]; exact g2⟩
theorem c_bw_2 (hk : k < 2 ^ t_dp T) : ∀ (n h : Nat) {H : sw_H}, c_tr H mk r (t_bwn T k h) → h ≤ t_dp T → t_dp T - h < n → (∀ G, c_tr G mk r (t_bw T k) → c_fr (c_rg r) H G → Q G) → wl_283_2 Q n r k ((h + 1 : Nat) : Int) H
  | 0, _, _, _, _, h, _ => by omega
  | n + 1, h, H, ht, hh, hn, q => by
    have ed := t_bwn_dp (T := T) (k := k) h
    have d4 : t_dp T ≤ 4 := by have := ht.2.1.1; rw [ed] at this; exact this
    have d16 := t_d_16 d4
    unfold wl_283_2
    intro v ev _
    rw [ht.2.2.1, ed] at ev
    subst ev
    refine ⟨fun c => ?_, fun c => ?_⟩
    · have e : h = t_dp T := by omega
      subst e
      exact q H ht (c_fr_refl _ _)
    · refine c_above (f := k) (k := h + 1) (by omega) (by omega) ?_
      intro _ _
      have aw : t_ab k (h + 1) < 31 := by
        have := t_ab_w d4 hk (h := h + 1) (by omega)
        have := t_w_4 d4
        omega
      refine c_blankX (y := t_ab k (h + 1)) ht aw (fun G tG fG => ?_)
      intro _ y ey
      rw [sw_s1 (by omega)] at ey
      subst ey
      exact c_bw_2 hk n (h + 1) tG (by omega) (by omega) (fun Z tZ fZ => q Z tZ (c_fr_t fG fZ))
theorem c_blankWay (ht : c_tr H mk r T) (hk : k < 2 ^ t_dp T) (q : ∀ G, c_tr G mk r (t_bw T k) → c_fr (c_rg r) H G → Q G) : wm_283 r k H Q := by
  unfold wm_283
  exact ⟨t_dp T + 1, c_bw_2 hk _ 0 ht (by omega) (by omega) q⟩
theorem c_leavesX (ht : c_tr H mk r T) (q : P ((2 ^ t_dp T : Nat) : Int) H) : wm_360 r H P := by
  unfold wm_360
  intro v e _
  rw [ht.2.2.1] at e
  rw [e, sw_shl_1 ht.2.1.1]
  exact q
theorem c_topX (ht : c_tr H mk r T) (q : P ((2 ^ t_dp T - 1 : Nat) : Int) H) : wm_259 r H P := by
  have d16 := t_d_16 ht.2.1.1
  have : 0 < 2 ^ t_dp T := Nat.two_pow_pos _
  unfold wm_259
  intro v e _
  rw [ht.2.2.1] at e
  rw [e, sw_shl_1 ht.2.1.1, sw_w_s (by omega) (by omega), show ((2 ^ t_dp T : Nat) : Int) - 1 = ((2 ^ t_dp T - 1 : Nat) : Int) by omega]
  exact q
theorem c_rhb_5 (hL : c_L H mk nn K tl) (ht : c_tr H mk r T) (q1 : t_rb T → P 1 H) (q0 : ¬ t_rb T → P 0 H) : ∀ (n k : Nat), k ≤ 2 ^ t_dp T → 2 ^ t_dp T - k < n → 2 ^ (t_dp T - 1) ≤ k → (∀ l, 2 ^ (t_dp T - 1) ≤ l → l < k → t_ky T (2 * l) = []) → wl_359_5 P n r k H
  | 0, _, _, h, _, _ => by omega
  | n + 1, k, hk, hn, h1, h2 => by
    have d16 := t_d_16 ht.2.1.1
    have w31 := t_w_4 ht.2.1.1
    obtain ⟨_, _, _, r1, _, _, _, tya, _⟩ := ht.1
    have ta := tya 1 (by omega) (by omega)
    unfold wl_359_5
    refine c_leavesX ht ?_
    intro _ _
    refine ⟨fun c => q1 (fun l g1 g2 => h2 l g1 (by omega)), fun c => ?_⟩
    have hkw := (t_lf_w T k).mpr (by omega)
    rw [r1, sw_2k (by omega)]
    refine ⟨ta.1, ?_⟩
    intro q6 e6
    rw [e6]
    refine ⟨by omega, by rw [ta.2]; omega, ?_⟩
    intro v ev _
    rw [Int.toNat_natCast] at ev
    have ky := c_ky0 hL ht (x := 2 * k) (by omega)
    rw [← ev] at ky
    refine ⟨fun c2 => ?_, fun c2 => q0 (fun g => c2 (ky.mpr (Or.inr (g k h1 (by omega)))))⟩
    intro y ey
    rw [sw_s1 (by omega)] at ey
    subst ey
    have g : t_ky T (2 * k) = [] := (ky.mp c2).resolve_left (by omega)
    exact c_rhb_5 hL ht q1 q0 n (k + 1) (by omega) (by omega) (by omega) (fun l g1 g2 => by
      rcases Nat.lt_or_ge l k with d | d
      · exact h2 l g1 d
      · rw [show l = k by omega]; exact g)
theorem c_isRightHalfBlank (hL : c_L H mk nn K tl) (ht : c_tr H mk r T) (h0 : 0 < t_dp T) (q1 : t_rb T → P 1 H) (q0 : ¬ t_rb T → P 0 H) : wm_359 r H P := by
  unfold wm_359
  refine c_leavesX ht ?_
  intro _ _ y e
  have e2 : 2 ^ t_dp T = 2 ^ (t_dp T - 1) * 2 := by rw [← Nat.pow_succ]; congr 1; omega
  have d16 := t_d_16 ht.2.1.1
  have e3 : sw_div ((2 ^ t_dp T : Nat) : Int) 2 = ((2 ^ (t_dp T - 1) : Nat) : Int) := by
    have : sw_div ((2 ^ t_dp T : Nat) : Int) 2 = ((2 ^ t_dp T / 2 : Nat) : Int) := sw_div_31 ⟨2 ^ t_dp T, by omega⟩
    rw [this, e2, Nat.mul_div_cancel _ (by decide)]
  rw [e3] at e
  subst e
  exact ⟨2 ^ t_dp T + 1, c_rhb_5 hL ht q1 q0 _ _ (by omega) (by omega) (by omega) (fun l g1 g2 => by omega)⟩
/-- nodes a to y are blank -/
def c_bi (H G : sw_H) (r a y : Nat) : Prop := c_fr [r + 1, r + 2, r + 3] H G ∧ ∀ i j, 1 ≤ i → i ≤ 3 → sw_iv G (r + i) j = if a ≤ j ∧ j < y then 0 else sw_iv H (r + i) j
theorem c_sh_11 {k3 : Nat → Int → sw_H → Prop} {x1 : Int} (ht : c_tr H mk r T) {a : Nat} (q : ∀ G, c_bi H G r a (t_w T) → ∀ v, v = sw_iv G r 0 → sw_c v → ∀ H9, H9 = sw_si G r 0 (sw_w (v - 1)) → ∀ y12, y12 = sw_w (x1 + (-1)) → k3 r y12 H9) : ∀ (n y : Nat) {G : sw_H}, c_bi H G r a y → a ≤ y → y ≤ t_w T → t_w T - y < n → wl_285_11 Q k3 n r x1 y G
  | 0, _, _, _, _, _, h => by omega
  | n + 1, y, G, hb, h1, h2, hn => by
    have w31 := t_w_4 ht.2.1.1
    unfold wl_285_11
    have e0 : sw_iv G r 0 = t_dp T := by rw [hb.1.2.2.2.2.2 r (by simp)]; exact ht.2.2.1
    unfold wm_136
    intro v1 ev1 _
    rw [e0] at ev1
    have key : ∀ d : Fin 5, sw_w (sw_shl 2 (d.val : Int) - 1) = ((2 ^ (d.val + 1) - 1 : Nat) : Int) := by decide +kernel
    have kt : sw_w (sw_shl 2 (t_dp T : Int) - 1) = ((t_w T : Nat) : Int) := key ⟨t_dp T, by have := ht.2.1.1; omega⟩
    rw [ev1, kt]
    intro _ _
    refine ⟨fun c => q G (by rw [show t_w T = y by omega]; exact hb), fun c => ?_⟩
    refine c_blankT (c_ts_fr ht.1 hb.1) (y := y) (by omega) (fun Z fZ eZ => ?_)
    intro _ y2 ey
    rw [sw_s1 (by omega)] at ey
    subst ey
    refine c_sh_11 ht q n (y + 1) ⟨c_fr_t hb.1 fZ, fun i j i1 i2 => ?_⟩ (by omega) (by omega) (by omega)
    rw [eZ i j i1 i2, hb.2 i j i1 i2]
    by_cases c1 : j = y
    · rw [if_pos c1, if_pos (by omega)]
    · rw [if_neg c1]
      by_cases c2 : a ≤ j ∧ j < y
      · rw [if_pos c2, if_pos (by omega)]
      · rw [if_neg c2, if_neg (by omega)]
theorem c_tr_lo {z : Int} (ht : c_tr H mk r T) (h0 : 0 < t_dp T) (hb : c_bi H G r (2 ^ t_dp T - 1) (t_w T)) (hz : z = ((t_dp T - 1 : Nat) : Int)) : c_tr (sw_si G r 0 z) mk r (t_lo T) := by
  have hw := t_lo_w h0
  have hwl := t_lo_le h0
  have f2 := c_fr_si G r 0 z
  have iv : ∀ a, a ≠ r → sw_iv (sw_si G r 0 z) a = sw_iv G a := fun a ha => f2.2.2.2.2.2 a (by simpa using ha)
  obtain ⟨h1, h2, h3, h4, h5, h6⟩ := ht
  refine ⟨c_ts_fr (c_ts_fr h1 hb.1) f2, t_ok_lo h2 h0, by rw [c_si_eq, hz]; rfl, fun x hx => ?_, fun x hx1 hx2 => ?_, fun k hk hne => ?_⟩
  · rw [iv _ (by omega), iv _ (by omega), iv _ (by omega), hb.2 1 x (by omega) (by omega), hb.2 2 x (by omega) (by omega), hb.2 3 x (by omega) (by omega), if_neg (by omega), if_neg (by omega), if_neg (by omega)]
    exact h4 x (by omega)
  · rw [iv _ (by omega), iv _ (by omega), iv _ (by omega), hb.2 1 x (by omega) (by omega), hb.2 2 x (by omega) (by omega), hb.2 3 x (by omega) (by omega)]
    by_cases c : 2 ^ t_dp T - 1 ≤ x ∧ x < t_w T
    · rw [if_pos c, if_pos c, if_pos c]; exact ⟨rfl, rfl, rfl⟩
    · rw [if_neg c, if_neg c, if_neg c]; exact h5 x (by omega) hx2
  · obtain ⟨g1, g2⟩ := h6 k (by omega) hne
    have nm : r + 5 + k ∉ [r + 1, r + 2, r + 3] := by simp; omega
    have nm2 : r + 5 + k ∉ [r] := by simp; omega
    exact ⟨c_lf_fr (c_lf_fr g1 hb.1 nm) f2 nm2, by rw [f2.2.2.2.2.2 _ nm2, hb.1.2.2.2.2.2 _ nm]; exact g2⟩
theorem c_sh_3 : ∀ (d n : Nat) {H : sw_H} {T : w_T}, c_V H mk nn K tl cn cs → c_tr H mk r T → t_dp T = d → d < n → (∀ G, c_tr G mk r (t_shn d T) → c_fr (c_rg r) H G → Q G) → wl_285_3 Q n r d H
  | _, 0, _, _, _, _, _, h, _ => by omega
  | d, n + 1, H, T, hV, ht, hd, hn, q => by
    have d4 := ht.2.1.1
    have d16 := t_d_16 d4
    unfold wl_285_3
    refine ⟨fun c => ?_, fun c => ?_⟩
    · have : d = 0 := by omega
      subst this
      exact q H ht (c_fr_refl _ _)
    · obtain ⟨d', rfl⟩ : ∃ d', d = d' + 1 := ⟨d - 1, by omega⟩
      have hp : 0 < 2 ^ t_dp T := Nat.two_pow_pos _
      have hw := t_w_e T
      refine c_isRightHalfBlank hV.1 ht (by omega) (fun g => ?_) (fun g => ?_)
      · intro _ _
        refine ⟨fun e => absurd e (by decide), fun _ => ?_⟩
        refine c_topX ht ?_
        intro _ _
        refine ⟨t_w T + 1, c_sh_11 (a := 2 ^ t_dp T - 1) ht (fun G hb v ev _ H9 e9 y ey => ?_) _ _ ⟨c_fr_refl _ _, fun i j _ _ => by rw [if_neg (by omega)]⟩ (by omega) (by omega) (by omega)⟩
        have e0 : sw_iv G r 0 = t_dp T := by rw [hb.1.2.2.2.2.2 r (by simp)]; exact ht.2.2.1
        rw [e0, hd] at ev
        subst ev
        rw [sw_w_s (by omega) (by omega)] at e9 ey
        have t9 : c_tr H9 mk r (t_lo T) := by
          rw [e9]
          exact c_tr_lo ht (by omega) hb (by omega)
        have f9 : c_fr (c_rg r) H H9 := by
          rw [e9]
          exact c_fr_t (c_rg_3 hb.1) (c_rg_1 (i := 0) (by omega) (c_fr_si G r 0 _))
        have ey : y = ((d' : Nat) : Int) := by omega
        subst ey
        refine c_sh_3 d' n (c_V_fr hV f9 (fun a ha => by have := ht.1.1; have := ht.1.2.1; rw [c_rg_m] at ha; unfold c_fix; omega)) t9 (by show t_dp T - 1 = d'; omega) (by omega) (fun Z tZ fZ => ?_)
        refine q Z ?_ (c_fr_t f9 fZ)
        unfold t_shn
        rw [if_pos ⟨by omega, g⟩]
        exact tZ
      · intro _ _
        refine ⟨fun _ => ?_, fun e => absurd rfl e⟩
        refine q H ?_ (c_fr_refl _ _)
        unfold t_shn
        rw [if_neg (fun c => g c.2)]
        exact ht
theorem c_shrink (hV : c_V H mk nn K tl cn cs) (ht : c_tr H mk r T) (q : ∀ G, c_tr G mk r (t_sh T) → c_fr (c_rg r) H G → Q G) : wm_285 r H Q := by
  unfold wm_285
  intro v ev _
  rw [ht.2.2.1] at ev
  subst ev
  exact ⟨t_dp T + 1, c_sh_3 _ _ hV ht rfl (by omega) q⟩
end
