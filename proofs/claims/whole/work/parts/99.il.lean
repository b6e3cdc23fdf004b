/-! ===== the reference: isSound, isTreeSigned, findLeafOf ===== -/
noncomputable section
/-- each leaf is signed -/
def t_lfa (T : w_T) (l : Nat) : p_L := (t_ow T l, t_ky T (2 * l), t_sk T l, t_so T l, t_ph T (2 * l), t_sg T l)
def t_sgn (T : w_T) : Prop := ∀ l, t_is T l → w_lfs (t_lfa T l) (l : Int)
/-- the signature that is due there -/
def t_lsg (T : w_T) (l : Nat) : Wt := w_lsg (t_ow T l).toNat (t_ky T (2 * l)) (t_so T l) (t_ph T (2 * l)) (l : Int)
/-- the leaf of a PACKAGE -/
def t_fl1 (T : w_T) (f : p_L) (l : Nat) : Prop := t_is T l ∧ t_ow T l = f.1 ∧ t_ky T (2 * l) = f.2.1 ∧ t_sk T l = f.2.2.1 ∧ t_so T l = 1 ∧ t_sg T l = f.2.2.2.2.2
variable {I I0 J X : sr_V} {nn s x l c o fr : Nat} {K K' S : Wt → Prop} {tl mk m0 mm lp : List Wt} {ms : List (List Wt)} {Q : Int → sr_V → Prop} {T : w_T} {f : p_L} {ik g0 : Wt}
theorem r_sn_12 (hs : s < 49) (hT : m_tr I0 m0 s T) (h1 : t_one T) (h2 : t_onm T) (hS : ∀ v, t_sS T v → S v) (q : ∀ z J mm, ((z = 1 ∧ t_snd T) ∨ (z = 0 ∧ ¬ t_snd T)) → w_mo S m0 mm → m_bS S mm → m_L J mm nn K tl → m_gp m_pss I0 J → Q z J) : ∀ (n k : Nat) {I : sr_V} {mq : List Wt}, w_mo S m0 mq → m_bS S mq → m_L I mq nn K tl → m_gp m_pss I0 I → 2 * k + 1 ≤ t_w T + 1 → t_w T - (2 * k + 1) < n → (∀ x, x < 2 * k + 1 → x % 2 = 1 → t_ky T x ≠ [] → t_snx T x) → rl_237_12 Q n s ((2 * k + 1 : Nat) : Int) I
  | 0, _, _, _, _, _, _, _, _, h, _ => by omega
  | n + 1, k, I, mq, mo, hb, hL, gI, hk, hn, inv => by
    have h4 := hT.1.1
    have w31 := t_w_4 h4
    have tI : m_tr I mq s T := m_tr_le (m_tr_gp hT gI (fun f k p q => by unfold m_pl at p; unfold m_pss m_p2 m_prs at q; omega)) mo.1
    unfold rl_237_12
    refine r_width hs tI.2.1 h4 ?_
    intro _
    have twe : t_w T = 2 ^ (t_dp T + 1) - 1 := rfl
    rw [← twe]
    refine ⟨fun c => q 1 I mq (Or.inl ⟨rfl, h1, h2, fun x hx => inv x (by omega)⟩) mo hb hL gI, fun c => ?_⟩
    have hx : 2 * k + 1 < t_w T := by omega
    have nxt : ∀ {J : sr_V} {mj : List Wt}, (t_ky T (2 * k + 1) ≠ [] → t_snx T (2 * k + 1)) → w_mo S m0 mj → m_bS S mj → m_L J mj nn K tl → m_gp m_pss I0 J → rb_237_63 Q (rl_237_12 Q n) s ((2 * k + 1 : Nat) : Int) J := fun {J mj} hs1 a1 a2 a3 a4 => by
      unfold rb_237_63
      intro y ey
      have e : sw_w (((2 * k + 1 : Nat) : Int) + 2) = ((2 * (k + 1) + 1 : Nat) : Int) := by rw [sw_w_s (by omega) (by omega)]; omega
      rw [e] at ey
      rw [ey]
      refine r_sn_12 hs hT h1 h2 hS q n (k + 1) a1 a2 a3 a4 (by omega) (by omega) (fun x x1 x2 => ?_)
      by_cases e : x = 2 * k + 1
      · rw [e]; exact hs1
      · exact inv x (by omega) x2
    refine r_isBlankT hs tI hx (fun g => ?_) (fun g => ?_)
    · intro _
      exact ⟨fun c => absurd c (by decide), fun _ => nxt (fun c => absurd g c) mo hb hL gI⟩
    intro _
    refine ⟨fun _ => ?_, fun c => absurd rfl c⟩
    refine r_height (by omega) ?_
    intro _
    obtain ⟨hh1, hh2⟩ := t_h_le h4 hx
    have hh2 := hh2 (by omega)
    obtain ⟨s1, s2, s3, s4, s5, s6⟩ := t_sd h4 hx (by omega)
    have p8 : 2 ^ (w_h (2 * k + 1) - 1) ≤ 2 ^ 3 := Nat.pow_le_pow_right (by decide) (by omega)
    have sh : sw_shl 1 (sw_w ((w_h (2 * k + 1) : Nat) - 1)) = ((2 ^ (w_h (2 * k + 1) - 1) : Nat) : Int) := by
      rw [sw_w_s (by omega) (by omega), show ((w_h (2 * k + 1) : Nat) : Int) - 1 = ((w_h (2 * k + 1) - 1 : Nat) : Int) by omega]
      exact sw_shl_1 (by omega)
    have plx : 2 ^ (w_h (2 * k + 1) - 1) ≤ 2 * k + 1 := by rw [s1] at s3; unfold t_lch at s3; have := Nat.two_pow_pos (w_h (2 * k + 1) - 1); omega
    intro y29 e29 y33 e33
    rw [sh] at e29 e33
    have pp := Nat.two_pow_pos (w_h (2 * k + 1) - 1)
    clear sh
    have ee : y29 = ((t_lch (2 * k + 1) : Nat) : Int) := by
      rw [e29, sw_w_s (by omega) (by omega)]
      unfold t_lch
      omega
    have ef : y33 = ((t_rch (2 * k + 1) : Nat) : Int) := by
      rw [e33, sw_w_s (by omega) (by omega)]
      unfold t_rch
      omega
    clear e29 e33
    have no : ∀ {J : sr_V} {mj : List Wt}, ¬ t_snx T (2 * k + 1) → w_mo S m0 mj → m_bS S mj → m_L J mj nn K tl → m_gp m_pss I0 J → Q 0 J := fun {J mj} hs1 a1 a2 a3 a4 => q 0 J mj (Or.inr ⟨rfl, fun h => hs1 (h.2.2 _ hx (by omega) g)⟩) a1 a2 a3 a4
    refine r_isMergedRight hs tI hx (by omega) (fun mg => ?_) (fun mg => ?_)
    rotate_left
    · intro _
      exact ⟨fun _ => no (fun h => mg h.1) mo hb hL gI, fun c => absurd rfl c⟩
    intro _
    refine ⟨fun c => absurd c (by decide), fun _ => ?_⟩
    rw [ee, ef]
    have S1 : ∀ o, (o = t_rch (2 * k + 1) ∨ (o = t_lch (2 * k + 1) ∧ ¬ t_ss T (2 * k + 1) (t_lch (2 * k + 1)) (t_rch (2 * k + 1)))) → S (w_wt T (2 * k + 1) o) ∧ ∀ y ∈ w_ordk (w_h o) o (w_h o + 1) 0, S (w_th T (t_um T (2 * k + 1)) y) := fun o ho => ⟨hS _ ⟨2 * k + 1, o, hx, by omega, g, inv, ho, Or.inl rfl⟩, fun y hy => hS _ ⟨2 * k + 1, o, hx, by omega, g, inv, ho, Or.inr ⟨y, hy, rfl⟩⟩⟩
    refine r_isSideSound (S := S) hs hx g s4 s6 s5 hL tI hb (S1 _ (Or.inl rfl)).1 (S1 _ (Or.inl rfl)).2  (fun J mj a1 a2 a3 a4 a5 => ?_) (fun J mj a1 a2 a3 a4 a5 => ?_)
    · intro _
      exact ⟨fun _ => nxt (fun _ => ⟨mg, Or.inl a1⟩) (w_mo_trans mo a2) a3 a4 (m_gp_trans gI a5), fun c => absurd c (by decide)⟩
    intro _
    refine ⟨fun c => absurd rfl c, fun _ => ?_⟩
    have gJ := m_gp_trans gI a5
    have moJ := w_mo_trans mo a2
    have tJ : m_tr J mj s T := m_tr_le (m_tr_gp hT gJ (fun f k p q => by unfold m_pl at p; unfold m_pss m_p2 m_prs at q; omega)) moJ.1
    refine r_isSideSound (S := S) hs hx g s6 s4 s3 a4 tJ a3 (S1 _ (Or.inr ⟨rfl, a1⟩)).1 (S1 _ (Or.inr ⟨rfl, a1⟩)).2 (fun V mv b1 b2 b3 b4 b5 => ?_) (fun V mv b1 b2 b3 b4 b5 => ?_)
    · intro _
      exact ⟨fun _ => nxt (fun _ => ⟨mg, Or.inr b1⟩) (w_mo_trans moJ b2) b3 b4 (m_gp_trans gJ b5), fun c => absurd c (by decide)⟩
    · intro _
      exact ⟨fun c => absurd rfl c, fun _ => no (fun h => h.2.elim a1 b1) (w_mo_trans moJ b2) b3 b4 (m_gp_trans gJ b5)⟩
theorem r_isSound (hs : s < 49) (hL : m_L I mk nn K tl) (hT : m_tr I mk s T) (hb : m_bS S mk) (hS : ∀ v, t_sS T v → S v) (q : ∀ z J mm, ((z = 1 ∧ t_snd T) ∨ (z = 0 ∧ ¬ t_snd T)) → w_mo S mk mm → m_bS S mm → m_L J mm nn K tl → m_gp m_pss I J → Q z J) : rm_237 s I Q := by
  have tw : 1 ≤ t_w T := by rw [t_w_e]; have := Nat.two_pow_pos (t_dp T); omega
  unfold rm_237
  refine r_isOneKey hs (m_L_nd hL) hT (fun h1 => ?_) (fun h1 => ?_)
  rotate_left
  · intro _
    exact ⟨fun _ => q 0 I mk (Or.inr ⟨rfl, fun h => h1 h.1⟩) w_mo_refl hb hL (m_gp_refl _ _), fun c => absurd rfl c⟩
  intro _
  refine ⟨fun c => absurd c (by decide), fun _ => ?_⟩
  refine r_isOneMember hs hT (fun h2 => ?_) (fun h2 => ?_)
  rotate_left
  · intro _
    exact ⟨fun c => absurd rfl c, fun _ => q 0 I mk (Or.inr ⟨rfl, fun h => h2 h.2.1⟩) w_mo_refl hb hL (m_gp_refl _ _)⟩
  intro _
  exact ⟨fun _ => ⟨t_w T + 1, r_sn_12 hs hT h1 h2 hS q _ 0 w_mo_refl hb hL (m_gp_refl _ _) (by omega) (by omega) (fun x x1 x2 => by omega)⟩, fun c => absurd c (by decide)⟩
theorem r_ts_2 (hT : m_tr I0 m0 48 T) (hM : m_me I0 m0) (hS : ∀ l, t_is T l → (∀ j, j < l → t_is T j → w_lfs (t_lfa T j) (j : Int)) → S (t_lsg T l)) (q : ∀ z J mm, ((z = 1 ∧ t_sgn T) ∨ (z = 0 ∧ ¬ t_sgn T)) → w_mo S m0 mm → m_bS S mm → m_L J mm nn K tl → m_gp m_p2 I0 J → Q z J) : ∀ (n l : Nat) {I : sr_V} {mq : List Wt}, w_mo S m0 mq → m_bS S mq → m_L I mq nn K tl → m_gp m_p2 I0 I → l ≤ 2 ^ t_dp T → 2 ^ t_dp T - l < n → (∀ j, j < l → t_is T j → w_lfs (t_lfa T j) (j : Int)) → rl_238_2 Q n l I
  | 0, _, _, _, _, _, _, _, _, h, _ => by omega
  | n + 1, l, I, mq, mo, hb, hL, gI, hl, hn, inv => by
    have h4 := hT.1.1
    have d16 := t_d_16 h4
    have w31 := t_w_4 h4
    have tI : m_tr I mq 48 T := m_tr_le (m_tr_gp hT gI (fun f k p q => by unfold m_pl at p; unfold m_p2 at q; omega)) mo.1
    have mI : m_me I mq := fun k hk => by rw [gI 20 k (by unfold m_p2; omega), gI 21 k (by unfold m_p2; omega)]; exact ⟨w_le_at mo.1 (hM k hk).1, w_le_at mo.1 (hM k hk).2⟩
    unfold rl_238_2
    refine r_leafCount (s := 48) (by decide) tI.2.1 h4 ?_
    intro _
    refine ⟨fun c => q 1 I mq (Or.inl ⟨rfl, fun j hj => inv j (by have := hj.1; omega) hj⟩) mo hb hL gI, fun c => ?_⟩
    have ll : l < 2 ^ t_dp T := by omega
    have lw := (t_lf_w T l).mpr ll
    have nxt : ∀ {J : sr_V} {mj : List Wt}, (t_is T l → w_lfs (t_lfa T l) (l : Int)) → w_mo S m0 mj → m_bS S mj → m_L J mj nn K tl → m_gp m_p2 I0 J → rb_238_51 Q (rl_238_2 Q n) l J := fun {J mj} hs1 a1 a2 a3 a4 => by
      unfold rb_238_51
      intro y ey
      rw [sw_s1 (by omega)] at ey
      rw [ey]
      refine r_ts_2 hT hM hS q n (l + 1) a1 a2 a3 a4 (by omega) (by omega) (fun j hj => ?_)
      by_cases e : j = l
      · rw [e]; exact hs1
      · exact inv j (by omega)
    rw [sw_2k (by omega)]
    refine r_isBlankT (s := 48) (by decide) tI lw (fun g => ?_) (fun g => ?_)
    · intro _
      exact ⟨fun c => absurd c (by decide), fun _ => nxt (fun c => absurd g c.2) mo hb hL gI⟩
    intro _
    refine ⟨fun _ => ?_, fun c => absurd rfl c⟩
    refine r_spot (s := 48) (by decide) (by omega) ?_
    intro _
    have tis : t_is T l := ⟨ll, g⟩
    have no : ∀ {J : sr_V} {mj : List Wt}, ¬ w_lfs (t_lfa T l) (l : Int) → w_mo S m0 mj → m_bS S mj → m_L J mj nn K tl → m_gp m_p2 I0 J → Q 0 J := fun {J mj} hs1 a1 a2 a3 a4 => q 0 J mj (Or.inr ⟨rfl, fun h => hs1 (h l tis)⟩) a1 a2 a3 a4
    obtain ⟨o1, o2, o3, o4⟩ := tI.2.2.2 l lw g
    obtain ⟨k1, k2, k3, k4, k5⟩ := tI.1.2.2 l lw g
    refine ⟨by omega, by omega, ?_⟩
    intro v29 e29 _
    rw [Int.toNat_natCast, o1] at e29
    refine ⟨fun c1 => no (fun h => ?_) mo hb hL gI, fun c1 => ⟨by omega, by omega, ?_⟩⟩
    · have := h.2.1
      have : t_ow T l < 24 := this
      omega
    obtain ⟨ow, eow⟩ : ∃ ow : Nat, t_ow T l = ow := ⟨(t_ow T l).toNat, by omega⟩
    intro v32 e32 _
    rw [Int.toNat_natCast] at e32
    refine ⟨by omega, by omega, ?_⟩
    intro v35 e35 _
    rw [Int.toNat_natCast, o1, eow] at e35
    rw [e35]
    refine ⟨by omega, by omega, ?_⟩
    intro v38 e38 _
    rw [Int.toNat_natCast] at e38
    have pb := (mI ow (by omega)).2
    rw [← e38] at pb
    rw [← e32] at o2
    refine ⟨fun c2 => no (fun h => c2 ?_) mo hb hL gI, fun c2 => ⟨by omega, by omega, ?_⟩⟩
    · have h3 := h.2.2.1
      have h3 : t_sk T l = w_pub (t_ow T l).toNat := h3
      rw [eow, Int.toNat_natCast] at h3
      rw [h3] at o2
      exact w_at_inj (m_L_nd hL) o2 pb
    have esk : t_sk T l = w_pub ow := by
      rw [c2] at o2
      exact w_at_fun o2 pb
    intro v41 e41 _
    rw [Int.toNat_natCast] at e41
    rw [← e41] at o4
    unfold rm_332
    refine ⟨by omega, by omega, ?_⟩
    intro u1 d1 _
    refine ⟨by omega, by omega, ?_⟩
    intro u4 d4 _
    refine ⟨by omega, by omega, ?_⟩
    intro u7 d7 _
    refine ⟨by omega, by omega, ?_⟩
    intro u10 d10 _
    rw [Int.toNat_natCast] at d1 d4 d7 d10
    rw [o1, eow] at d1
    rw [o3] at d7
    have ky := w_az_ne (tI.2.2.1 _ lw).2.1 g
    have ph := (tI.2.2.1 _ lw).2.2.1
    rw [← d4] at ky
    rw [← d10] at ph
    rw [d1, d7]
    have elsg : t_lsg T l = w_lsg ow (t_ky T (2 * l)) (t_so T l) (t_ph T (2 * l)) (l : Int) := by unfold t_lsg; rw [eow, Int.toNat_natCast]
    have Sl := hS l tis inv
    rw [elsg] at Sl
    refine r_signLeaf (k := t_ky T (2 * l)) (ph := t_ph T (2 * l)) (by omega) hL mI ky (by omega) (by omega) ph ⟨by omega, by omega⟩ (hb _ (w_mo_tl Sl) (w_tl_nd (m_L_nd hL))) (fun t J LJ at1 fJ => ?_)
    intro _ _
    have mo1 : w_mo S mq (w_tl mq (w_lsg ow (t_ky T (2 * l)) (t_so T l) (t_ph T (2 * l)) (l : Int))) := w_mo_tl Sl
    have gJ := m_gp_trans gI (m_f1_gp fJ)
    have lfi : w_lfs (t_lfa T l) (l : Int) ↔ t_sg T l = w_lsg ow (t_ky T (2 * l)) (t_so T l) (t_ph T (2 * l)) (l : Int) := by
      unfold w_lfs w_sok t_lfa w_lsg
      show (0 ≤ t_ow T l ∧ t_ow T l < 24 ∧ t_sk T l = w_pub (t_ow T l).toNat ∧ t_sg T l = w_t 7 (w_nm (t_ow T l).toNat) [] [] (w_lh (t_ow T l) (t_ky T (2 * l)) (t_sk T l) (t_so T l) (t_ph T (2 * l)) ++ if 1 < t_so T l then w_b16 (l : Int) else [])) ↔ _
      rw [eow, Int.toNat_natCast, esk]
      exact ⟨fun h => h.2.2.2, fun h => ⟨by omega, by omega, rfl, h⟩⟩
    refine ⟨fun c3 => nxt (fun _ => lfi.mpr ?_) (w_mo_trans mo mo1) (m_bS_mo hb mo1) LJ gJ, fun c3 => no (fun h => c3 ?_) (w_mo_trans mo mo1) (m_bS_mo hb mo1) LJ gJ⟩
    · rw [c3] at o4
      exact w_at_fun (w_le_at mo1.1 o4) at1
    · rw [lfi.mp h] at o4
      exact w_at_inj (m_L_nd LJ) (w_le_at mo1.1 o4) at1
theorem r_isTreeSigned (hL : m_L I mk nn K tl) (hT : m_tr I mk 48 T) (hM : m_me I mk) (hb : m_bS S mk) (hS : ∀ l, t_is T l → (∀ j, j < l → t_is T j → w_lfs (t_lfa T j) (j : Int)) → S (t_lsg T l)) (q : ∀ z J mm, ((z = 1 ∧ t_sgn T) ∨ (z = 0 ∧ ¬ t_sgn T)) → w_mo S mk mm → m_bS S mm → m_L J mm nn K tl → m_gp m_p2 I J → Q z J) : rm_238 I Q := by
  have hp : 0 < 2 ^ t_dp T := Nat.two_pow_pos _
  unfold rm_238
  exact ⟨2 ^ t_dp T + 1, r_ts_2 hT hM hS q _ 0 w_mo_refl hb hL (m_gp_refl _ _) (by omega) (by omega) (fun j hj => by omega)⟩
theorem r_fl_6 (nd : mk.Nodup) (hT : m_tr I mk 48 T) (h61 : I 1000 61 = f.1) (h62 : w_at mk (I 1000 62) f.2.1) (h67 : w_at mk (I 1000 67) f.2.2.1) (h66 : w_at mk (I 1000 66) f.2.2.2.2.2) (q1 : ∀ l, t_fl1 T f l → (∀ j, j < l → ¬ t_fl1 T f j) → Q l I) (q0 : (∀ l, ¬ t_fl1 T f l) → Q (-1) I) : ∀ (n l : Nat), l ≤ 2 ^ t_dp T → 2 ^ t_dp T - l < n → (∀ j, j < l → ¬ t_fl1 T f j) → rl_236_6 Q n l I
  | 0, _, _, h, _ => by omega
  | n + 1, l, hl, hn, inv => by
    have h4 := hT.1.1
    have d16 := t_d_16 h4
    have w31 := t_w_4 h4
    unfold rl_236_6
    refine r_leafCount (s := 48) (by decide) hT.2.1 h4 ?_
    intro _
    refine ⟨fun c => q0 (fun j hj => inv j (by have := hj.1.1; omega) hj), fun c => ?_⟩
    have ll : l < 2 ^ t_dp T := by omega
    have lw := (t_lf_w T l).mpr ll
    have nxt : ¬ t_fl1 T f l → rb_236_60 Q (rl_236_6 Q n) l I := fun hs1 => by
      unfold rb_236_60
      intro y ey
      rw [sw_s1 (by omega)] at ey
      rw [ey]
      refine r_fl_6 nd hT h61 h62 h67 h66 q1 q0 n (l + 1) (by omega) (by omega) (fun j hj => ?_)
      by_cases e : j = l
      · rw [e]; exact hs1
      · exact inv j (by omega)
    rw [sw_2k (by omega)]
    refine r_spot (s := 48) (by decide) (by omega) ?_
    intro _
    refine ⟨by omega, by omega, ?_⟩
    intro v22 e22 _
    rw [Int.toNat_natCast, (hT.2.2.1 _ lw).1] at e22
    by_cases g : t_ky T (2 * l) = []
    · rw [if_pos g] at e22
      exact ⟨fun _ => nxt (fun h => h.1.2 g), fun c => by omega⟩
    rw [if_neg g, if_pos (by omega)] at e22
    refine ⟨fun c => absurd e22 c, fun _ => ⟨by omega, by omega, ?_⟩⟩
    obtain ⟨o1, o2, o3, o4⟩ := hT.2.2.2 l lw g
    intro v25 e25 _ v28 e28 _
    rw [Int.toNat_natCast, o1] at e25
    rw [h61] at e28
    refine ⟨fun c => nxt (fun h => c (by rw [e25, e28]; exact h.2.1)), fun c1 => ⟨by omega, by omega, ?_⟩⟩
    intro v31 e31 _ v34 e34 _
    rw [Int.toNat_natCast] at e31
    have ky := w_az_ne (hT.2.2.1 _ lw).2.1 g
    rw [← e31] at ky
    rw [← e34] at h62
    refine ⟨fun c => nxt (fun h => c (w_at_inj nd ky (by rw [h.2.2.1]; exact h62))), fun c2 => ⟨by omega, by omega, ?_⟩⟩
    intro v37 e37 _ v40 e40 _
    rw [Int.toNat_natCast] at e37
    rw [← e37] at o2
    rw [← e40] at h67
    refine ⟨fun c => nxt (fun h => c (w_at_inj nd o2 (by rw [h.2.2.2.1]; exact h67))), fun c3 => ⟨by omega, by omega, ?_⟩⟩
    intro v43 e43 _
    rw [Int.toNat_natCast, o3] at e43
    refine ⟨fun c => nxt (fun h => c (by rw [e43]; exact h.2.2.2.2.1)), fun c4 => ⟨by omega, by omega, ?_⟩⟩
    intro v46 e46 _ v49 e49 _
    rw [Int.toNat_natCast] at e46
    rw [← e46] at o4
    rw [← e49] at h66
    refine ⟨fun c => nxt (fun h => c (w_at_inj nd o4 (by rw [h.2.2.2.2.2]; exact h66))), fun c5 => q1 l ⟨⟨ll, g⟩, by rw [← e25, c1, e28], ?_, ?_, by rw [← e43]; exact c4, ?_⟩ inv⟩
    · rw [c2] at ky; exact w_at_fun ky h62
    · rw [c3] at o2; exact w_at_fun o2 h67
    · rw [c5] at o4; exact w_at_fun o4 h66
theorem r_findLeafOf {mi : Nat} (hL : m_L I mk nn K' tl) (hM : m_M I (w_d mk) ms) (hmi : ms[mi]? = some lp) (hx : m_tk I mk K (I 24 mi).toNat lp) (hp : w_isP K lp (ik, f, g0)) (hT : m_tr I mk 48 T) (q1 : ∀ l J, t_fl1 T f l → (∀ j, j < l → ¬ t_fl1 T f j) → m_fr [] [57, 58, 59, 60, 61, 62, 63, 64, 65, 66, 67, 68, 69, 70, 71, 72] I J → Q l J) (q0 : ∀ J, (∀ l, ¬ t_fl1 T f l) → m_fr [] [57, 58, 59, 60, 61, 62, 63, 64, 65, 66, 67, 68, 69, 70, 71, 72] I J → Q (-1) J) : rm_236 mi I Q := by
  unfold rm_236
  refine r_isPackage hM hmi hx (fun v J hv hq fJ => ?_) (fun J hno fJ => absurd hp (hno _))
  intro _
  have ev : v = (ik, f, g0) := by
    have a := hv.2
    rw [hp.2] at a
    have a := Option.some.inj a
    rw [Prod.mk.injEq] at a
    exact a.1.symm
  subst ev
  obtain ⟨mo, k, p, so, ph, g⟩ := f
  obtain ⟨b1, b2, b3, b4⟩ := hq
  obtain ⟨l1, l2, l3, l4, l5, l6, l7⟩ := b2
  have gJ := m_fr_gp fJ
  have TJ := m_tr_gp hT gJ (fun f k p q => by
    unfold m_pl at p
    rcases q with ⟨_, c⟩ | ⟨c, _⟩
    · cases c
    · omega)
  have hp : 0 < 2 ^ t_dp T := Nat.two_pow_pos _
  exact ⟨2 ^ t_dp T + 1, r_fl_6 (f := (mo, k, p, so, ph, g)) (m_L_nd hL) TJ l1 l2 l3 l6 (fun l h1 h2 => q1 l J h1 h2 fJ) (fun h => q0 J h fJ) _ 0 (by omega) (by omega) (fun j hj => by omega)⟩
end
