/-! ===== the class: wantedHash, putInto ===== -/
noncomputable section
variable {H G Z X Y : sw_H} {mk mm tl : List Wt} {nn r k o h l x y g n : Nat} {K S : Wt → Prop} {cn cs msk N U M z : Int} {T T' T0 : w_T} {Q : sw_H → Prop} {P : Int → sw_H → Prop} {A : List Nat} {hs : List Nat} {w wo : Wt} {kf : Nat → Wt} {C : Nat → Int}
theorem c_cr (h : c_W H mk nn K tl cn cs) : sw_rv H 11 0 = 3 ∧ sw_rv H 11 3 = 14 ∧ sw_ty H 3 = 96 ∧ sw_ty H 14 = 80 ∧ sw_ln H 15 = 1400 := by
  obtain ⟨s0, hr⟩ := h.2.2
  exact ⟨h.2.1.2.1, h.2.1.2.2.2.2.1, h.1.1.1.1.1.1, hr.1, h.2.1.2.2.2.2.2.2.2.2.2.1⟩
theorem c_wantedS (lm : c_lm cn cs N U M) (hb : c_bS S mk tl N U M) (hW : c_W H mk nn K tl cn cs) (ht : c_tr H mk r T) (hx : x < t_w T) (hk : t_ky T x ≠ []) (hz : w_at mk z wo) (hS : S (w_t 1 [] [] [] [t_ky T x, w_pb (t_ph T x), wo])) (q : ∀ t X mm, w_mo S mk mm → c_bS S mm tl N U M → c_W X mm nn K tl cn cs → w_at mm t (w_t 1 [] [] [] [t_ky T x, w_pb (t_ph T x), wo]) → c_ch [14, 15] H X → P t X) : wm_362 11 r x z H P := by
  have w31 := t_w_4 ht.2.1.1
  have ml := c_W_len lm (c_bS_0 hb hW.1.1)
  have r1 := ht.1.1
  have kx := w_az_ne (ht.2.2.2.1 x hx).1 hk
  have px := (ht.2.2.2.1 x hx).2.1
  obtain ⟨p1, p2, p3, p4, p5⟩ := c_cr hW
  unfold wm_362
  rw [p2]
  refine ⟨p4, ?_⟩
  intro q1 e1
  rw [e1]
  refine c_W_clear hW (fun H2 W2 r2 f2 l15 => ?_)
  intro _
  obtain ⟨p1, p2, p3, p4, p5⟩ := c_cr W2
  have t2 := c_ts_fr ht.1 f2
  rw [p2]
  refine ⟨p4, ?_⟩
  intro q9 e9
  rw [t2.2.2.2.1]
  refine ⟨(t2.2.2.2.2.2.2.2.1 1 (by decide) (by decide)).1, ?_⟩
  intro q12 e12
  rw [e9, e12]
  refine ⟨by omega, by rw [(t2.2.2.2.2.2.2.2.1 1 (by decide) (by decide)).2]; omega, ?_⟩
  intro v15 e15 _
  rw [Int.toNat_natCast, f2.2.2.2.2.2 (r + 1) (by simp; omega)] at e15
  subst e15
  refine c_s_term r2 (by rw [l15]; decide) (by omega) kx (fun H3 r3 f3 => ?_)
  intro _
  have f23 := c_fr_t f2 f3
  have W3 := c_W_row hW f23 r3
  obtain ⟨p1, p2, p3, p4, p5⟩ := c_cr W3
  have t3 := c_ts_fr ht.1 f23
  rw [p2]
  refine ⟨p4, ?_⟩
  intro q23 e23
  rw [t3.2.2.2.2.1]
  refine ⟨(t3.2.2.2.2.2.2.2.1 2 (by decide) (by decide)).1, ?_⟩
  intro q26 e26
  rw [e23, e26]
  refine ⟨by omega, by rw [(t3.2.2.2.2.2.2.2.1 2 (by decide) (by decide)).2]; omega, ?_⟩
  intro v29 e29 _
  rw [Int.toNat_natCast, f23.2.2.2.2.2 (r + 2) (by simp; omega)] at e29
  subst e29
  refine c_s_perhaps W3.1.1 r3 (by rw [p5]; simp) ml px (fun H4 r4 f4 => ?_)
  intro _
  have f24 := c_fr_t f23 f4
  have W4 := c_W_row hW f24 r4
  obtain ⟨p1, p2, p3, p4, p5⟩ := c_cr W4
  rw [p2]
  refine ⟨p4, ?_⟩
  intro q37 e37
  rw [e37]
  refine c_s_term r4 (by rw [p5]; simp) (by omega) hz (fun H5 r5 f5 => ?_)
  intro _
  have f25 := c_fr_t f24 f5
  have W5 := c_W_row hW f25 r5
  obtain ⟨p1, p2, p3, p4, p5⟩ := c_cr W5
  rw [p1]
  refine ⟨p3, ?_⟩
  intro q45 e45
  rw [p2]
  refine ⟨p4, ?_⟩
  intro q48 e48
  rw [e45, e48]
  refine c_hashS lm hb W5 r5 (by simp) (by simpa using hS) (fun X t mm m1 b1 WX aX cX => ?_)
  intro _ _
  have aX : w_at mm t (w_t 1 [] [] [] [t_ky T x, w_pb (t_ph T x), wo]) := by simpa using aX
  exact q t X mm m1 b1 WX aX (c_ch_sub (c_ch_trans (c_V_ch hW.1 f25 (fun a ha => by simp at ha; unfold c_fix; omega)) cX) (by simp))
theorem c_tr_sk1 (ht : c_tr H mk r T) (hx : x < t_w T) (ho : x % 2 = 1) (hw : w ≠ []) (hz : w_at mk z w) : c_tr (sw_si H (r + 1) x z) mk r (t_sk1 T x w) := by
  have f : c_fr [r + 1] H (sw_si H (r + 1) x z) := c_fr_si _ _ _ _
  obtain ⟨h1, h2, h3, h4, h5, h6⟩ := ht
  have na : ∀ a, a ≠ r + 1 → sw_iv (sw_si H (r + 1) x z) a = sw_iv H a := fun a ha => f.2.2.2.2.2 a (by simp; exact ha)
  refine ⟨c_ts_fr h1 f, t_ok_sk1 h2 ho hw, by rw [na r (by omega)]; exact h3, fun y hy => ?_, fun y hy hy2 => ?_, fun k hk hn => ?_⟩
  · obtain ⟨a1, a2, a3⟩ := h4 y hy
    rw [na (r + 2) (by omega), na (r + 3) (by omega)]
    refine ⟨?_, a2, a3⟩
    show w_az mk _ (fu (t_ky T) x w y)
    by_cases c : y = x
    · rw [c, c_si_eq, fu_eq]; exact Or.inr hz
    · rw [c_si_f c, fu_ne c]; exact a1
  · have hy : t_w T ≤ y := hy
    rw [na (r + 2) (by omega), na (r + 3) (by omega), c_si_f (by omega)]
    exact h5 y hy hy2
  · have ek : t_ky (t_sk1 T x w) (2 * k) = t_ky T (2 * k) := fu_ne (by omega)
    rw [ek] at hn ⊢
    obtain ⟨a1, a2⟩ := h6 k hk hn
    exact ⟨c_lf_iv a1 (fun f' _ => by rw [na _ (by omega)]) (w_le_refl _), by rw [na _ (by omega)]; exact a2⟩
theorem c_tr_sp (ht : c_tr H mk r T) (hx : x < t_w T) (ho : x % 2 = 1) (hk : t_ky T x ≠ []) (hz : w_az mk z w) : c_tr (sw_si H (r + 2) x z) mk r (t_sp T x w) := by
  have f : c_fr [r + 2] H (sw_si H (r + 2) x z) := c_fr_si _ _ _ _
  obtain ⟨h1, h2, h3, h4, h5, h6⟩ := ht
  have na : ∀ a, a ≠ r + 2 → sw_iv (sw_si H (r + 2) x z) a = sw_iv H a := fun a ha => f.2.2.2.2.2 a (by simp; exact ha)
  refine ⟨c_ts_fr h1 f, t_ok_sp h2 ho hk, by rw [na r (by omega)]; exact h3, fun y hy => ?_, fun y hy hy2 => ?_, fun k hk hn => ?_⟩
  · obtain ⟨a1, a2, a3⟩ := h4 y hy
    rw [na (r + 1) (by omega), na (r + 3) (by omega)]
    refine ⟨a1, ?_, a3⟩
    show w_az mk _ (fu (t_ph T) x w y)
    by_cases c : y = x
    · rw [c, c_si_eq, fu_eq]; exact hz
    · rw [c_si_f c, fu_ne c]; exact a2
  · have hy : t_w T ≤ y := hy
    rw [na (r + 1) (by omega), na (r + 3) (by omega), c_si_f (by omega)]
    exact h5 y hy hy2
  · have ep : t_ph (t_sp T x w) (2 * k) = t_ph T (2 * k) := fu_ne (by omega)
    obtain ⟨a1, a2⟩ := h6 k hk hn
    rw [ep]
    exact ⟨c_lf_iv a1 (fun f' _ => by rw [na _ (by omega)]) (w_le_refl _), by rw [na _ (by omega)]; exact a2⟩
theorem c_pk2_ch (h : c_pk2 H T msk l hs) (fl : c_full H) (ad : c_ads H) (c : c_ch A H G) (hA : ∀ a ∈ A, a ≠ 85 ∧ a ≠ 86 ∧ a ≠ 87 ∧ a ≠ 91 ∧ a ≠ 92) : c_pk2 G T msk l hs := by
  have na : ∀ a, a = 85 ∨ a = 86 ∨ a = 87 ∨ a = 91 ∨ a = 92 → ∀ f, sw_iv G a f = sw_iv H a f := fun a ha => (c_fx_iv fl ad c (q := a) (by unfold c_fix; omega) (fun cc => by have := hA a cc; omega)).1
  refine ⟨by rw [na 85 (by omega)]; exact h.1, fun i j hj => by rw [na 86 (by omega), na 87 (by omega)]; exact h.2.1 i j hj, fun i hi => by rw [na 91 (by omega)]; exact h.2.2.1 i hi, fun p v hv => by rw [na 92 (by omega)]; exact h.2.2.2 p v hv⟩
/-- the keys are put -/
theorem c_pi_5 (hr : 93 < r) (hl : l < 2 ^ t_dp T) (h4 : t_dp T ≤ 4) (q : ∀ G, c_tr G mk r (t_kpn (t_cb T l) T l kf (t_dp T)) → c_fr (c_rg r) H G → ∃ n29, wl_289_29 P n29 85 r 11 0 (((t_wl T l (t_dp T)).length : Int) - 1) G) (hPa : c_Pa H) (hp : c_pk2 H T msk l (t_wl T l (t_dp T))) (hkf : ∀ i k, (t_wl T l (t_dp T))[i]? = some k → w_at mk (sw_iv H 88 i) (kf k) ∧ kf k ≠ []) : ∀ (n i nh : Nat) {G : sw_H}, c_fr (c_rg r) H G → c_tr G mk r (t_kq (t_cb T l) T l kf nh) → nh ≤ t_dp T → t_wl T l nh = (t_wl T l (t_dp T)).take i → i ≤ (t_wl T l (t_dp T)).length → (t_wl T l (t_dp T)).length - i < n → wl_289_5 P n 85 r 11 i G
  | 0, _, _, _, _, _, _, _, _, h => by omega
  | n + 1, i, nh, G, f, tG, hnh, ew, hi, hn => by
    have d16 := t_d_16 h4
    have wll := t_wl_len (T := T) (l := l) (t_dp T)
    have hF : ∀ n, n < t_dp T → t_cb T l n = 0 → t_kq (t_cb T l) T l kf (n + 1) = t_kq (t_cb T l) T l kf n := fun n _ c => t_kq_0 c
    have PG := c_Pa_fr hPa f
    have kG : c_pk2 G T msk l (t_wl T l (t_dp T)) := c_pk2_fr hp f (fun a ha => by rw [c_rg_m] at ha; omega)
    unfold wl_289_5
    intro v46 e46 _
    rw [kG.1] at e46
    subst e46
    refine ⟨fun c => ?_, fun c => ?_⟩
    · have ei : i = (t_wl T l (t_dp T)).length := by omega
      intro v52 e52 _ y55 e55
      rw [kG.1] at e52
      rw [e52, sw_w_s (by omega) (by omega)] at e55
      rw [e55]
      rw [ei, List.take_length] at ew
      have := t_wl_eq hF hnh (Nat.le_refl _) ew
      rw [this, t_kq_kpn (by omega) h4] at tG
      exact q G tG f
    · obtain ⟨k, hk⟩ : ∃ k, (t_wl T l (t_dp T))[i]? = some k := ⟨_, List.getElem?_eq_getElem (by omega)⟩
      obtain ⟨a1, a2, a3, a4⟩ := t_wl_at hk
      have ek := t_wl_eq hF hnh (by omega : k ≤ t_dp T) (ew.trans a3.symm)
      rw [ek] at tG
      obtain ⟨k1, k2, k3, k4⟩ := kG
      obtain ⟨kf1, kf2⟩ := hkf i k hk
      have ts := tG.1
      have xo : t_ab l (k + 1) % 2 = 1 := t_ab_o (by omega) (by omega) (by omega)
      have edp : t_dp (t_kq (t_cb T l) T l kf k) = t_dp T := (t_kq_r k).1
      have xw : t_ab l (k + 1) < t_w (t_kq (t_cb T l) T l kf k) := by rw [t_dp_w edp]; exact t_ab_w h4 hl (by omega)
      have w31 := t_w_4 (T := t_kq (t_cb T l) T l kf k) (by rw [edp]; exact h4)
      rw [ts.2.2.2.1]
      refine ⟨(ts.2.2.2.2.2.2.2.1 1 (by decide) (by decide)).1, ?_⟩
      intro q59 e59
      rw [(PG.2.1 1 (by decide) (by decide)).1]
      refine ⟨(PG.2.1 1 (by decide) (by decide)).2.1, ?_⟩
      intro q62 e62
      rw [e62]
      refine ⟨by omega, by rw [(PG.2.1 1 (by decide) (by decide)).2.2]; omega, ?_⟩
      intro v65 e65 _
      rw [Int.toNat_natCast, (k2 i k hk).1] at e65
      subst e65
      rw [(PG.2.1 3 (by decide) (by decide)).1]
      refine ⟨(PG.2.1 3 (by decide) (by decide)).2.1, ?_⟩
      intro q68 e68
      rw [e68]
      refine ⟨by omega, by rw [(PG.2.1 3 (by decide) (by decide)).2.2]; omega, ?_⟩
      intro v71 e71 _
      rw [Int.toNat_natCast, f.2.2.2.2.2 88 (by rw [c_rg_m]; omega)] at e71
      subst e71
      rw [e59]
      refine ⟨by omega, by rw [(ts.2.2.2.2.2.2.2.1 1 (by decide) (by decide)).2]; omega, ?_⟩
      intro Z eZ
      rw [Int.toNat_natCast] at eZ
      have fZ : c_fr [r + 1] G Z := by rw [eZ]; exact c_fr_si _ _ _ _
      have tZ : c_tr Z mk r (t_kq (t_cb T l) T l kf (k + 1)) := by
        rw [t_kq_1 a2, eZ]
        exact c_tr_sk1 tG xw xo kf2 kf1
      clear eZ
      intro y77 e77
      rw [sw_s1 (by omega)] at e77
      subst e77
      exact c_pi_5 hr hl h4 q hPa hp hkf n (i + 1) (k + 1) (c_fr_t f (c_rg_1 (i := 1) (by decide) fZ)) tZ (by omega) a4 (by omega) (by omega)
/-- the parent hashes are put -/
theorem c_pi_29 (lm : c_lm cn cs N U M) (hr : 93 < r) (hl : l < 2 ^ t_dp T) (h4 : t_dp T ≤ 4) (hkn : ∀ k, k < t_dp T → t_cb T l k ≠ 0 → kf k ≠ []) (hS : ∀ v, t_mw (t_cb T l) (t_kpn (t_cb T l) T l kf (t_dp T)) l v → S v) (q : ∀ z J mm, w_mo S mk mm → c_bS S mm tl N U M → c_W J mm nn K tl cn cs → c_tr J mm r (t_pth (t_cb T l) T l kf).1 → w_az mm z (t_pth (t_cb T l) T l kf).2 → c_ch (14 :: 15 :: 16 :: c_rg r) H J → P z J) : ∀ (n i nh : Nat) {G : sw_H} {mz : List Wt} {x4 : Int}, c_ch (14 :: 15 :: 16 :: c_rg r) H G → w_mo S mk mz → c_bS S mz tl N U M → c_W G mz nn K tl cn cs → c_Pa G → c_pk2 G T msk l (t_wl T l (t_dp T)) → c_tr G mz r (t_pd (t_cb T l) (t_kpn (t_cb T l) T l kf (t_dp T)) l nh).1 → w_az mz x4 (t_pd (t_cb T l) (t_kpn (t_cb T l) T l kf (t_dp T)) l nh).2 → nh ≤ t_dp T → t_wl T l nh = (t_wl T l (t_dp T)).take i → i ≤ (t_wl T l (t_dp T)).length → i < n → wl_289_29 P n 85 r 11 x4 ((i : Int) - 1) G
  | 0, _, _, _, _, _, _, _, _, _, _, _, _, _, _, _, _, h => by omega
  | n + 1, i, nh, G, mz, x4, cG, m1, hb, hW, hPa, hp, tG, h4x, hnh, ew, hi, hn => by
    have d16 := t_d_16 h4
    have wll := t_wl_len (T := T) (l := l) (t_dp T)
    have eT : t_dp (t_kpn (t_cb T l) T l kf (t_dp T)) = t_dp T := t_kpn_dp _
    have hF : ∀ n, n < t_dp T → t_cb T l n = 0 → t_pd (t_cb T l) (t_kpn (t_cb T l) T l kf (t_dp T)) l (n + 1) = t_pd (t_cb T l) (t_kpn (t_cb T l) T l kf (t_dp T)) l n := fun n hn c => t_pd_0 (by rw [eT]; exact hn) c
    unfold wl_289_29
    refine ⟨fun c => ?_, fun c => ?_⟩
    · have ei : i = 0 := by omega
      rw [ei, List.take_zero] at ew
      have e0 := t_wl_eq hF hnh (Nat.zero_le _) (m := 0) ew
      have ep : t_pd (t_cb T l) (t_kpn (t_cb T l) T l kf (t_dp T)) l 0 = t_pth (t_cb T l) T l kf := by unfold t_pd t_pth; rw [eT, Nat.sub_zero]
      rw [e0, ep] at tG h4x
      exact q x4 G mz m1 hb hW tG h4x cG
    · obtain ⟨j, ej⟩ : ∃ j, i = j + 1 := ⟨i - 1, by omega⟩
      subst ej
      have ex : (((j + 1 : Nat) : Int) - 1) = ((j : Nat) : Int) := by omega
      rw [ex]
      obtain ⟨k, hk⟩ : ∃ k, (t_wl T l (t_dp T))[j]? = some k := ⟨_, List.getElem?_eq_getElem (by omega)⟩
      obtain ⟨a1, a2, a3, a4⟩ := t_wl_at hk
      have ek := t_wl_eq hF hnh (by omega : k + 1 ≤ t_dp T) (ew.trans a4.symm)
      rw [ek] at tG h4x
      obtain ⟨k1, k2, k3, k4⟩ := hp
      have fl := hW.1.2.2.2.1
      have ad := hW.1.2.2.2.2
      have ts := tG.1
      have r1 := ts.2.1
      obtain ⟨s1, s2, s3, s4, _, _⟩ := t_si_ok h4 hl a1
      have xo : t_ab l (k + 1) % 2 = 1 := t_ab_o (by omega) (by omega) (by omega)
      -- the tree so far
      obtain ⟨D, eD⟩ : ∃ D, D = t_pd (t_cb T l) (t_kpn (t_cb T l) T l kf (t_dp T)) l (k + 1) := ⟨_, rfl⟩
      have stp := t_pd_1 (C := t_cb T l) (T := t_kpn (t_cb T l) T l kf (t_dp T)) (l := l) (n := k) (by rw [eT]; exact a1) a2
      rw [← eD] at tG h4x stp
      have eDd : t_dp D.1 = t_dp T := by rw [eD]; unfold t_pd; rw [t_pp_dp, eT]
      have eDw : t_w D.1 = t_w T := t_dp_w eDd
      have eDk : t_ky D.1 (t_ab l (k + 1)) = kf k := by
        rw [eD]; unfold t_pd
        rw [t_pp_ky, (t_kpn_ky (by omega) h4 (t_dp T) (Nat.le_refl _) k a1).1, if_neg a2]
      have eDu : t_um D.1 (t_ab l (k + 1)) = 0 := by
        rw [eD]; unfold t_pd
        rw [t_pp_um, (t_kpn_ky (by omega) h4 (t_dp T) (Nat.le_refl _) k a1).2]
      have kne := hkn k a1 a2
      have xw : t_ab l (k + 1) < t_w T := t_ab_w h4 hl (by omega)
      have w31 := t_w_4 h4
      have eSm : ∀ v, (v = w_wt (t_sp D.1 (t_ab l (k + 1)) D.2) (t_ab l (k + 1)) (t_si l k) ∨ ∃ y ∈ w_ordk k (t_si l k) (k + 1) 0, v = w_th (t_sp D.1 (t_ab l (k + 1)) D.2) 0 y) → S v := fun v hv => by
        refine hS v ⟨t_dp T - (k + 1), by rw [eT]; omega, ?_⟩
        have e2 : t_dp (t_kpn (t_cb T l) T l kf (t_dp T)) - 1 - (t_dp T - (k + 1)) = k := by rw [eT]; omega
        have e3 : t_pp (t_cb T l) (t_kpn (t_cb T l) T l kf (t_dp T)) l (t_dp T - (k + 1)) = D := by rw [eD]; unfold t_pd; rw [eT]
        unfold t_pa
        rw [e2, e3]
        exact ⟨a2, hv⟩
      rw [ts.2.2.2.2.1]
      refine ⟨(ts.2.2.2.2.2.2.2.1 2 (by decide) (by decide)).1, ?_⟩
      intro q1 e1
      rw [(hPa.2.1 1 (by decide) (by decide)).1]
      refine ⟨(hPa.2.1 1 (by decide) (by decide)).2.1, ?_⟩
      intro q4 e4
      rw [e4]
      refine ⟨by omega, by rw [(hPa.2.1 1 (by decide) (by decide)).2.2]; omega, ?_⟩
      intro v7 e7 _
      rw [Int.toNat_natCast, (k2 j k hk).1] at e7
      subst e7
      rw [e1]
      refine ⟨by omega, by rw [(ts.2.2.2.2.2.2.2.1 2 (by decide) (by decide)).2]; omega, ?_⟩
      intro Z eZ
      rw [Int.toNat_natCast] at eZ
      have fZ : c_fr [r + 2] G Z := by rw [eZ]; exact c_fr_si _ _ _ _
      have tZ : c_tr Z mz r (t_sp D.1 (t_ab l (k + 1)) D.2) := by
        rw [eZ]
        exact c_tr_sp tG (by rw [eDw]; exact xw) xo (by rw [eDk]; exact kne) h4x
      clear eZ
      have WZ := c_W_fr hW fZ (fun a ha => by simp at ha; unfold c_fix; omega)
      have PZ := c_Pa_fr hPa fZ
      have kZ : c_pk2 Z T msk l (t_wl T l (t_dp T)) := c_pk2_fr ⟨k1, k2, k3, k4⟩ fZ (fun a ha => by simp at ha; omega)
      have cZ : c_ch (14 :: 15 :: 16 :: c_rg r) H Z := c_ch_t cG (c_ch_sub (c_V_ch hW.1 fZ (fun a ha => by simp at ha; unfold c_fix; omega)) (fun a ha => by simp at ha; simp [c_rg_m]; omega))
      rw [(PZ.2.1 2 (by decide) (by decide)).1]
      refine ⟨(PZ.2.1 2 (by decide) (by decide)).2.1, ?_⟩
      intro q13 e13
      rw [e13]
      refine ⟨by omega, by rw [(PZ.2.1 2 (by decide) (by decide)).2.2]; omega, ?_⟩
      intro v16 e16 _
      rw [Int.toNat_natCast, (kZ.2.1 j k hk).2] at e16
      subst e16
      refine c_treeHashS (x := t_si l k) lm hb (by rw [s1]; show t_si l k + 2 ^ k ≤ t_w D.1; rw [eDw]; exact s3) (by rw [s1]; exact s4) WZ tZ (by unfold sw_c; omega) (fun y hy => eSm _ (Or.inr ⟨y, by rw [s1] at hy; exact hy, rfl⟩)) (fun t J mj j1 j2 WJ aJ cJ => ?_)
      intro _ _
      have flZ := WZ.1.2.2.2.1
      have adZ := WZ.1.2.2.2.2
      have PJ := c_Pa_ch PZ flZ adZ cJ (fun cc => by simp at cc)
      have kJ := c_pk2_ch kZ flZ adZ cJ (fun a ha => by simp at ha; omega)
      have tJ := c_tr_ch tZ flZ adZ cJ (fun a ha => by simp at ha; omega) j1.1
      have cJ2 : c_ch (14 :: 15 :: 16 :: c_rg r) H J := c_ch_t cZ (c_ch_sub cJ (fun a ha => by simp at ha; simp; omega))
      rw [(PJ.2.1 1 (by decide) (by decide)).1]
      refine ⟨(PJ.2.1 1 (by decide) (by decide)).2.1, ?_⟩
      intro q27 e27
      rw [e27]
      refine ⟨by omega, by rw [(PJ.2.1 1 (by decide) (by decide)).2.2]; omega, ?_⟩
      intro v30 e30 _
      rw [Int.toNat_natCast, (kJ.2.1 j k hk).1] at e30
      subst e30
      have ewt : w_wt (t_sp D.1 (t_ab l (k + 1)) D.2) (t_ab l (k + 1)) (t_si l k) = w_t 1 [] [] [] [t_ky (t_sp D.1 (t_ab l (k + 1)) D.2) (t_ab l (k + 1)), w_pb (t_ph (t_sp D.1 (t_ab l (k + 1)) D.2) (t_ab l (k + 1))), w_th (t_sp D.1 (t_ab l (k + 1)) D.2) 0 (t_si l k)] := by
        unfold w_wt
        have : t_um (t_sp D.1 (t_ab l (k + 1)) D.2) (t_ab l (k + 1)) = 0 := eDu
        rw [this]
      refine c_wantedS lm j2 WJ tJ (by show t_ab l (k + 1) < t_w D.1; rw [eDw]; exact xw) (by show t_ky D.1 (t_ab l (k + 1)) ≠ []; rw [eDk]; exact kne) aJ (by rw [← ewt]; exact eSm _ (Or.inl rfl)) (fun t2 X mx x1 x2 WX aX cX => ?_)
      rw [← ewt] at aX
      intro _ _ y41 e41
      have flJ := WJ.1.2.2.2.1
      have adJ := WJ.1.2.2.2.2
      have ey : y41 = ((j : Nat) : Int) - 1 := by rw [e41, sw_w_s (by omega) (by omega)]; omega
      rw [ey]
      refine c_pi_29 lm hr hl h4 hkn hS q n j k (c_ch_t cJ2 (c_ch_sub cX (fun a ha => by simp at ha; simp; omega))) (w_mo_trans m1 (w_mo_trans j1 x1)) x2 WX (c_Pa_ch PJ flJ adJ cX (fun cc => by simp at cc)) (c_pk2_ch kJ flJ adJ cX (fun a ha => by simp at ha; omega)) ?_ ?_ (by omega) a3 (by omega) (by omega)
      · rw [stp]
        exact c_tr_ch tJ flJ adJ cX (fun a ha => by simp at ha; omega) x1.1
      · rw [stp]
        exact Or.inr aX
theorem c_putInto (lm : c_lm cn cs N U M) (hb : c_bS S mk tl N U M) (hW : c_W H mk nn K tl cn cs) (ht : c_tr H mk r T) (hr : 93 < r) (hPa : c_Pa H) (hl : l < 2 ^ t_dp T) (hp : c_pk2 H T msk l (t_wl T l (t_dp T))) (hkf : ∀ i k, (t_wl T l (t_dp T))[i]? = some k → w_at mk (sw_iv H 88 i) (kf k) ∧ kf k ≠ []) (hS : ∀ v, t_mw (t_cb T l) (t_kpn (t_cb T l) T l kf (t_dp T)) l v → S v) (q : ∀ z J mm, w_mo S mk mm → c_bS S mm tl N U M → c_W J mm nn K tl cn cs → c_tr J mm r (t_pth (t_cb T l) T l kf).1 → w_az mm z (t_pth (t_cb T l) T l kf).2 → c_ch (14 :: 15 :: 16 :: c_rg r) H J → P z J) : wm_289 85 r l 11 H P := by
  have h4 := ht.2.1.1
  have r1 := ht.1.2.1
  unfold wm_289
  refine c_blankWay ht hl (fun Z tZ fZ => ?_)
  intro _
  have fx : ∀ a ∈ c_rg r, c_fix a := fun a ha => by rw [c_rg_m] at ha; unfold c_fix; omega
  have fx2 : ∀ a ∈ c_rg r, c_fix a ∧ (15 < a ∨ a = 2) := fun a ha => ⟨fx a ha, by rw [c_rg_m] at ha; omega⟩
  have no : ∀ a ∈ c_rg r, a ≠ 85 ∧ a ≠ 86 ∧ a ≠ 87 ∧ a ≠ 91 ∧ a ≠ 92 := fun a ha => by rw [c_rg_m] at ha; omega
  refine ⟨(t_wl T l (t_dp T)).length + 1, c_pi_5 (H := Z) (T := T) (mk := mk) (kf := kf) (msk := msk) hr hl h4 (fun G tG fG => ?_) (c_Pa_fr hPa fZ) (c_pk2_fr hp fZ no) (fun i k hk => by rw [fZ.2.2.2.2.2 88 (by rw [c_rg_m]; omega)]; exact hkf i k hk) ((t_wl T l (t_dp T)).length + 1) 0 0 (c_fr_refl _ _) tZ (Nat.zero_le _) rfl (Nat.zero_le _) (by omega)⟩
  have fHG := c_fr_t fZ fG
  refine ⟨(t_wl T l (t_dp T)).length + 1, c_pi_29 (H := H) (mk := mk) (T := T) (kf := kf) (msk := msk) lm hr hl h4 (fun k hk ck => ?_) hS q ((t_wl T l (t_dp T)).length + 1) (t_wl T l (t_dp T)).length (t_dp T) (c_ch_sub (c_V_ch hW.1 fHG fx) (fun a ha => by simp; exact Or.inr (Or.inr (Or.inr ha)))) w_mo_refl hb (c_W_fr hW fHG fx2) (c_Pa_fr hPa fHG) (c_pk2_fr hp fHG no) ?_ ?_ (Nat.le_refl _) List.take_length.symm (Nat.le_refl _) (by omega)⟩
  · obtain ⟨i, hi⟩ := List.getElem?_of_mem ((t_wl_m (T := T) (l := l) (t_dp T)).mpr ⟨hk, ck⟩)
    exact (hkf i k hi).2
  · have e : t_pd (t_cb T l) (t_kpn (t_cb T l) T l kf (t_dp T)) l (t_dp T) = (t_kpn (t_cb T l) T l kf (t_dp T), []) := by
      unfold t_pd
      rw [t_kpn_dp, Nat.sub_self]
      rfl
    rw [e]; exact tG
  · have e : t_pd (t_cb T l) (t_kpn (t_cb T l) T l kf (t_dp T)) l (t_dp T) = (t_kpn (t_cb T l) T l kf (t_dp T), []) := by
      unfold t_pd
      rw [t_kpn_dp, Nat.sub_self]
      rfl
    rw [e]; exact Or.inl ⟨rfl, rfl⟩
end
