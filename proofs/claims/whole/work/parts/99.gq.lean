/-! ===== the class: writePathNodes ===== -/
noncomputable section
section
variable {T : w_T} {msk : Int} {l k v : Nat}
theorem w_sq_at : ∀ {hs : List Nat} {i j : Nat}, hs[i]? = some k → (w_rq T msk l k)[j]? = some v → (w_sq T msk l hs)[(w_sq T msk l (hs.take i)).length + j]? = some v
  | [], _, _, h, _ => by simp at h
  | h :: t, 0, j, e, hv => by
    have e : h = k := by simpa using e
    subst e
    have es : w_sq T msk l (h :: t) = w_rq T msk l h ++ w_sq T msk l t := List.flatMap_cons
    rw [es, List.take_zero]
    show (w_rq T msk l h ++ w_sq T msk l t)[0 + j]? = some v
    rw [Nat.zero_add, List.getElem?_append_left (List.getElem?_eq_some_iff.mp hv).1]
    exact hv
  | h :: t, i + 1, j, e, hv => by
    have e : t[i]? = some k := by simpa using e
    have ih := w_sq_at (hs := t) e hv
    have es : w_sq T msk l (h :: t) = w_rq T msk l h ++ w_sq T msk l t := List.flatMap_cons
    have et : w_sq T msk l ((h :: t).take (i + 1)) = w_rq T msk l h ++ w_sq T msk l (t.take i) := by rw [List.take_succ_cons]; exact List.flatMap_cons
    rw [es, et, List.length_append, Nat.add_assoc, List.getElem?_append_right (by omega), Nat.add_sub_cancel_left]
    exact ih
end
variable {H G Z X Y : sw_H} {mk mm tl l0 l1 : List Wt} {nn r k o h l x y g n : Nat} {K S : Wt → Prop} {cn cs msk N U M z : Int} {T T2 T0 : w_T} {Q : sw_H → Prop} {P : Int → sw_H → Prop} {A : List Nat} {hs : List Nat} {w n0 : Wt}
/-- path secrets, secrets of nodes and keys lie in Path -/
def c_pw (H : sw_H) (mk : List Wt) (T : w_T) (l : Nat) (n0 : Wt) (hs : List Nat) : Prop := ∀ i k, hs[i]? = some k → w_at mk (sw_iv H 89 i) (t_ls T l n0 (k + 1)) ∧ w_at mk (sw_iv H 90 i) (w_dr (t_ls T l n0 (k + 1)) 5) ∧ w_at mk (sw_iv H 88 i) (w_p5 (w_dr (t_ls T l n0 (k + 1)) 5))
theorem c_pw_ch (h : c_pw H mk T l n0 hs) (fl : c_full H) (ad : c_ads H) (c : c_ch A H G) (hA : ∀ a ∈ A, a ≠ 88 ∧ a ≠ 89 ∧ a ≠ 90) (hl : w_le mk mm) : c_pw G mm T l n0 hs := fun i k hk => by
  have na : ∀ a, a = 88 ∨ a = 89 ∨ a = 90 → ∀ f, sw_iv G a f = sw_iv H a f := fun a ha => (c_fx_iv fl ad c (q := a) (by unfold c_fix; omega) (fun cc => by have := hA a cc; omega)).1
  obtain ⟨a1, a2, a3⟩ := h i k hk
  exact ⟨by rw [na 89 (by omega)]; exact w_le_at hl a1, by rw [na 90 (by omega)]; exact w_le_at hl a2, by rw [na 88 (by omega)]; exact w_le_at hl a3⟩
/-- what writing the path reads -/
def c_wn (H : sw_H) (mk : List Wt) (nn : Nat) (K : Wt → Prop) (tl : List Wt) (cn cs : Int) (T : w_T) (msk : Int) (l : Nat) (n0 : Wt) (r : Nat) (T2 : w_T) : Prop := c_O H ∧ c_W H mk nn K tl cn cs ∧ c_Pa H ∧ c_pk2 H T msk l (t_wl T l (t_dp T)) ∧ c_pw H mk T l n0 (t_wl T l (t_dp T)) ∧ c_tr H mk r T2 ∧ sw_ln H 1421 = 1400 ∧ sw_ty H 1420 = 80
theorem c_wn_ch (hr : 93 < r) (hr2 : r + 20 < 1420) (h : c_wn H mk nn K tl cn cs T msk l n0 r T2) (hW : c_W G mm nn K tl cn cs) (c : c_ch A H G) (hl : w_le mk mm) (hA : ∀ a ∈ A, a = 14 ∨ a = 15 ∨ a = 1420 ∨ a = 1421) : c_wn G mm nn K tl cn cs T msk l n0 r T2 := by
  obtain ⟨h1, h2, h3, h4, h5, h6, h7, h8⟩ := h
  have fl := h2.1.2.2.2.1
  have ad := h2.1.2.2.2.2
  exact ⟨c_O_ch h1 c ad fl (fun cc => by have := hA _ cc; omega), hW, c_Pa_ch h3 fl ad c (fun cc => by have := hA _ cc; omega), c_pk2_ch h4 fl ad c (fun a ha => by have := hA a ha; omega), c_pw_ch h5 fl ad c (fun a ha => by have := hA a ha; omega) hl, c_tr_ch h6 fl ad c (fun a ha => by have := hA a ha; omega) hl, by rw [(c_fx_ty fl c (q := 1421) (by unfold c_fix; omega)).2]; exact h7, by rw [(c_fx_ty fl c (q := 1420) (by unfold c_fix; omega)).1]; exact h8⟩
theorem c_wn_31 {k6 : Nat → Nat → Int → Int → sw_H → Prop} {x2 : Int} {i p0 : Nat} (lm : c_lm cn cs N U M) (hr : 93 < r) (hr2 : r + 20 < 1420) (h4 : t_dp T ≤ 4) (hk : (t_wl T l (t_dp T))[i]? = some k) (ep0 : p0 = (w_sq T msk l ((t_wl T l (t_dp T)).take i)).length) (hp5 : p0 + (w_rq T msk l k).length ≤ 576) (hr5 : ∀ y ∈ w_rq T msk l k, y < t_w T2 ∧ (t_ky T2 y).head? = some 5) (hS : ∀ y ∈ w_rq T msk l k, S (w_sea T2 (t_ls T l n0 (k + 1)) y)) (hlen : l1.length + (w_rq T msk l k).length ≤ 1300)
    (q : ∀ J mm, w_mo S mk mm → c_bS S mm tl N U M → c_wn J mm nn K tl cn cs T msk l n0 r T2 → c_rr J mm 1420 1421 (l1 ++ w_b16 ((w_rq T msk l k).length : Nat) ++ (w_rq T msk l k).map (w_sea T2 (t_ls T l n0 (k + 1)))) → c_ch [1420, 1421] H J → k6 2 r x2 ((i + 1 : Nat) : Int) J) :
    ∀ (n j : Nat) {G : sw_H} {mz : List Wt}, w_mo S mk mz → c_bS S mz tl N U M → c_wn G mz nn K tl cn cs T msk l n0 r T2 → c_rr G mz 1420 1421 (l1 ++ w_b16 0 ++ ((w_rq T msk l k).take j).map (w_sea T2 (t_ls T l n0 (k + 1)))) → c_ch [1420, 1421] H G → j ≤ (w_rq T msk l k).length → (w_rq T msk l k).length - j < n → wl_290_31 Q k6 n 2 r x2 i ((l1.length + 2 : Nat) : Int) ((p0 + j : Nat) : Int) G
  | 0, _, _, _, _, _, _, _, _, _, h => by omega
  | n + 1, j, G, mz, m1, hb, hn', hrr, cG, hj, hn => by
    have il : i < (t_wl T l (t_dp T)).length := (List.getElem?_eq_some_iff.mp hk).1
    have wll := t_wl_len (T := T) (l := l) (t_dp T)
    have hN := hn'
    obtain ⟨O, W, Pa, pk, pw, tr, ln, ty⟩ := hn'
    have ml := c_W_len lm (c_bS_0 hb W.1.1)
    obtain ⟨o0, o1, o2, o3, o4, o5, o6, o7, o8, o9, o10, o11, o12, o13⟩ := O
    obtain ⟨n1, n2, n3⟩ := c_nothing W
    obtain ⟨p1, p2, p3, p4, p5, p6, p7, p8, p9⟩ := Pa
    have w31 := t_w_4 tr.2.1.1
    have e91 : sw_iv G 91 (i + 1) = ((p0 + (w_rq T msk l k).length : Nat) : Int) := by
      rw [pk.2.2.1 (i + 1) (by omega), List.take_add_one, hk]
      show ((w_sq T msk l ((t_wl T l (t_dp T)).take i ++ [k])).length : Int) = _
      rw [w_sq_s, List.length_append, ep0]
    unfold wl_290_31
    rw [o9]
    refine ⟨p1, ?_⟩
    intro q1 e1
    rw [e1, p3]
    refine ⟨p6.1, ?_⟩
    intro q4 e4
    rw [e4, sw_s1 (by omega)]
    refine ⟨by omega, by rw [p6.2]; omega, ?_⟩
    intro v7 e7 _
    rw [Int.toNat_natCast, e91] at e7
    subst e7
    refine ⟨fun c => ?_, fun c => ?_⟩
    · have ej : j = (w_rq T msk l k).length := by omega
      rw [o11]
      refine ⟨ty, ?_⟩
      intro q10 e10
      rw [e10]
      have tk : (w_rq T msk l k).take j = w_rq T msk l k := by rw [ej]; exact List.take_length
      rw [tk] at hrr
      refine c_endRow hrr (by rw [List.length_map]; omega) rfl (fun Z rZ fZ => ?_)
      intro _ y18 e18
      subst e18
      rw [List.length_map] at rZ
      have cZ := c_V_ch W.1 fZ (fun a ha => by simp at ha; unfold c_fix; omega)
      have WZ := c_W_fr W fZ (fun a ha => by simp at ha; unfold c_fix; omega)
      exact q Z mz m1 hb (c_wn_ch hr hr2 hN WZ cZ (w_le_refl _) (fun a ha => by simp at ha; omega)) rZ (c_ch_t cG cZ)
    · obtain ⟨y, hy⟩ : ∃ y, (w_rq T msk l k)[j]? = some y := ⟨_, List.getElem?_eq_getElem (by omega)⟩
      have ym := List.mem_of_getElem? hy
      obtain ⟨y1, y2⟩ := hr5 y ym
      have e92 : sw_iv G 92 (p0 + j) = (y : Nat) := by rw [ep0]; exact pk.2.2.2 _ _ (w_sq_at hk hy)
      have kne : t_ky T2 y ≠ [] := fun cc => by rw [cc] at y2; exact absurd y2 (by simp)
      have ky := w_az_ne (tr.2.2.2.1 y y1).1 kne
      have ts := tr.1
      have sec := (pw i k hk).1
      rw [ts.2.2.2.1]
      refine ⟨(ts.2.2.2.2.2.2.2.1 1 (by decide) (by decide)).1, ?_⟩
      intro q22 e22
      refine ⟨p1, ?_⟩
      intro q25 e25
      rw [e25, p4]
      refine ⟨p7.1, ?_⟩
      intro q28 e28
      rw [e28]
      refine ⟨by omega, by rw [p7.2]; omega, ?_⟩
      intro v31 e31 _
      rw [Int.toNat_natCast, e92] at e31
      subst e31
      rw [e22]
      refine ⟨by omega, by rw [(ts.2.2.2.2.2.2.2.1 1 (by decide) (by decide)).2]; omega, ?_⟩
      intro v34 e34 _
      rw [Int.toNat_natCast] at e34
      subst e34
      rw [o11, o1]
      refine ⟨ty, ?_⟩
      intro q40 e40
      refine ⟨n1, ?_⟩
      intro q43 e43
      refine ⟨p1, ?_⟩
      intro q46 e46
      rw [e46, (p2 4 (by decide) (by decide)).1]
      refine ⟨(p2 4 (by decide) (by decide)).2.1, ?_⟩
      intro q49 e49
      rw [e49]
      refine ⟨by omega, by rw [(p2 4 (by decide) (by decide)).2.2]; omega, ?_⟩
      intro v52 e52 _
      rw [Int.toNat_natCast] at e52
      subst e52
      refine ⟨n1, ?_⟩
      intro q55 e55
      rw [e55, n2]
      refine ⟨n3, ?_⟩
      intro q58 e58
      rw [e40, e43, e58]
      refine c_sealS (wc := []) lm hb W ky y2 sec (Or.inl ⟨rfl, rfl⟩) (hS y ym) (fun X t mx x1 x2 WX aX cX => ?_)
      intro _ _
      have NX := c_wn_ch hr hr2 hN WX cX x1.1 (by simp)
      have rX := c_rr_ch W.1 hrr cX WX.1 x1.1 (by simp) (by simp)
      have lX : sw_ln X 1421 = 1400 := NX.2.2.2.2.2.2.1
      have lt : (((w_rq T msk l k).take j).map (w_sea T2 (t_ls T l n0 (k + 1)))).length = j := by rw [List.length_map, List.length_take]; omega
      have l2 : (w_b16 0).length = 2 := rfl
      refine c_s_term rX (by rw [lX, List.length_append, List.length_append, lt, l2]; omega) (Nat.le_trans (c_W_len lm (c_bS_0 x2 WX.1.1)) (by decide)) aX (fun Z rZ fZ => ?_)
      intro _ y71 e71
      rw [sw_s1 (by omega)] at e71
      subst e71
      have cZ := c_V_ch WX.1 fZ (fun a ha => by simp at ha; unfold c_fix; omega)
      have WZ := c_W_fr WX fZ (fun a ha => by simp at ha; unfold c_fix; omega)
      refine c_wn_31 lm hr hr2 h4 hk ep0 hp5 hr5 hS hlen q n (j + 1) (w_mo_trans m1 x1) x2 (c_wn_ch hr hr2 NX WZ cZ (w_le_refl _) (fun a ha => by simp at ha; omega)) ?_ (c_ch_sub (c_ch_trans cG (c_ch_trans cX cZ)) (by simp)) (by omega) (by omega)
      have ts : (w_rq T msk l k).take (j + 1) = (w_rq T msk l k).take j ++ [y] := by rw [List.take_add_one, hy]; rfl
      rw [ts, List.map_append, ← List.append_assoc]
      exact rZ
theorem c_wn_6 (lm : c_lm cn cs N U M) (hr : 93 < r) (hr2 : r + 20 < 1420) (hT : t_ok T) (hl : l < 2 ^ t_dp T) (hrq : ∀ k, k < t_dp T → w_rq T2 msk l k = w_rq T msk l k) (hr5 : ∀ k, k < t_dp T → ∀ y ∈ w_rq T msk l k, y < t_w T2 ∧ (t_ky T2 y).head? = some 5) (hS : ∀ k, k < t_dp T → t_cb T l k ≠ 0 → ∀ y ∈ w_rq T msk l k, S (w_sea T2 (t_ls T l n0 (k + 1)) y)) (hlen : l0.length ≤ 590) (hT2 : t_ok T2) (hd2 : t_dp T2 = t_dp T)
    (q : ∀ J mm, w_mo S mk mm → c_bS S mm tl N U M → c_wn J mm nn K tl cn cs T msk l n0 r T2 → c_rr J mm 1420 1421 (l0 ++ w_b16 ((w_nk T T2 msk l n0 (t_dp T)).length : Nat) ++ w_nk T T2 msk l n0 (t_dp T)) → c_ch [1420, 1421] H J → Q J) :
    ∀ (n i nh : Nat) {G : sw_H} {mz : List Wt}, w_mo S mk mz → c_bS S mz tl N U M → c_wn G mz nn K tl cn cs T msk l n0 r T2 → c_rr G mz 1420 1421 (l0 ++ w_b16 0 ++ w_nk T T2 msk l n0 nh) → c_ch [1420, 1421] H G → nh ≤ t_dp T → t_wl T l nh = (t_wl T l (t_dp T)).take i → i ≤ (t_wl T l (t_dp T)).length → (t_wl T l (t_dp T)).length - i < n → wl_290_6 Q n 2 r ((l0.length + 2 : Nat) : Int) i G
  | 0, _, _, _, _, _, _, _, _, _, _, _, _, h => by omega
  | n + 1, i, nh, G, mz, m1, hb, hN, hrr, cG, hnh, ew, hi, hn => by
    have h4 := hT.1
    have wll := t_wl_len (T := T) (l := l) (t_dp T)
    have hF : ∀ n, n < t_dp T → t_cb T l n = 0 → w_nk T T2 msk l n0 (n + 1) = w_nk T T2 msk l n0 n := fun n _ c => w_nk_0 c
    obtain ⟨O, W, Pa, pk, pw, tr, ln, ty⟩ := id hN
    have ml := c_W_len lm (c_bS_0 hb W.1.1)
    obtain ⟨o0, o1, o2, o3, o4, o5, o6, o7, o8, o9, o10, o11, o12, o13⟩ := O
    obtain ⟨p1, p2, p3, p4, p5, p6, p7, p8, p9⟩ := Pa
    have l2 : ∀ z : Int, (w_b16 z).length = 2 := fun _ => rfl
    unfold wl_290_6
    rw [o9]
    refine ⟨p1, ?_⟩
    intro q76 e76 v79 e79 _
    rw [e76, pk.1] at e79
    subst e79
    refine ⟨fun c => ?_, fun c => ?_⟩
    · have ei : i = (t_wl T l (t_dp T)).length := by omega
      rw [ei, List.take_length] at ew
      rw [t_wl_eq hF hnh (Nat.le_refl _) ew] at hrr
      have nkl := w_nk_len (T0 := T) (msk := msk) (n0 := n0) (l := l) hT2 (by rw [hd2]; exact hl) (t_dp T) (by rw [hd2]; exact Nat.le_refl _)
      rw [o11]
      refine ⟨ty, ?_⟩
      intro q82 e82
      rw [e82]
      refine c_endRow hrr (by omega) rfl (fun Z rZ fZ => ?_)
      intro _
      have cZ := c_V_ch W.1 fZ (fun a ha => by simp at ha; unfold c_fix; omega)
      have WZ := c_W_fr W fZ (fun a ha => by simp at ha; unfold c_fix; omega)
      exact q Z mz m1 hb (c_wn_ch hr hr2 hN WZ cZ (w_le_refl _) (fun a ha => by simp at ha; omega)) rZ (c_ch_t cG cZ)
    · obtain ⟨k, hk⟩ : ∃ k, (t_wl T l (t_dp T))[i]? = some k := ⟨_, List.getElem?_eq_getElem (by omega)⟩
      obtain ⟨a1, a2, a3, a4⟩ := t_wl_at hk
      rw [t_wl_eq hF hnh (by omega : k ≤ t_dp T) (ew.trans a3.symm)] at hrr
      have nkl := w_nk_len (T0 := T) (msk := msk) (n0 := n0) (l := l) hT2 (by rw [hd2]; exact hl) k (by rw [hd2]; omega)
      have rql := w_rq_len (msk := msk) hT hl a1
      have sql := w_sq_len (msk := msk) hT hl ((t_wl T l (t_dp T)).take i) (fun j hj => by have := (t_wl_m (t_dp T)).mp (List.mem_of_mem_take hj); omega)
      rw [List.length_take] at sql
      obtain ⟨s1, s2, s3⟩ := pw i k hk
      rw [o11]
      refine ⟨ty, ?_⟩
      intro q90 e90
      refine ⟨p1, ?_⟩
      intro q93 e93
      rw [e93, (p2 3 (by decide) (by decide)).1]
      refine ⟨(p2 3 (by decide) (by decide)).2.1, ?_⟩
      intro q96 e96
      rw [e96]
      refine ⟨by omega, by rw [(p2 3 (by decide) (by decide)).2.2]; omega, ?_⟩
      intro v99 e99 _
      rw [Int.toNat_natCast] at e99
      subst e99
      rw [e90]
      refine c_s_term hrr (by rw [ln, List.length_append, List.length_append, l2]; omega) (by omega) s3 (fun Z rZ fZ => ?_)
      intro _
      have cZ := c_V_ch W.1 fZ (fun a ha => by simp at ha; unfold c_fix; omega)
      have WZ := c_W_fr W fZ (fun a ha => by simp at ha; unfold c_fix; omega)
      have NZ := c_wn_ch hr hr2 hN WZ cZ (w_le_refl _) (fun a ha => by simp at ha; omega)
      rw [NZ.1.2.2.2.2.2.2.2.2.2.2.2.1]
      refine ⟨NZ.2.2.2.2.2.2.2, ?_⟩
      intro q107 e107
      rw [e107]
      have lZ : sw_ln Z 1421 = 1400 := NZ.2.2.2.2.2.2.1
      refine c_beginRow rZ (by rw [lZ, List.length_append, List.length_append, List.length_append, l2, List.length_singleton]; omega) (fun Y rY fY => ?_)
      intro _ _
      have cY := c_V_ch WZ.1 fY (fun a ha => by simp at ha; unfold c_fix; omega)
      have WY := c_W_fr WZ fY (fun a ha => by simp at ha; unfold c_fix; omega)
      have NY := c_wn_ch hr hr2 NZ WY cY (w_le_refl _) (fun a ha => by simp at ha; omega)
      rw [NY.1.2.2.2.2.2.2.2.2.2.1]
      refine ⟨NY.2.2.1.1, ?_⟩
      intro q118 e118
      rw [e118, NY.2.2.1.2.2.1]
      refine ⟨NY.2.2.1.2.2.2.2.2.1.1, ?_⟩
      intro q121 e121
      rw [e121]
      refine ⟨by omega, by rw [NY.2.2.1.2.2.2.2.2.1.2]; omega, ?_⟩
      intro v124 e124 _
      rw [Int.toNat_natCast, NY.2.2.2.1.2.2.1 i (by omega)] at e124
      subst e124
      have l1l : (l0 ++ w_b16 0 ++ w_nk T T2 msk l n0 k ++ [w_p5 (w_dr (t_ls T l n0 (k + 1)) 5)]).length = l0.length + 2 + (w_nk T T2 msk l n0 k).length + 1 := by rw [List.length_append, List.length_append, List.length_append, l2, List.length_singleton]
      refine ⟨(w_rq T msk l k).length + 1, c_wn_31 (mk := mz) (H := Y) (l1 := l0 ++ w_b16 0 ++ w_nk T T2 msk l n0 k ++ [w_p5 (w_dr (t_ls T l n0 (k + 1)) 5)]) (p0 := (w_sq T msk l ((t_wl T l (t_dp T)).take i)).length) lm hr hr2 h4 hk rfl (by omega) (hr5 k a1) (hS k a1 a2) (by rw [l1l]; omega) (fun J mm j1 j2 NJ rJ cJ => ?_) ((w_rq T msk l k).length + 1) 0 w_mo_refl hb NY (by rw [List.take_zero, List.map_nil, List.append_nil]; exact rY) (c_ch_refl _ _) (Nat.zero_le _) (by omega)⟩
      refine c_wn_6 lm hr hr2 hT hl hrq hr5 hS hlen hT2 hd2 q n (i + 1) (k + 1) (w_mo_trans m1 j1) j2 NJ ?_ (c_ch_t cG (c_ch_t cZ (c_ch_t cY cJ))) (by omega) a4 (by omega) (by omega)
      rw [w_nk_1 a2, hrq k a1]
      have e : l0 ++ w_b16 0 ++ (w_nk T T2 msk l n0 k ++ ((w_p5 (w_dr (t_ls T l n0 (k + 1)) 5) :: w_b16 ((w_rq T msk l k).length : Nat)) ++ (w_rq T msk l k).map (w_sea T2 (t_ls T l n0 (k + 1))))) = l0 ++ w_b16 0 ++ w_nk T T2 msk l n0 k ++ [w_p5 (w_dr (t_ls T l n0 (k + 1)) 5)] ++ w_b16 ((w_rq T msk l k).length : Nat) ++ (w_rq T msk l k).map (w_sea T2 (t_ls T l n0 (k + 1))) := by simp only [List.append_assoc, List.cons_append, List.nil_append]
      rw [e]
      exact rJ
theorem c_writePathNodes (lm : c_lm cn cs N U M) (hb : c_bS S mk tl N U M) (hr : 93 < r) (hr2 : r + 20 < 1420) (hT : t_ok T) (hl : l < 2 ^ t_dp T) (hrq : ∀ k, k < t_dp T → w_rq T2 msk l k = w_rq T msk l k) (hr5 : ∀ k, k < t_dp T → ∀ y ∈ w_rq T msk l k, y < t_w T2 ∧ (t_ky T2 y).head? = some 5) (hS : ∀ k, k < t_dp T → t_cb T l k ≠ 0 → ∀ y ∈ w_rq T msk l k, S (w_sea T2 (t_ls T l n0 (k + 1)) y)) (hlen : l0.length ≤ 590) (hT2 : t_ok T2) (hd2 : t_dp T2 = t_dp T) (hN : c_wn H mk nn K tl cn cs T msk l n0 r T2) (hrr : c_rr H mk 1420 1421 l0)
    (q : ∀ J mm, w_mo S mk mm → c_bS S mm tl N U M → c_wn J mm nn K tl cn cs T msk l n0 r T2 → c_rr J mm 1420 1421 (l0 ++ w_b16 ((w_nk T T2 msk l n0 (t_dp T)).length : Nat) ++ w_nk T T2 msk l n0 (t_dp T)) → c_ch [1420, 1421] H J → Q J) : wm_290 2 r H Q := by
  obtain ⟨O, W, Pa, pk, pw, tr, ln, ty⟩ := id hN
  unfold wm_290
  rw [O.2.2.2.2.2.2.2.2.2.2.2.1]
  refine ⟨ty, ?_⟩
  intro q131 e131
  rw [e131]
  refine c_beginRow hrr (by rw [ln]; omega) (fun Y rY fY => ?_)
  intro _ _
  have cY := c_V_ch W.1 fY (fun a ha => by simp at ha; unfold c_fix; omega)
  have WY := c_W_fr W fY (fun a ha => by simp at ha; unfold c_fix; omega)
  have NY := c_wn_ch hr hr2 hN WY cY (w_le_refl _) (fun a ha => by simp at ha; omega)
  exact ⟨(t_wl T l (t_dp T)).length + 1, c_wn_6 (H := H) lm hr hr2 hT hl hrq hr5 hS hlen hT2 hd2 q ((t_wl T l (t_dp T)).length + 1) 0 0 w_mo_refl hb NY (by show c_rr Y mk 1420 1421 (l0 ++ w_b16 0 ++ []); rw [List.append_nil]; exact rY) cY (Nat.zero_le _) rfl (Nat.zero_le _) (by omega)⟩
end
