/-! ===== the class: writeWelcomeHead ===== -/
noncomputable section
variable {H G Z X Y : sw_H} {mk mm tl tp l0 l1 : List Wt} {ms : List (List Wt)} {rd : Nat → Int} {nn nm r k o h l x y g g1 g2 n m p : Nat} {K K' S : Wt → Prop} {cn cs msk N U M z wp : Int} {T T2 T0 : w_T} {Q : sw_H → Prop} {P : Int → sw_H → Prop} {A : List Nat} {w s n0 cm jn : Wt} {G' : w_G} {L : List w_Ch} {f : p_L} {d : w_Ch} {hs : List Nat}
/-- what the head of a WELCOME reads -/
def c_wq (H : sw_H) (mk : List Wt) (nn : Nat) (K : Wt → Prop) (tl : List Wt) (cn cs : Int) (tp : List Wt) (rd : Nat → Int) (ms : List (List Wt)) (K' : Wt → Prop) (L : List w_Ch) (T0 T : w_T) (msk : Int) (l : Nat) (n0 : Wt) (wp : Int) : Prop := c_hq H mk nn K tl cn cs tp rd ms K' L ∧ (∀ j c, L[j]? = some c → c.1.1 = 1 → sw_iv H 50 j = ((t_fl (h_fd h_a1 T0 L j) : Nat) : Int)) ∧ sw_ty H 85 = 64 ∧ (wp ≠ 0 → c_Pa H ∧ c_pk2 H T msk l (t_wl T l (t_dp T)) ∧ c_pw H mk T l n0 (t_wl T l (t_dp T)))
theorem c_wq_ch (h : c_wq H mk nn K tl cn cs tp rd ms K' L T0 T msk l n0 wp) (hW : c_W G mm nn K tl cn cs) (c : c_ch A H G) (hl : w_le mk mm) (hA : ∀ a ∈ A, a = 14 ∨ a = 15 ∨ a = 1420 ∨ a = 1421) : c_wq G mm nn K tl cn cs tp rd ms K' L T0 T msk l n0 wp := by
  obtain ⟨h1, h2, h3, h4⟩ := h
  have fl := h1.1.1.2.2.2.1
  have ad := h1.1.1.2.2.2.2
  refine ⟨c_hq_ch h1 hW c hl (fun a ha => by have := hA a ha; omega), fun j c' hj h1' => ?_, by rw [(c_fx_ty fl c (q := 85) (by unfold c_fix; omega)).1]; exact h3, fun hw => ?_⟩
  · rw [(c_fx_iv fl ad c (q := 50) (by unfold c_fix; omega) (fun cc => by have := hA _ cc; omega)).1 j]
    exact h2 j c' hj h1'
  · obtain ⟨p1, p2, p3⟩ := h4 hw
    exact ⟨c_Pa_ch p1 fl ad c (fun cc => by have := hA _ cc; omega), c_pk2_ch p2 fl ad c (fun a ha => by have := hA a ha; omega), c_pw_ch p3 fl ad c (fun a ha => by have := hA a ha; omega) hl⟩
theorem c_ww_13 {x1 : Int} (lm : c_lm cn cs N U M) (hvl : ∀ p ∈ ms, w_vl p) (h4 : t_dp T ≤ 4) (hl : l < 2 ^ t_dp T) (hwp : wp = 0 ∨ wp = 1) (h16 : (h_ads T0 L L.length).length ≤ 16) (hadx : ∀ (p j : Nat), (p, j) ∈ h_ads T0 L L.length → p < 2 ^ t_dp T ∧ ∃ k, k < t_dp T ∧ t_cb T l k ≠ 0 ∧ t_ab p (k + 1) = t_ab l (k + 1)) (hS : ∀ (p j : Nat) (c : w_Ch), (p, j) ∈ h_ads T0 L L.length → L[j]? = some c → ∀ v ∈ w_w1 T l n0 wp jn p c, S v) (hj : w_at mk x1 jn)
    (q : ∀ J mm, w_mo S mk mm → c_bS S mm tl N U M → c_wq J mm nn K tl cn cs tp rd ms K' L T0 T msk l n0 wp → c_rr J mm 1420 1421 (w_weH T l n0 wp jn L (h_ads T0 L L.length)) → c_ch [14, 15, 1420, 1421] H J → Q J) :
    ∀ (n k : Nat) {G : sw_H} {mz : List Wt}, w_mo S mk mz → c_bS S mz tl N U M → c_wq G mz nn K tl cn cs tp rd ms K' L T0 T msk l n0 wp → c_rr G mz 1420 1421 ([w_by 4] ++ w_b16 0 ++ w_wl T l n0 wp jn L (h_ads T0 L k)) → c_ch [14, 15, 1420, 1421] H G → k ≤ L.length → (h_ads T0 L k).length ≤ 16 → L.length - k < n → wl_188_13 Q n 2 x1 wp 3 k G
  | 0, _, _, _, _, _, _, _, _, _, _, h => by omega
  | n + 1, k, G, mz, m1, hb, hq, hr, cG, hk, hk16, hn => by
    obtain ⟨hq1, hpl, t85, hpa⟩ := id hq
    obtain ⟨W, Xx, ci, t44, ln, t20⟩ := id hq1
    obtain ⟨⟨c0, c3, c4, c5, c6, c7, c8, c9, c12, ct, c47, c51, c52, clf⟩, i2, i3, i4⟩ := id ci
    obtain ⟨o0, o1, o2, o3, o4, o5, o6, o7, o8, o9, o10, o11, o12, o13⟩ := id Xx.1
    have d16 := t_d_16 h4
    have ml := c_W_len lm (c_bS_0 hb W.1.1)
    have fl := W.1.2.2.2.1
    have ad := W.1.2.2.2.2
    have wlk := w_wl_ads (T := T) (l := l) (n0 := n0) (wp := wp) (jn := jn) (T0 := T0) k hk
    have l2 : (w_b16 0).length = 2 := rfl
    have fxo : ∀ a ∈ [1420, 1421], c_fix a := fun a ha => by simp at ha; unfold c_fix; omega
    have fxo2 : ∀ a ∈ [1420, 1421], c_fix a ∧ (15 < a ∨ a = 2) := fun a ha => by simp at ha; unfold c_fix; omega
    have oA : ∀ a ∈ [1420, 1421], a = 14 ∨ a = 15 ∨ a = 1420 ∨ a = 1421 := fun a ha => by simp at ha; omega
    have o15 : ∀ a ∈ [14, 15], a = 14 ∨ a = 15 ∨ a = 1420 ∨ a = 1421 := fun a ha => by simp at ha; omega
    unfold wl_188_13
    rw [o8]
    refine ⟨t44, ?_⟩
    intro q85 e85 v88 e88 _
    rw [e85, i2] at e88
    subst e88
    refine ⟨fun c => ?_, fun c => ?_⟩
    · have ek : k = L.length := by omega
      subst ek
      rw [o11]
      refine ⟨t20, ?_⟩
      intro q91 e91
      rw [e91]
      refine c_endRow hr (by omega) rfl (fun Z rZ fZ => ?_)
      intro _
      have cZ := c_V_ch W.1 fZ fxo
      refine q Z mz m1 hb (c_wq_ch hq (c_W_fr W fZ fxo2) cZ (w_le_refl _) oA) ?_ (c_ch_t cG (c_ch_sub cZ (by simp)))
      rw [wlk] at rZ
      exact rZ
    · obtain ⟨d, hd⟩ := h_get (L := L) (k := k) (by omega)
      obtain ⟨e45, e46, e49, ok, lfl, llf, mi, lx, i, e, s', mm1, m2, m3, m4, m5, m6⟩ := i4 k d hd
      have nxt : ∀ {Z : sw_H} {mx : List Wt}, w_mo S mz mx → c_bS S mx tl N U M → c_wq Z mx nn K tl cn cs tp rd ms K' L T0 T msk l n0 wp → c_rr Z mx 1420 1421 ([w_by 4] ++ w_b16 0 ++ w_wl T l n0 wp jn L (h_ads T0 L (k + 1))) → (h_ads T0 L (k + 1)).length ≤ 16 → c_ch [14, 15, 1420, 1421] G Z → wb_188_99 Q (wl_188_13 Q n) 2 x1 wp 3 k Z := fun {Z mx} x1' x2 hZ rZ h16' cZ => by
        unfold wb_188_99
        intro y1 ey
        rw [sw_s1 (by omega)] at ey
        subst ey
        exact c_ww_13 lm hvl h4 hl hwp h16 hadx hS hj q n (k + 1) (w_mo_trans m1 x1') x2 hZ rZ (c_ch_t cG cZ) (by omega) h16' (by omega)
      refine ⟨t44, ?_⟩
      intro q99 e99
      rw [e99, c3]
      refine ⟨(ct 45 (by omega)).1, ?_⟩
      intro q102 e102
      rw [e102]
      refine ⟨by omega, by rw [(ct 45 (by omega)).2]; omega, ?_⟩
      intro v105 e105 _
      rw [Int.toNat_natCast, e45] at e105
      subst e105
      refine ⟨fun c1 => nxt w_mo_refl hb hq (by rw [h_ads_n (by rw [h_kn_e hd]; exact c1)]; exact hr) (by rw [h_ads_n (by rw [h_kn_e hd]; exact c1)]; exact hk16) (c_ch_refl _ _), fun c1 => ?_⟩
      have mem := h_ads_mem (T0 := T0) hd c1 L.length (by omega)
      obtain ⟨p, ep⟩ : ∃ p, p = t_fl (h_fd h_a1 T0 L k) := ⟨_, rfl⟩
      have ads : h_ads T0 L (k + 1) = h_ads T0 L k ++ [(p, k)] := by rw [h_ads_1 (by rw [h_kn_e hd]; exact c1), ep]
      rw [← ep] at mem
      obtain ⟨hp1, kx, hk1, hk2, hk3⟩ := hadx p k mem
      have hSk := hS p k d mem hd
      have h16' : (h_ads T0 L (k + 1)).length ≤ 16 := by
        have hm' : ∀ nn', k + 1 ≤ nn' → (h_ads T0 L (k + 1)).length ≤ (h_ads T0 L nn').length := fun nn' => by
          induction nn' with
          | zero => intro h; omega
          | succ j ih =>
            intro h
            by_cases ej : k + 1 = j + 1
            · rw [ej]; exact Nat.le_refl _
            · have := ih (by omega)
              by_cases cj : h_kn L j = 1
              · rw [h_ads_1 cj, List.length_append]; omega
              · rw [h_ads_n cj]; exact this
        exact Nat.le_trans (hm' L.length (by omega)) h16
      have ewl : w_wl T l n0 wp jn L (h_ads T0 L (k + 1)) = w_wl T l n0 wp jn L (h_ads T0 L k) ++ w_w1 T l n0 wp jn p d := by rw [ads, w_wl_app, w_wl_1 hd]
      -- the package in the message
      obtain ⟨⟨kd, ⟨ik, lf, gg⟩, nn2⟩, ev⟩ : ∃ v : p_C, v = d.1 := ⟨_, rfl⟩
      have c1' : kd = 1 := by rw [← ev] at c1; exact c1
      rw [← ev] at m5
      obtain ⟨_, x2, hx⟩ := p_ct_ix m5
      have hx1 : s' = (i + 12, e) ∧ p_pk K' lx (some (i + 3, i + 12)) = some ((ik, lf, gg), i + 12, i + 12) := by
        rcases hx with ⟨_, es, _, hp, _⟩ | ⟨k2, _⟩ | ⟨k3, _⟩
        · exact ⟨es, hp⟩
        · omega
        · omega
      have ie : i + 12 ≤ lx.length := by rw [hx1.1] at x2; exact Nat.le_trans x2 m4
      have pw := p_pk_w (hvl lx (List.mem_of_getElem? mm1)) ie hx1.2
      have pt := (p_pk_ix hx1.2).2.2.2.1
      have ik4 : lx[i + 4]? = some ik := p_t_sl (i := i + 4) ie pt
      have ik5 : ik.head? = some 5 := (p_t_in pt).2.2.2.1
      obtain ⟨M1, M2, M3⟩ := Xx.2.2.2
      obtain ⟨r1, r2, r3, ra, r4, r5, r6⟩ := M3 mi lx mm1
      have t80 : sw_ty G (sw_rv G 47 k) = 80 := by rw [m2]; exact (r6.choose_spec).1.1
      refine ⟨t44, ?_⟩
      intro q108 e108
      rw [e108, c6]
      refine ⟨(ct 48 (by omega)).1, ?_⟩
      intro q111 e111
      rw [e111]
      refine ⟨by omega, by rw [(ct 48 (by omega)).2]; omega, ?_⟩
      intro v114 e114 _
      rw [Int.toNat_natCast, m3] at e114
      subst e114
      intro y117 e117
      have ey : y117 = ((i + 3 : Nat) : Int) := by rw [e117, sw_w_s (by omega) (by omega)]; omega
      clear e117
      subst ey
      -- with the secret that is found
      have fin : ∀ s0 : Int, w_az mz s0 (w_wsec T l n0 wp p) → wb_188_56 Q (wl_188_13 Q n) 2 x1 wp 3 k ((i + 3 : Nat) : Int) s0 G := fun s0 hs0 => by
        unfold wb_188_56
        rw [o8]
        refine ⟨t44, ?_⟩
        intro q8 e8
        rw [e8, c5]
        refine ⟨c47.1, ?_⟩
        intro q11 e11
        rw [e11]
        refine ⟨by omega, by rw [c47.2]; omega, ?_⟩
        simp only [Int.toNat_natCast]
        refine ⟨t80, ?_⟩
        intro q14 e14
        rw [e14, m2, sw_s1 (by omega)]
        refine c_s_termAt (k := i + 3 + 1) W.1.1.2.1 r6 ik4 (by rw [ik5]; simp) (fun zi ai => ?_)
        intro _ _
        rw [o11]
        refine ⟨t20, ?_⟩
        intro q25 e25
        rw [o2]
        refine ⟨W.2.1.1, ?_⟩
        intro q28 e28
        rw [o8]
        refine ⟨t44, ?_⟩
        intro q31 e31
        rw [e31, c5]
        refine ⟨c47.1, ?_⟩
        intro q34 e34
        rw [e34]
        refine ⟨by omega, by rw [c47.2]; omega, ?_⟩
        refine ⟨t80, ?_⟩
        intro q37 e37
        have e9 : sw_w (((i + 3 : Nat) : Int) + 9) = ((i + 3 + 9 : Nat) : Int) := by rw [sw_w_s (by omega) (by omega)]; omega
        rw [e25, e28, e37, m2, e9]
        clear e9
        refine c_hashOfPart (i := i + 3) (e := i + 3 + 9) lm hb W r6 ⟨by omega, by omega, by omega, by omega⟩ (by omega) ie (by omega) (by rw [pw.1]; exact hSk _ (by unfold w_w1; rw [← ev]; exact List.mem_cons_self ..)) (fun zh A1 ma a1 a2 WA aA cA => ?_)
        rw [pw.1] at aA
        intro _ _
        have qA := c_wq_ch hq WA cA a1.1 o15
        have rA := c_rr_ch W.1 hr cA WA.1 a1.1 (by decide) (by decide)
        have lnA : sw_ln A1 1421 = 1400 := qA.1.2.2.2.2.1
        have OA := qA.1.2.1.1
        refine c_s_term rA (by rw [lnA, List.length_append, List.length_append, l2, List.length_singleton, wlk]; omega) (Nat.le_trans (c_W_len lm (c_bS_0 a2 WA.1.1)) (by decide)) aA (fun B1 rB fB => ?_)
        intro _
        have cB := c_V_ch WA.1 fB fxo
        have WB := c_W_fr WA fB fxo2
        have qB := c_wq_ch qA WB cB (w_le_refl _) oA
        have OB := qB.1.2.1.1
        obtain ⟨n1, n2, n3⟩ := c_nothing WB
        rw [OB.2.2.2.2.2.2.2.2.2.2.2.1, OB.2.1]
        refine ⟨qB.1.2.2.2.2.2, ?_⟩
        intro q50 e50
        refine ⟨n1, ?_⟩
        intro q53 e53
        refine ⟨n1, ?_⟩
        intro q56 e56
        rw [e56, n2]
        refine ⟨n3, ?_⟩
        intro q59 e59
        rw [e50, e53, e59]
        have leA : w_le mk ma := w_le_trans m1.1 a1.1
        refine c_sealS (wc := w_wsec T l n0 wp p) lm a2 WB (w_le_at a1.1 ai) ik5 (w_le_at leA hj) (w_le_az a1.1 hs0) (hSk _ (by unfold w_w1; rw [← ev]; exact List.mem_cons_of_mem _ (List.mem_cons_self ..))) (fun C1 zs mc b1 b2 WC aC cC => ?_)
        intro _ _
        have qC := c_wq_ch qB WC cC b1.1 (by simp)
        have rC := c_rr_ch WB.1 rB cC WC.1 b1.1 (by simp) (by simp)
        have lnC : sw_ln C1 1421 = 1400 := qC.1.2.2.2.2.1
        refine c_s_term rC (by rw [lnC, List.length_append, List.length_append, List.length_append, l2, List.length_singleton, List.length_singleton, wlk]; omega) (Nat.le_trans (c_W_len lm (c_bS_0 b2 WC.1.1)) (by decide)) aC (fun D1 rD fD => ?_)
        intro _
        have cD := c_V_ch WC.1 fD fxo
        have WD := c_W_fr WC fD fxo2
        refine nxt (w_mo_trans a1 b1) b2 (c_wq_ch qC WD cD (w_le_refl _) oA) ?_ h16' (c_ch_sub (c_ch_trans cA (c_ch_trans cB (c_ch_trans cC cD))) (by simp))
        have ee : [w_by 4] ++ w_b16 0 ++ w_wl T l n0 wp jn L (h_ads T0 L k) ++ [w_t 1 [] [] [] (w_pkw (ik, lf, gg))] ++ [w_t 6 ik jn (w_wsec T l n0 wp p) []] = [w_by 4] ++ w_b16 0 ++ w_wl T l n0 wp jn L (h_ads T0 L (k + 1)) := by
          rw [ewl]
          unfold w_w1
          rw [← ev]
          simp only [List.append_assoc, List.cons_append, List.nil_append]
        rw [ee] at rD
        exact rD
      rcases hwp with e0 | e0
      · subst e0
        refine ⟨fun _ => ?_, fun cc => absurd rfl cc⟩
        unfold wb_188_45
        refine ⟨fun cc => absurd rfl cc, fun _ => fin 0 (Or.inl ⟨rfl, ?_⟩)⟩
        unfold w_wsec
        rw [if_pos rfl]
      · subst e0
        obtain ⟨Pa, pk, pws⟩ := hpa (by decide)
        refine ⟨fun cc => absurd cc (by decide), fun _ => ?_⟩
        rw [o9]
        refine ⟨t85, ?_⟩
        intro q121 e121
        refine ⟨t44, ?_⟩
        intro q124 e124
        rw [e124, c8]
        refine ⟨(ct 50 (by omega)).1, ?_⟩
        intro q127 e127
        rw [e127]
        refine ⟨by omega, by rw [(ct 50 (by omega)).2]; omega, ?_⟩
        intro v130 e130 _
        rw [Int.toNat_natCast, hpl k d hd c1, ← ep] at e130
        subst e130
        rw [e121]
        refine c_indexAbove Pa pk h4 hl (by omega) (fun ix kk hk' he' hmf => ?_) (fun no => ?_)
        · intro _ _
          have ixl := (List.getElem?_eq_some_iff.mp hk').1
          have wll := t_wl_len (T := T) (l := l) (t_dp T)
          unfold wb_188_45
          refine ⟨fun _ => ?_, fun cc => absurd cc (by omega)⟩
          rw [o9]
          refine ⟨t85, ?_⟩
          intro q75 e75
          rw [e75, (Pa.2.1 4 (by decide) (by decide)).1]
          refine ⟨(Pa.2.1 4 (by decide) (by decide)).2.1, ?_⟩
          intro q78 e78
          rw [e78]
          refine ⟨by omega, by rw [(Pa.2.1 4 (by decide) (by decide)).2.2]; omega, ?_⟩
          intro v81 e81 _
          rw [Int.toNat_natCast] at e81
          refine fin v81 (Or.inr ?_)
          rw [e81]
          unfold w_wsec
          rw [if_neg (by decide), hmf]
          exact (pws ix kk hk').1
        · exfalso
          obtain ⟨ix, hix⟩ := List.getElem?_of_mem ((t_wl_m (T := T) (l := l) (t_dp T)).mpr ⟨hk1, hk2⟩)
          exact no ix kx hix hk3
theorem c_writeWelcomeHead {x1 : Int} (lm : c_lm cn cs N U M) (hb : c_bS S mk tl N U M) (hvl : ∀ p ∈ ms, w_vl p) (h4 : t_dp T ≤ 4) (hl : l < 2 ^ t_dp T) (hwp : wp = 0 ∨ wp = 1) (h16 : (h_ads T0 L L.length).length ≤ 16) (hadx : ∀ (p j : Nat), (p, j) ∈ h_ads T0 L L.length → p < 2 ^ t_dp T ∧ ∃ k, k < t_dp T ∧ t_cb T l k ≠ 0 ∧ t_ab p (k + 1) = t_ab l (k + 1)) (hS : ∀ (p j : Nat) (c : w_Ch), (p, j) ∈ h_ads T0 L L.length → L[j]? = some c → ∀ v ∈ w_w1 T l n0 wp jn p c, S v) (hj : w_at mk x1 jn) (hq : c_wq H mk nn K tl cn cs tp rd ms K' L T0 T msk l n0 wp) (hOut : c_Out H)
    (q : ∀ J mm, w_mo S mk mm → c_bS S mm tl N U M → c_wq J mm nn K tl cn cs tp rd ms K' L T0 T msk l n0 wp → c_rr J mm 1420 1421 (w_weH T l n0 wp jn L (h_ads T0 L L.length)) → c_ch [14, 15, 1420, 1421] H J → Q J) : wm_188 2 x1 wp H Q := by
  obtain ⟨W, Xx, ci, t44, ln, t20⟩ := id hq.1
  obtain ⟨o0, o1, o2, o3, o4, o5, o6, o7, o8, o9, o10, o11, o12, o13⟩ := id Xx.1
  have fxo : ∀ a ∈ [1420, 1421], c_fix a := fun a ha => by simp at ha; unfold c_fix; omega
  have fxo2 : ∀ a ∈ [1420, 1421], c_fix a ∧ (15 < a ∨ a = 2) := fun a ha => by simp at ha; unfold c_fix; omega
  have oA : ∀ a ∈ [1420, 1421], a = 14 ∨ a = 15 ∨ a = 1420 ∨ a = 1421 := fun a ha => by simp at ha; omega
  unfold wm_188
  rw [o11]
  refine ⟨t20, ?_⟩
  intro q141 e141
  rw [e141]
  refine c_out_clear W hOut (fun A1 WA rA fA lA => ?_)
  intro _
  rw [fA.2.2.2.2.1 2 11, o11]
  refine ⟨by rw [fA.2.2.1]; exact t20, ?_⟩
  intro q149 e149
  rw [e149]
  refine c_s_byte (x := 4) rA (by rw [lA]; decide) (by decide) (by decide) (fun B1 rB fB => ?_)
  intro _
  have fB2 := c_fr_t fA fB
  rw [fB2.2.2.2.2.1 2 11, o11]
  refine ⟨by rw [fB2.2.2.1]; exact t20, ?_⟩
  intro q157 e157
  rw [e157]
  rw [List.nil_append] at rB
  refine c_beginRow rB (by rw [fB2.2.2.2.1, ln]; decide) (fun E1 rE fE => ?_)
  intro _ _
  have fE2 := c_fr_t fB2 fE
  have WE := c_W_fr W fE2 fxo2
  have cE := c_V_ch W.1 fE2 fxo
  exact ⟨L.length + 1, c_ww_13 (H := H) lm hvl h4 hl hwp h16 hadx hS hj q (L.length + 1) 0 w_mo_refl hb (c_wq_ch hq WE cE (w_le_refl _) oA) (by show c_rr E1 mk 1420 1421 ([w_by 4] ++ w_b16 0 ++ []); rw [List.append_nil]; exact rE) (c_ch_sub cE (by simp)) (Nat.zero_le _) (Nat.zero_le _) (by omega)⟩
end
