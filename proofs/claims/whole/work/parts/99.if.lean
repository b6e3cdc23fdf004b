/-! ===== the class: checkPath ===== -/
noncomputable section
variable {H B X : sw_H} {nn r l : Nat} {K S : Wt → Prop} {tl mk mm : List Wt} {cn cs N U M msk : Int} {P : Int → sw_H → Prop} {T : w_T} {f : p_L} {ns : List p_N} {L : List w_Ch} {x y : Int} {v w : Wt}
theorem c_az_iff (hL : c_L H mk nn K tl) (h : w_az mk x v) (g : w_az mk y w) : x = y ↔ v = w := by
  rcases h with ⟨h1, h2⟩ | h
  · rcases g with ⟨g1, g2⟩ | g
    · rw [h1, h2, g1, g2]
      exact ⟨fun _ => rfl, fun _ => rfl⟩
    · have := (w_at_le g).1
      refine ⟨fun e => by omega, fun e => ?_⟩
      rw [← e, h2] at g
      exact (c_at_ne hL g rfl).elim
  · rcases g with ⟨g1, g2⟩ | g
    · have := (w_at_le h).1
      refine ⟨fun e => by omega, fun e => ?_⟩
      rw [e, g2] at h
      exact (c_at_ne hL h rfl).elim
    · refine ⟨fun e => w_at_fun (by rw [e] at h; exact h) g, fun e => w_at_inj (c_L_nd hL) (by rw [e] at h; exact h) g⟩
/-- no path -/
theorem c_checkPath0 (hTa : c_Ta H) (h18 : sw_ty H 18 = 72) (t44 : sw_ty H 44 = 24) (hno : sw_iv H 18 11 = -1) (h1 : sw_iv H 44 1 = L.length) (h2 : sw_iv H 44 2 = (h_nad L : Nat)) (q0 : ¬ h_mp L → P 0 H) (q8 : h_mp L → P 8 H) : wm_304 94 r H P := by
  obtain ⟨t94, r0, r1, r2, r3, r4, _⟩ := id hTa
  obtain ⟨nl1, nl2⟩ := h_nad_lt (L := L)
  unfold wm_304
  rw [r2]
  refine ⟨h18, ?_⟩
  intro q153 e153 v156 e156 _
  rw [e153, hno] at e156
  refine ⟨fun c => absurd e156 c, fun _ => ?_⟩
  rw [r3]
  refine ⟨t44, ?_⟩
  intro q195 e195
  rw [e195]
  unfold wm_182
  intro v1 e1 _
  rw [h1] at e1
  have yes : h_mp L → ∀ z : Int, z = 1 → sw_c z → sw_ext H H → (z = 0 → P 0 H) ∧ (z ≠ 0 → P 8 H) := fun hmp z e _ _ => ⟨fun cc => absurd cc (by omega), fun _ => q8 hmp⟩
  refine ⟨fun c0 => yes (Or.inl (List.length_eq_zero_iff.mp (by omega))) 1 rfl, fun c0 => ?_⟩
  intro v4 e4 _ v7 e7 _
  rw [h1] at e4
  rw [h2] at e7
  refine ⟨fun c3 => ?_, fun c3 => yes (Or.inr (nl2.mp (by omega))) 1 rfl⟩
  intro _ _
  refine ⟨fun _ => q0 (fun cc => ?_), fun cc => absurd rfl cc⟩
  rcases cc with cc | cc
  · rw [cc] at e1; exact c0 (by rw [e1]; rfl)
  · have := nl2.mpr cc; omega
theorem d_kf_at {i k : Nat} {n : p_N} (hi : (t_wl T l (t_dp T))[i]? = some k) (hn : ns[i]? = some n) : d_kf T l ns k = n.1 := by
  have il := (List.getElem?_eq_some_iff.mp hi).1
  have e : (t_wl T l k).length = i := by rw [(t_wl_at hi).2.2.1, List.length_take]; omega
  unfold d_kf
  rw [e, hn]
  rfl
def c_Acp (r : Nat) : List Nat := 14 :: 15 :: 16 :: 88 :: c_rg r
theorem c_Acp_m {a : Nat} : a ∈ c_Acp r ↔ (14 ≤ a ∧ a ≤ 16) ∨ a = 88 ∨ (r ≤ a ∧ a ≤ r + 20) := by
  unfold c_Acp
  simp only [List.mem_cons, c_rg_m]
  omega
theorem c_cp_34 (lmm : c_lm cn cs N U M) (hb : c_bS S mk tl N U M) (hW : c_W B mk nn K tl cn cs) (hTa : c_Ta B) (hRe : c_Re B) (hPa : c_Pa B) (h18 : sw_ty B 18 = 72) (h7 : sw_iv B 18 7 = (l : Nat)) (hpn : c_pn B mk ns) (hlf : c_Lf B mk 22 f) (hfo : t_lfok f) (ht : c_tr B mk r T) (hr : 95 < r) (hr2 : r + 20 ≤ 1415) (hl : l < 2 ^ t_dp T) (hky : t_ky T (2 * l) ≠ []) (hln : ns.length = (t_wl T l (t_dp T)).length) (hnn : ∀ n ∈ ns, n.1 ≠ []) (hpk : c_pk2 B T msk l (t_wl T l (t_dp T))) (h576 : (w_sq T msk l (t_wl T l (t_dp T))).length ≤ 576) (hS : ∀ v, t_mw (t_cb T l) (t_kpn (t_cb T l) T l (d_kf T l ns) (t_dp T)) l v → S v)
    (q8 : ∀ X, ¬ d_sh T msk l ns → c_W X mk nn K tl cn cs → c_ts X r → c_ch (c_Acp r) B X → P 8 X)
    (q9 : ∀ X mm, d_sh T msk l ns → ¬ (d_lr T l f ∧ d_ph T l ns = f.2.2.2.2.1) → w_mo S mk mm → c_bS S mm tl N U M → c_W X mm nn K tl cn cs → c_ts X r → c_ch (c_Acp r) B X → P 9 X)
    (q0 : ∀ X mm, d_sh T msk l ns → d_lr T l f ∧ d_ph T l ns = f.2.2.2.2.1 → w_mo S mk mm → c_bS S mm tl N U M → c_W X mm nn K tl cn cs → c_tr X mm r (d_T2 T l f ns) → (∀ i k : Nat, (t_wl T l (t_dp T))[i]? = some k → w_at mm (sw_iv X 88 i) (d_kf T l ns k)) → c_ch (c_Acp r) B X → P 0 X) : ∀ (n i : Nat) {H : sw_H}, c_fr [88] B H → i ≤ (t_wl T l (t_dp T)).length → (t_wl T l (t_dp T)).length - i < n → (∀ j k nd, j < i → (t_wl T l (t_dp T))[j]? = some k → ns[j]? = some nd → nd.2.2.length = (w_rq T msk l k).length) → (∀ j, j < i → sw_iv H 88 j = sw_iv B 19 j) → wl_304_34 P n 94 r i H
  | 0, _, _, _, _, h, _, _ => by omega
  | n + 1, i, H, k, hi, hn, hA, hB => by
    have h4 := ht.2.1.1
    have d16 := t_d_16 h4
    have w31 := t_w_4 h4
    have lw := t_wl_len (T := T) (l := l) (t_dp T)
    have fl := hW.1.2.2.2.1
    have ad := hW.1.2.2.2.2
    obtain ⟨t94, r0, r1, r2, r3, r4, _⟩ := id hTa
    have fx88 : ∀ a ∈ [88], c_fix a ∧ (15 < a ∨ a = 2) := fun a ha => by simp at ha; unfold c_fix; omega
    have WH := c_W_fr hW k fx88
    have cH : c_ch [88] B H := c_V_ch hW.1 k (fun a ha => (fx88 a ha).1)
    have upH : c_ch (c_Acp r) B H := c_ch_sub cH (fun a ha => by rw [c_Acp_m]; simp at ha; omega)
    have trH := c_tr_fr hW.1 ht k (fun a ha => by simp at ha; unfold c_fix; omega)
    have rvH : ∀ a f, sw_rv H a f = sw_rv B a f := k.2.2.2.2.1
    have tyH : ∀ a, sw_ty H a = sw_ty B a := k.2.2.1
    have lnH : ∀ a, sw_ln H a = sw_ln B a := k.2.2.2.1
    have ivH : ∀ a, a ≠ 88 → sw_iv H a = sw_iv B a := fun a ha => k.2.2.2.2.2 a (by simpa using ha)
    have PaH := c_Pa_fr hPa k
    have pkH := c_pk2_fr hpk k (by simp)
    unfold wl_304_34
    rw [rvH 94 4, r4]
    refine ⟨PaH.1, ?_⟩
    intro q1 e1 v4 e4 _
    rw [e1, pkH.1] at e4
    refine ⟨fun c => ?_, fun c => ?_⟩
    · have ei : i = (t_wl T l (t_dp T)).length := by omega
      have hsh : d_sh T msk l ns := ⟨hln, fun j kk nd hj hnd => hA j kk nd (by have := (List.getElem?_eq_some_iff.mp hj).1; omega) hj hnd⟩
      have no9 : ∀ {X : sw_H}, ¬ (d_lr T l f ∧ d_ph T l ns = f.2.2.2.2.1) → c_W X mk nn K tl cn cs → c_ts X r → c_ch (c_Acp r) B X → P 9 X := fun {X} h hX tX cX => q9 X mk hsh h w_mo_refl hb hX tX cX
      have l22 : c_Lf H mk 22 f := c_Lf_fr hlf k (by simp)
      rw [rvH 94 2, r2]
      refine ⟨by rw [tyH]; exact h18, ?_⟩
      intro q7 e7
      rw [e7, rvH 18 15, hRe.1.2.2.2.1]
      refine ⟨by rw [tyH]; exact hRe.2.2.1, ?_⟩
      intro q10 e10 v13 e13 _
      rw [e10, l22.1.1] at e13
      obtain ⟨_, _, _, _, _, _, rv4, _, ty4, ln4, rvk⟩ := trH.1
      rw [rv4]
      refine ⟨ty4, ?_⟩
      intro q16 e16
      refine ⟨by rw [tyH]; exact h18, ?_⟩
      intro q19 e19 v22 e22 _
      rw [e19, ivH 18 (by decide), h7] at e22
      rw [e16, e22]
      refine ⟨by omega, by rw [ln4]; omega, ?_⟩
      rw [Int.toNat_natCast, (rvk l (by omega)).1]
      refine ⟨(rvk l (by omega)).2, ?_⟩
      intro q25 e25 v28 e28 _
      have p1 : (2 : Nat) ^ (t_dp T + 1) = 2 * 2 ^ t_dp T := by rw [Nat.pow_succ]; omega
      have lwl : 2 * l < t_w T := by unfold t_w; omega
      rw [e25, (trH.2.2.2.2.2 l lwl hky).1.1] at e28
      refine ⟨fun c1 => no9 (fun h => c1 (by rw [e13, e28]; exact h.1.1)) WH trH.1 upH, fun c1 => ?_⟩
      have ow : f.1 = t_ow T l := by rw [← e13, c1, e28]
      refine ⟨by rw [tyH]; exact h18, ?_⟩
      intro q31 e31
      rw [e31, rvH 18 15, hRe.1.2.2.2.1]
      refine ⟨by rw [tyH]; exact hRe.2.2.1, ?_⟩
      intro q34 e34 v37 e37 _
      rw [e34] at e37
      rw [e37]
      refine c_isKeyThere WH.1.1 trH l22.1.2.1 (fun kt => ?_) (fun nkt => ?_)
      · intro _ _
        exact ⟨fun _ => no9 (fun h => h.1.2.1 kt) WH trH.1 upH, fun c => absurd c (by decide)⟩
      intro _ _
      refine ⟨fun c => absurd rfl c, fun _ => ?_⟩
      rw [rvH 94 1, r1]
      refine ⟨WH.2.1.1, ?_⟩
      intro q45 e45
      rw [rvH 94 2, r2]
      refine ⟨by rw [tyH]; exact h18, ?_⟩
      intro q48 e48
      rw [e48, rvH 18 15, hRe.1.2.2.2.1]
      refine ⟨by rw [tyH]; exact hRe.2.2.1, ?_⟩
      intro q51 e51
      refine ⟨by rw [tyH]; exact h18, ?_⟩
      intro q54 e54 v57 e57 _
      rw [e54, ivH 18 (by decide), h7] at e57
      rw [e45, e51, e57]
      have hml := c_W_len lmm (c_bS_0 hb WH.1.1)
      refine c_isLeafSigned hml WH l22.1 l22.2 (by decide) (fun z63 G hz WG FG _ _ => ?_)
      have kG : c_fr [88, 14, 15] B G := c_fr_sub (c_fr_trans k FG) (by simp)
      have cG : c_ch [88, 14, 15] B G := c_ch_sub (c_ch_trans cH (c_V_ch WH.1 FG (by unfold c_fix; simp))) (by simp)
      have upG : c_ch (c_Acp r) B G := c_ch_sub cG (fun a ha => by rw [c_Acp_m]; simp at ha; omega)
      have trG := c_tr_fr WH.1 trH FG (fun a ha => by simp at ha; unfold c_fix; omega)
      have PaG := c_Pa_fr PaH FG
      have pkG := c_pk2_fr pkH FG (by simp)
      have l22G : c_Lf G mk 22 f := c_Lf_fr l22 FG (by simp)
      refine ⟨fun c2 => ?_, fun c2 => no9 (fun h => ?_) WG trG.1 upG⟩
      rotate_left
      · rcases hz with ⟨ez, _⟩ | ⟨_, g⟩
        · omega
        · exact g h.1.2.2
      have lfs : w_lfs f (l : Int) := by
        rcases hz with ⟨_, g⟩ | ⟨ez, _⟩
        · exact g
        · exact absurd ez c2
      have hlr : d_lr T l f := ⟨ow, nkt, lfs⟩
      rw [kG.2.2.2.2.1 94 4, r4]
      refine ⟨PaG.1, ?_⟩
      intro q65 e65
      rw [kG.2.2.2.2.1 94 2, r2]
      refine ⟨by rw [kG.2.2.1]; exact h18, ?_⟩
      intro q68 e68 v71 e71 _
      rw [e68, kG.2.2.2.2.2 18 (by simp), h7] at e71
      rw [kG.2.2.2.2.1 94 1, r1]
      refine ⟨WG.2.1.1, ?_⟩
      intro q74 e74
      rw [e65, e71, e74]
      have hkf : ∀ i k : Nat, (t_wl T l (t_dp T))[i]? = some k → w_at mk (sw_iv G 88 i) (d_kf T l ns k) ∧ d_kf T l ns k ≠ [] := fun j kk hj => by
        have jl := (List.getElem?_eq_some_iff.mp hj).1
        obtain ⟨nd, hnd⟩ : ∃ nd, ns[j]? = some nd := ⟨_, List.getElem?_eq_getElem (by omega)⟩
        rw [d_kf_at hj hnd]
        refine ⟨?_, hnn nd (List.mem_of_getElem? hnd)⟩
        rw [FG.2.2.2.2.2 88 (by simp), hB j (by omega)]
        obtain ⟨n1, n2, n3⟩ := nd
        exact (hpn.2 j n1 n2 n3 (by omega) hnd).1
      refine c_putInto (kf := d_kf T l ns) (S := S) lmm hb WG trG (by omega) PaG hl pkG hkf hS (fun z80 J mm mo bJ WJ trJ az cJ => ?_)
      intro _ _
      have flG := WG.1.2.2.2.1
      have adG := WG.1.2.2.2.2
      have nin : ∀ a, 16 < a → a ≤ 95 → a ∉ (14 :: 15 :: 16 :: c_rg r) := fun a h1 h2 c => by
        simp only [List.mem_cons, c_rg_m] at c
        omega
      have fJ : ∀ a, 16 < a → a ≤ 95 → (∀ f, sw_iv J a f = sw_iv G a f) ∧ ∀ f, sw_rv J a f = sw_rv G a f := fun a h1 h2 => c_fx_iv flG adG cJ (by unfold c_fix; omega) (nin a h1 h2)
      have tJ : ∀ a, 16 < a → a ≤ 95 → sw_ty J a = sw_ty G a ∧ sw_ln J a = sw_ln G a := fun a h1 h2 => c_fx_ty flG cJ (by unfold c_fix; omega)
      have cBJ : c_ch (c_Acp r) B J := c_ch_sub (c_ch_trans upG cJ) (fun a ha => by
        rw [c_Acp_m]
        simp only [List.mem_append, List.mem_cons, c_Acp_m, c_rg_m] at ha
        omega)
      rw [(fJ 94 (by decide) (by decide)).2 2, kG.2.2.2.2.1 94 2, r2]
      have t18J : sw_ty J 18 = 72 := by rw [(tJ 18 (by decide) (by decide)).1, kG.2.2.1]; exact h18
      have rv15 : sw_rv J 18 15 = 22 := by rw [(fJ 18 (by decide) (by decide)).2 15, kG.2.2.2.2.1]; exact hRe.1.2.2.2.1
      have t22J : sw_ty J 22 = 48 := by rw [(tJ 22 (by decide) (by decide)).1, kG.2.2.1]; exact hRe.2.2.1
      have l22J : c_Lf J mm 22 f := c_Lf_iv l22G (fJ 22 (by decide) (by decide)).1 mo.1
      refine ⟨t18J, ?_⟩
      intro q82 e82
      rw [e82, rv15]
      refine ⟨t22J, ?_⟩
      intro q85 e85 v88 e88 _
      rw [e85] at e88
      have az2 : w_az mm v88 f.2.2.2.2.1 := by rw [e88]; exact l22J.1.2.2.2.2.1
      have iff := c_az_iff WJ.1.1 az az2
      refine ⟨fun c3 => ?_, fun c3 => q9 J mm hsh (fun h => c3 (iff.mpr h.2)) mo bJ WJ trJ.1 cBJ⟩
      have hph : d_ph T l ns = f.2.2.2.2.1 := iff.mp c3
      refine ⟨t18J, ?_⟩
      intro q91 e91 v94 e94 _
      rw [e91, (fJ 18 (by decide) (by decide)).1 7, kG.2.2.2.2.2 18 (by simp), h7] at e94
      refine ⟨t18J, ?_⟩
      intro q97 e97
      rw [e97, rv15]
      refine ⟨t22J, ?_⟩
      intro q100 e100
      rw [e100, e94]
      refine c_putLeafX trJ (by rw [t_pth_dp]; exact hl) (by omega) l22J hfo (fun V trV fV => ?_)
      intro _
      have fxr : ∀ a ∈ c_rg r, c_fix a ∧ (15 < a ∨ a = 2) := fun a ha => by rw [c_rg_m] at ha; unfold c_fix; omega
      have WV := c_W_fr WJ fV fxr
      have cV := c_V_ch WJ.1 fV (fun a ha => (fxr a ha).1)
      refine q0 V mm hsh ⟨hlr, hph⟩ mo bJ WV trV (fun j kk hj => ?_) (c_ch_t cBJ (c_ch_sub cV (fun a ha => by
        rw [c_Acp_m]
        rw [c_rg_m] at ha
        omega)))
      rw [fV.2.2.2.2.2 88 (fun c => by rw [c_rg_m] at c; omega), (fJ 88 (by decide) (by decide)).1]
      exact w_le_at mo.1 (hkf j kk hj).1
    · have il : i < (t_wl T l (t_dp T)).length := by omega
      obtain ⟨kk, hk⟩ : ∃ kk, (t_wl T l (t_dp T))[i]? = some kk := ⟨_, List.getElem?_eq_getElem il⟩
      obtain ⟨nd, hnd⟩ : ∃ nd, ns[i]? = some nd := ⟨_, List.getElem?_eq_getElem (by omega)⟩
      obtain ⟨n1, n2, n3⟩ := nd
      obtain ⟨pa, pb, pc⟩ := hpn.2 i n1 n2 n3 (by omega) hnd
      refine ⟨PaH.1, ?_⟩
      intro q112 e112
      rw [e112]
      refine c_wantedAt PaH pkH hk (by omega) h576 ?_
      intro _ _
      rw [rvH 94 2, r2]
      refine ⟨by rw [tyH]; exact h18, ?_⟩
      intro q120 e120
      obtain ⟨re0, re1, _⟩ := id hRe
      rw [e120, rvH 18 14, re0.2.2.1]
      refine ⟨by rw [tyH]; exact (re1 21 (by decide) (by decide)).1, ?_⟩
      intro q123 e123
      rw [e123]
      refine ⟨by omega, by rw [lnH, (re1 21 (by decide) (by decide)).2]; omega, ?_⟩
      intro v126 e126 _
      rw [Int.toNat_natCast, ivH 21 (by decide), pc] at e126
      refine ⟨fun c1 => ?_, fun c1 => q8 H (fun h => c1 ?_) WH trH.1 upH⟩
      rotate_left
      · have : n3.length = (w_rq T msk l kk).length := h.2 i kk _ hk hnd
        rw [e126, this]
      rw [rvH 94 4, r4]
      refine ⟨PaH.1, ?_⟩
      intro q129 e129
      rw [e129, (PaH.2.1 3 (by decide) (by decide)).1]
      refine ⟨(PaH.2.1 3 (by decide) (by decide)).2.1, ?_⟩
      intro q132 e132
      refine ⟨by rw [tyH]; exact h18, ?_⟩
      intro q135 e135
      rw [e135, rvH 18 12, re0.1]
      refine ⟨by rw [tyH]; exact (re1 19 (by decide) (by decide)).1, ?_⟩
      intro q138 e138
      rw [e138]
      refine ⟨by omega, by rw [lnH, (re1 19 (by decide) (by decide)).2]; omega, ?_⟩
      intro v141 e141 _
      rw [e132]
      refine ⟨by omega, by rw [(PaH.2.1 3 (by decide) (by decide)).2.2]; omega, ?_⟩
      intro H144 e144 y147 e147
      rw [sw_s1 (by omega)] at e147
      rw [e147]
      rw [Int.toNat_natCast] at e141 e144
      have f1 : c_fr [88] H H144 := by rw [e144]; exact c_fr_si _ _ _ _
      refine c_cp_34 lmm hb hW hTa hRe hPa h18 h7 hpn hlf hfo ht hr hr2 hl hky hln hnn hpk h576 hS q8 q9 q0 n (i + 1) (c_fr_t k f1) (by omega) (by omega) (fun j kj nd hj h1 h2 => ?_) (fun j hj => ?_)
      · by_cases e : j = i
        · subst e
          rw [hk] at h1
          rw [hnd] at h2
          rw [← Option.some.inj h1, ← Option.some.inj h2]
          show n3.length = _
          omega
        · exact hA j kj nd (by omega) h1 h2
      · rw [e144]
        by_cases e : j = i
        · rw [e, c_si_eq, e141, ivH 19 (by decide)]
        · rw [c_si_f e]
          exact hB j (by omega)
def c_Acq (r : Nat) : List Nat := 85 :: 86 :: 87 :: 91 :: 92 :: 93 :: c_Acp r
theorem c_Acq_m {a : Nat} : a ∈ c_Acq r ↔ (14 ≤ a ∧ a ≤ 16) ∨ (85 ≤ a ∧ a ≤ 88) ∨ (91 ≤ a ∧ a ≤ 93) ∨ (r ≤ a ∧ a ≤ r + 20) := by
  unfold c_Acq
  simp only [List.mem_cons, c_Acp_m]
  omega
/-- with a path -/
theorem c_checkPath (lmm : c_lm cn cs N U M) (hb : c_bS S mk tl N U M) (hW : c_W H mk nn K tl cn cs) (hTa : c_Ta H) (hRe : c_Re H) (hPa : c_Pa H) (h91 : sw_iv H 91 0 = 0) (h18 : sw_ty H 18 = 72) (t44 : sw_ty H 44 = 24) (h10 : sw_iv H 44 10 = msk) (hmsk : sw_c msk) (h7 : sw_iv H 18 7 = (l : Nat)) (hpn : c_pn H mk ns) (hlf : c_Lf H mk 22 f) (hfo : t_lfok f) (ht : c_tr H mk r T) (hr : 95 < r) (hr2 : r + 20 ≤ 1415) (hl : l < 2 ^ t_dp T) (hky : t_ky T (2 * l) ≠ []) (hnn : ∀ n ∈ ns, n.1 ≠ []) (h576 : (w_sq T msk l (t_wl T l (t_dp T))).length ≤ 576) (hS : ∀ v, t_mw (t_cb T l) (t_kpn (t_cb T l) T l (d_kf T l ns) (t_dp T)) l v → S v)
    (q8 : ∀ X, ¬ d_sh T msk l ns → c_W X mk nn K tl cn cs → sw_iv X 91 0 = 0 → c_Pa X → c_ts X r → c_ch (c_Acq r) H X → P 8 X)
    (q9 : ∀ X mm, d_sh T msk l ns → ¬ (d_lr T l f ∧ d_ph T l ns = f.2.2.2.2.1) → w_mo S mk mm → c_bS S mm tl N U M → c_W X mm nn K tl cn cs → sw_iv X 91 0 = 0 → c_Pa X → c_ts X r → c_ch (c_Acq r) H X → P 9 X)
    (q0 : ∀ X mm, d_sh T msk l ns → d_lr T l f ∧ d_ph T l ns = f.2.2.2.2.1 → w_mo S mk mm → c_bS S mm tl N U M → c_W X mm nn K tl cn cs → c_tr X mm r (d_T2 T l f ns) → c_pk2 X T msk l (t_wl T l (t_dp T)) → (∀ i k : Nat, (t_wl T l (t_dp T))[i]? = some k → w_at mm (sw_iv X 88 i) (d_kf T l ns k)) → c_Pa X → c_ch (c_Acq r) H X → P 0 X) : wm_304 94 r H P := by
  obtain ⟨t94, r0, r1, r2, r3, r4, _⟩ := id hTa
  have h4 := ht.2.1.1
  have d16 := t_d_16 h4
  have fl := hW.1.2.2.2.1
  have ad := hW.1.2.2.2.2
  unfold wm_304
  rw [r2]
  refine ⟨h18, ?_⟩
  intro q153 e153 v156 e156 _
  rw [e153, hpn.1] at e156
  refine ⟨fun _ => ?_, fun c => by omega⟩
  rw [r4]
  refine ⟨hPa.1, ?_⟩
  intro q159 e159
  refine ⟨h18, ?_⟩
  intro q162 e162 v165 e165 _
  rw [e162, h7] at e165
  rw [r3]
  refine ⟨t44, ?_⟩
  intro q168 e168 v171 e171 _
  rw [e168, h10] at e171
  rw [e159, e165, e171]
  refine c_plan hW.1 ht (by omega) hPa hmsk hl h91 (fun B pkB fB _ => ?_)
  intro _
  have fxp : ∀ a ∈ [85, 86, 87, 91, 92, 93], c_fix a ∧ (15 < a ∨ a = 2) := fun a ha => by simp at ha; unfold c_fix; omega
  have WB := c_W_fr hW fB fxp
  have cB := c_V_ch hW.1 fB (fun a ha => (fxp a ha).1)
  have upB : c_ch (c_Acq r) H B := c_ch_sub cB (fun a ha => by rw [c_Acq_m]; simp at ha; omega)
  have b91 : sw_iv B 91 0 = 0 := by
    have := pkB.2.2.1 0 (by omega)
    rw [this]
    rfl
  have up : ∀ {X : sw_H}, c_ch (c_Acp r) B X → c_ch (c_Acq r) H X := fun {X} c => c_ch_t upB (c_ch_sub c (fun a ha => by rw [c_Acq_m]; rw [c_Acp_m] at ha; omega))
  have x91 : ∀ {X : sw_H}, c_ch (c_Acp r) B X → sw_iv X 91 0 = 0 := fun {X} c => by
    rw [(c_fx_iv WB.1.2.2.2.1 WB.1.2.2.2.2 c (q := 91) (by unfold c_fix; omega) (fun cc => by rw [c_Acp_m] at cc; omega)).1 0]
    exact b91
  have PaB := c_Pa_fr hPa fB
  have xPa : ∀ {X : sw_H}, c_ch (c_Acp r) B X → c_Pa X := fun {X} c => c_Pa_ch PaB WB.1.2.2.2.1 WB.1.2.2.2.2 c (fun cc => by rw [c_Acp_m] at cc; omega)
  have TaB := c_Ta_ch hTa fl ad cB (by simp)
  have ivB : ∀ a, a < 85 → sw_iv B a = sw_iv H a := fun a ha => fB.2.2.2.2.2 a (by simp <;> omega)
  rw [fB.2.2.2.2.1 94 4, r4]
  refine ⟨PaB.1, ?_⟩
  intro q179 e179 v182 e182 _
  rw [e179, pkB.1] at e182
  rw [fB.2.2.2.2.1 94 2, r2]
  refine ⟨by rw [fB.2.2.1]; exact h18, ?_⟩
  intro q185 e185 v188 e188 _
  rw [e185, ivB 18 (by decide), hpn.1] at e188
  have trB := c_tr_fr hW.1 ht fB (fun a ha => by simp at ha; unfold c_fix; omega)
  have pnB : c_pn B mk ns := by
    unfold c_pn
    rw [ivB 18 (by decide), ivB 19 (by decide), ivB 20 (by decide), ivB 21 (by decide)]
    exact hpn
  refine ⟨fun c => ⟨(t_wl T l (t_dp T)).length + 1, ?_⟩, fun c => q8 B (fun h => c ?_) WB b91 PaB trB.1 upB⟩
  · exact c_cp_34 lmm hb WB TaB (c_Re_fr hRe fB) PaB (by rw [fB.2.2.1]; exact h18) (by rw [ivB 18 (by decide)]; exact h7) pnB (c_Lf_fr hlf fB (by simp)) hfo trB hr hr2 hl hky (by omega) hnn pkB h576 hS (fun X h1 h2 ht h3 => q8 X h1 h2 (x91 h3) (xPa h3) ht (up h3)) (fun X mm h1 h2 h3 h4 h5 ht h6 => q9 X mm h1 h2 h3 h4 h5 (x91 h6) (xPa h6) ht (up h6)) (fun X mm h1 h2 h3 h4 h5 h6 h7 h8 => q0 X mm h1 h2 h3 h4 h5 h6 (c_pk2_ch pkB WB.1.2.2.2.1 WB.1.2.2.2.2 h8 (fun a ha => by rw [c_Acp_m] at ha; omega)) h7 (xPa h8) (up h8)) _ 0 (c_fr_refl _ _) (by omega) (by omega) (fun j kk nd hj => absurd hj (Nat.not_lt_zero _)) (fun j hj => absurd hj (Nat.not_lt_zero _))
  · rw [e182, e188, h.1]
end
