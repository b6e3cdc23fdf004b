/-! ===== the class: writePath: its secrets ===== -/
noncomputable section
/-- the next path secret -/
def t_nx (T : w_T) (l : Nat) (n0 : Wt) (n : Nat) : Wt := if t_ls T l n0 n = [] then n0 else w_dr (t_ls T l n0 n) 4
section
variable {T : w_T} {l n k : Nat} {n0 : Wt}
theorem t_ls_nx (c : t_cb T l k ≠ 0) : t_ls T l n0 (k + 1) = t_nx T l n0 k := by rw [t_ls_1 c]; rfl
theorem t_nx_ne (h0 : n0 ≠ []) : t_nx T l n0 n ≠ [] := by
  unfold t_nx
  by_cases c : t_ls T l n0 n = []
  · rw [if_pos c]; exact h0
  · rw [if_neg c]; exact List.cons_ne_nil _ _
theorem t_nx_s (h0 : n0 ≠ []) (c : t_cb T l k ≠ 0) : t_nx T l n0 (k + 1) = w_dr (t_ls T l n0 (k + 1)) 4 := by
  unfold t_nx
  rw [if_neg (by rw [t_ls_nx c]; exact t_nx_ne h0)]
theorem t_ls_wl (h0 : n0 ≠ []) : ∀ n, t_ls T l n0 n = [] ↔ t_wl T l n = []
  | 0 => ⟨fun _ => rfl, fun _ => rfl⟩
  | n + 1 => by
    have ih := t_ls_wl h0 n
    by_cases c : t_cb T l n = 0
    · rw [t_ls_0 c, t_wl_0 c]; exact ih
    · rw [t_wl_1 c, t_ls_nx c]
      exact ⟨fun h => absurd h (t_nx_ne h0), fun h => absurd h (by simp)⟩
end
variable {H G Z X Y : sw_H} {mk mm tl l0 l1 : List Wt} {nn nm r k o h l x y g n m : Nat} {K S : Wt → Prop} {cn cs msk N U M z : Int} {T T2 T0 : w_T} {Q : sw_H → Prop} {P : Int → sw_H → Prop} {A : List Nat} {hs : List Nat} {w n0 : Wt}
/-- what writePath finds -/
def c_wb (H : sw_H) (mk : List Wt) (nn : Nat) (K : Wt → Prop) (tl : List Wt) (cn cs : Int) (g : Nat) (T : w_T) (msk : Int) (l : Nat) (l0 : List Wt) : Prop := c_O H ∧ c_W H mk nn K tl cn cs ∧ c_MS H mk ∧ c_Pa H ∧ c_pk2 H T msk l (t_wl T l (t_dp T)) ∧ c_tr H mk (g + 1) T ∧ c_gs H g ∧ sw_iv H g 3 = (l : Nat) ∧ c_rr H mk 1420 1421 l0 ∧ sw_ln H 1421 = 1400 ∧ sw_ty H 1422 = 48
theorem c_wb_ch (hpl : c_pl g) (h : c_wb H mk nn K tl cn cs g T msk l l0) (hW : c_W G mm nm K tl cn cs) (c : c_ch A H G) (hl : w_le mk mm) (hA : ∀ a ∈ A, a = 14 ∨ a = 15 ∨ (88 ≤ a ∧ a ≤ 90)) : c_wb G mm nm K tl cn cs g T msk l l0 := by
  obtain ⟨h1, h2, h3, h4, h5, h6, h7, h8, h9, h10, h11⟩ := h
  obtain ⟨b1, b2⟩ := c_pl_b hpl
  have fl := h2.1.2.2.2.1
  have ad := h2.1.2.2.2.2
  exact ⟨c_O_ch h1 c ad fl (fun cc => by have := hA _ cc; omega), hW, c_MS_ch h3 fl ad c (fun cc => by have := hA _ cc; omega) (fun m hm cc => by have := hA _ cc; omega) hl, c_Pa_ch h4 fl ad c (fun cc => by have := hA _ cc; omega), c_pk2_ch h5 fl ad c (fun a ha => by have := hA a ha; omega), c_tr_ch h6 fl ad c (fun a ha => by have := hA a ha; omega) hl, c_gs_ch h7 fl ad c (fun a ha _ => by have := hA a ha; omega) (fun cc => by have := hA _ cc; omega), by rw [(c_fx_iv fl ad c (q := g) (by unfold c_fix; omega) (fun cc => by have := hA _ cc; omega)).1]; exact h8, c_rr_ch h2.1 h9 c hW.1 hl (fun cc => by have := hA _ cc; omega) (fun cc => by have := hA _ cc; omega), by rw [(c_fx_ty fl c (q := 1421) (by unfold c_fix; omega)).2]; exact h10, by rw [(c_fx_ty fl c (q := 1422) (by unfold c_fix; omega)).1]; exact h11⟩
/-- the first i of the path have their secrets -/
def c_pwi (H : sw_H) (mk : List Wt) (T : w_T) (l : Nat) (n0 : Wt) (hs : List Nat) (i : Nat) : Prop := ∀ j k, j < i → hs[j]? = some k → w_at mk (sw_iv H 89 j) (t_ls T l n0 (k + 1)) ∧ w_at mk (sw_iv H 90 j) (w_dr (t_ls T l n0 (k + 1)) 5) ∧ w_at mk (sw_iv H 88 j) (w_p5 (w_dr (t_ls T l n0 (k + 1)) 5))
/-- the end of writePath -/
def c_wpx (Q : Int → sw_H → Prop) (x0 x1 x2 : Nat) (x3 x4 : Int) (H : sw_H) : Prop := sw_ty H (sw_rv H x0 12) = 48 ∧ ∀ q7, q7 = sw_rv H x0 12 → ∀ v10, v10 = sw_iv H x1 0 → sw_c v10 → ∀ H13, H13 = sw_si H q7 0 v10 → sw_ty H13 (sw_rv H13 x0 12) = 48 ∧ ∀ q16, q16 = sw_rv H13 x0 12 → sw_ty H13 (sw_rv H13 x0 1) = 32 ∧ ∀ q19, q19 = sw_rv H13 x0 1 → wm_161 q19 x3 H13 (fun z25 H22 => sw_c z25 → sw_ext H13 H22 → ∀ H27, H27 = sw_si H22 q16 1 z25 → sw_ty H27 (sw_rv H27 x0 12) = 48 ∧ ∀ q30, q30 = sw_rv H27 x0 12 → ∀ v33, v33 = sw_iv H27 x1 2 → sw_c v33 → ∀ H36, H36 = sw_si H27 q30 2 v33 → sw_ty H36 (sw_rv H36 x0 12) = 48 ∧ ∀ q39, q39 = sw_rv H36 x0 12 → ∀ H42, H42 = sw_si H36 q39 3 3 → sw_ty H42 (sw_rv H42 x0 12) = 48 ∧ ∀ q45, q45 = sw_rv H42 x0 12 → sw_ty H42 (sw_rv H42 x0 9) = 64 ∧ ∀ q48, q48 = sw_rv H42 x0 9 → sw_ty H42 (sw_rv H42 x2 0) = 104 ∧ ∀ q51, q51 = sw_rv H42 x2 0 → ∀ v54, v54 = sw_iv H42 x2 3 → sw_c v54 → sw_ty H42 (sw_rv H42 x0 1) = 32 ∧ ∀ q57, q57 = sw_rv H42 x0 1 → wm_289 q48 q51 v54 q57 H42 (fun z63 H60 => sw_c z63 → sw_ext H42 H60 → ∀ H65, H65 = sw_si H60 q45 4 z63 → sw_ty H65 (sw_rv H65 x0 1) = 32 ∧ ∀ q68, q68 = sw_rv H65 x0 1 → sw_ty H65 (sw_rv H65 x0 12) = 48 ∧ ∀ q71, q71 = sw_rv H65 x0 12 → ∀ v74, v74 = sw_iv H65 x2 3 → sw_c v74 → ∀ v77, v77 = sw_iv H65 x1 1 → sw_c v77 → wm_256 q68 q71 v74 v77 H65 (fun H80 => sw_ext H65 H80 → sw_ty H80 (sw_rv H80 x2 0) = 104 ∧ ∀ q85, q85 = sw_rv H80 x2 0 → ∀ v88, v88 = sw_iv H80 x2 3 → sw_c v88 → sw_ty H80 (sw_rv H80 x0 12) = 48 ∧ ∀ q91, q91 = sw_rv H80 x0 12 → wm_154 q85 v88 q91 H80 (fun H94 => sw_ext H80 H94 → sw_ty H94 (sw_rv H94 x0 12) = 48 ∧ ∀ q99, q99 = sw_rv H94 x0 12 → sw_ty H94 (sw_rv H94 x0 11) = 80 ∧ ∀ q102, q102 = sw_rv H94 x0 11 → wm_162 q99 q102 1 H94 (fun H105 => sw_ext H94 H105 → sw_ty H105 (sw_rv H105 x2 0) = 104 ∧ ∀ q110, q110 = sw_rv H105 x2 0 → wm_290 x0 q110 H105 (fun H113 => sw_ext H105 H113 → sw_ty H113 (sw_rv H113 x0 9) = 64 ∧ ∀ q118, q118 = sw_rv H113 x0 9 → ∀ v121, v121 = sw_iv H113 q118 0 → sw_c v121 → (v121 ≤ 0 → sw_ty H113 (sw_rv H113 x0 1) = 32 ∧ ∀ q124, q124 = sw_rv H113 x0 1 → wm_262 q124 x3 4 H113 (fun z130 H127 => sw_c z130 → sw_ext H113 H127 → Q z130 H127)) ∧ (0 < v121 → Q x4 H113)))))))
theorem c_wp_30 {x3 : Int} (lm : c_lm cn cs N U M) (hpl : c_pl g) (h4 : t_dp T ≤ 4) (h0 : n0 ≠ []) (hS : ∀ v, t_mp T l n0 (t_dp T) v → S v) (hSf : t_wl T l (t_dp T) ≠ [] → S (w_dr (t_ls T l n0 (t_dp T)) 4))
    (q : ∀ x4 J mm, w_mo S mk mm → c_bS S mm tl N U M → c_wb J mm nn K tl cn cs g T msk l l0 → c_pw J mm T l n0 (t_wl T l (t_dp T)) → (t_wl T l (t_dp T) ≠ [] → w_at mm x4 (w_dr (t_ls T l n0 (t_dp T)) 4)) → c_ch [88, 89, 90] H J → c_wpx P 2 (120 + 54 * m) g x3 x4 J) :
    ∀ (n i nh : Nat) {G : sw_H} {mz : List Wt} {x4 : Int}, w_mo S mk mz → c_bS S mz tl N U M → c_wb G mz nn K tl cn cs g T msk l l0 → c_pwi G mz T l n0 (t_wl T l (t_dp T)) i → (t_wl T l (t_dp T) ≠ [] → w_at mz x4 (t_nx T l n0 nh)) → c_ch [88, 89, 90] H G → nh ≤ t_dp T → t_wl T l nh = (t_wl T l (t_dp T)).take i → i ≤ (t_wl T l (t_dp T)).length → (t_wl T l (t_dp T)).length - i < n → wl_183_30 P n 2 (120 + 54 * m) g x3 x4 i G
  | 0, _, _, _, _, _, _, _, _, _, _, _, _, _, _, h => by omega
  | n + 1, i, nh, G, mz, x4, m1, hb, hB, hpw, hx4, cG, hnh, ew, hi, hn => by
    have wll := t_wl_len (T := T) (l := l) (t_dp T)
    have hF : ∀ n, n < t_dp T → t_cb T l n = 0 → t_ls T l n0 (n + 1) = t_ls T l n0 n := fun n _ c => t_ls_0 c
    obtain ⟨O, W, MS, Pa, pk, tr, gs, g3, rr, ln, t48⟩ := id hB
    obtain ⟨o0, o1, o2, o3, o4, o5, o6, o7, o8, o9, o10, o11, o12, o13⟩ := O
    obtain ⟨p1, p2, p3, p4, p5, p6, p7, p8, p9⟩ := Pa
    have t11 : sw_ty G 11 = 32 := W.2.1.1
    have fl := W.1.2.2.2.1
    have ad := W.1.2.2.2.2
    unfold wl_183_30
    rw [o9]
    refine ⟨p1, ?_⟩
    intro q1 e1 v4 e4 _
    rw [e1, pk.1] at e4
    subst e4
    refine ⟨fun c => ?_, fun c => ?_⟩
    · have ei : i = (t_wl T l (t_dp T)).length := by omega
      refine q x4 G mz m1 hb hB (fun j k hk => hpw j k (by have := (List.getElem?_eq_some_iff.mp hk).1; omega) hk) (fun hne => ?_) cG
      rw [ei, List.take_length] at ew
      have := hx4 hne
      unfold t_nx at this
      rw [t_wl_eq hF hnh (Nat.le_refl _) ew, if_neg (fun cc => hne ((t_ls_wl h0 _).mp cc))] at this
      exact this
    · obtain ⟨k, hk⟩ : ∃ k, (t_wl T l (t_dp T))[i]? = some k := ⟨_, List.getElem?_eq_getElem (by omega)⟩
      obtain ⟨a1, a2, a3, a4⟩ := t_wl_at hk
      have hne : t_wl T l (t_dp T) ≠ [] := fun cc => by rw [cc] at hk; simp at hk
      have hx := hx4 hne
      have elk := t_wl_eq hF hnh (by omega : k ≤ t_dp T) (ew.trans a3.symm)
      have ex : t_nx T l n0 nh = t_ls T l n0 (k + 1) := by rw [t_ls_nx a2]; unfold t_nx; rw [elk]
      rw [ex] at hx
      have hmp : ∀ v, (v = t_ls T l n0 (k + 1) ∨ v = w_dr (t_ls T l n0 (k + 1)) 5 ∨ v = w_p5 (w_dr (t_ls T l n0 (k + 1)) 5)) → S v := fun v hv => hS v ⟨k, a1, a2, hv⟩
      -- the next secret may be made
      have hS4 : S (w_dr (t_ls T l n0 (k + 1)) 4) := by
        rcases Nat.lt_or_ge (i + 1) (t_wl T l (t_dp T)).length with c2 | c2
        · obtain ⟨k', hk'⟩ : ∃ k', (t_wl T l (t_dp T))[i + 1]? = some k' := ⟨_, List.getElem?_eq_getElem c2⟩
          obtain ⟨b1, b2, b3, b4⟩ := t_wl_at hk'
          have e2 := t_wl_eq hF (by omega : k + 1 ≤ t_dp T) (by omega : k' ≤ t_dp T) (a4.trans b3.symm)
          have e3 : t_ls T l n0 (k' + 1) = w_dr (t_ls T l n0 (k + 1)) 4 := by
            rw [t_ls_nx b2, ← t_nx_s h0 a2]
            unfold t_nx
            rw [e2]
          rw [← e3]
          exact hS _ ⟨k', b1, b2, Or.inl rfl⟩
        · have e2 : t_wl T l (k + 1) = t_wl T l (t_dp T) := by rw [a4]; exact List.take_of_length_le (by omega)
          rw [t_wl_eq hF (by omega : k + 1 ≤ t_dp T) (Nat.le_refl _) e2]
          exact hSf hne
      refine ⟨p1, ?_⟩
      intro q133 e133
      rw [e133, (p2 4 (by decide) (by decide)).1]
      refine ⟨(p2 4 (by decide) (by decide)).2.1, ?_⟩
      intro q136 e136
      rw [e136]
      refine ⟨by omega, by rw [(p2 4 (by decide) (by decide)).2.2]; omega, ?_⟩
      intro A1 eA
      rw [Int.toNat_natCast] at eA
      have fA : c_fr [89] G A1 := by rw [eA]; exact c_fr_si _ _ _ _
      have vA : ∀ j, sw_iv A1 89 j = if j = i then x4 else sw_iv G 89 j := fun j => by
        rw [eA]
        by_cases c2 : j = i
        · rw [if_pos c2, c2, c_si_eq]
        · rw [if_neg c2, c_si_f c2]
      clear eA
      have WA := c_W_fr W fA (fun a ha => by simp at ha; unfold c_fix; omega)
      have cA := c_V_ch W.1 fA (fun a ha => by simp at ha; unfold c_fix; omega)
      have BA := c_wb_ch hpl hB WA cA (w_le_refl _) (fun a ha => by simp at ha; omega)
      rw [BA.1.2.2.2.2.2.2.2.2.2.1]
      refine ⟨BA.2.2.2.1.1, ?_⟩
      intro q142 e142
      rw [e142, (BA.2.2.2.1.2.1 5 (by decide) (by decide)).1]
      refine ⟨(BA.2.2.2.1.2.1 5 (by decide) (by decide)).2.1, ?_⟩
      intro q145 e145
      rw [BA.1.2.2.1]
      refine ⟨WA.2.1.1, ?_⟩
      intro q148 e148
      rw [e145, e148]
      refine c_derS (j := 5) rfl (by decide) lm hb WA hx (hmp _ (Or.inr (Or.inl rfl))) (fun B1 z5 mb b1 b2 WB aB cB => ?_)
      intro _ _
      have BB := c_wb_ch hpl BA WB cB b1.1 (by simp)
      refine ⟨by omega, by rw [(BB.2.2.2.1.2.1 5 (by decide) (by decide)).2.2]; omega, ?_⟩
      intro C1 eC
      rw [Int.toNat_natCast] at eC
      have fC : c_fr [90] B1 C1 := by rw [eC]; exact c_fr_si _ _ _ _
      have vC : ∀ j, sw_iv C1 90 j = if j = i then z5 else sw_iv B1 90 j := fun j => by
        rw [eC]
        by_cases c2 : j = i
        · rw [if_pos c2, c2, c_si_eq]
        · rw [if_neg c2, c_si_f c2]
      clear eC
      have WC := c_W_fr WB fC (fun a ha => by simp at ha; unfold c_fix; omega)
      have cC := c_V_ch WB.1 fC (fun a ha => by simp at ha; unfold c_fix; omega)
      have BC := c_wb_ch hpl BB WC cC (w_le_refl _) (fun a ha => by simp at ha; omega)
      rw [BC.1.2.2.2.2.2.2.2.2.2.1]
      refine ⟨BC.2.2.2.1.1, ?_⟩
      intro q159 e159
      rw [e159, (BC.2.2.2.1.2.1 3 (by decide) (by decide)).1]
      refine ⟨(BC.2.2.2.1.2.1 3 (by decide) (by decide)).2.1, ?_⟩
      intro q162 e162
      rw [BC.1.2.2.1]
      refine ⟨WC.2.1.1, ?_⟩
      intro q165 e165
      refine ⟨BC.2.2.2.1.1, ?_⟩
      intro q168 e168
      rw [e168, (BC.2.2.2.1.2.1 5 (by decide) (by decide)).1]
      refine ⟨(BC.2.2.2.1.2.1 5 (by decide) (by decide)).2.1, ?_⟩
      intro q171 e171
      rw [e171]
      refine ⟨by omega, by rw [(BC.2.2.2.1.2.1 5 (by decide) (by decide)).2.2]; omega, ?_⟩
      intro v174 e174 _
      rw [Int.toNat_natCast, vC, if_pos rfl] at e174
      subst e174
      rw [e162, e165]
      refine c_pubS lm b2 WC aB (hmp _ (Or.inr (Or.inr rfl))) (fun D1 z6 md d1 d2 WD aD cD => ?_)
      intro _ _
      have BD := c_wb_ch hpl BC WD cD d1.1 (by simp)
      refine ⟨by omega, by rw [(BD.2.2.2.1.2.1 3 (by decide) (by decide)).2.2]; omega, ?_⟩
      intro E1 eE
      rw [Int.toNat_natCast] at eE
      have fE : c_fr [88] D1 E1 := by rw [eE]; exact c_fr_si _ _ _ _
      have vE : ∀ j, sw_iv E1 88 j = if j = i then z6 else sw_iv D1 88 j := fun j => by
        rw [eE]
        by_cases c2 : j = i
        · rw [if_pos c2, c2, c_si_eq]
        · rw [if_neg c2, c_si_f c2]
      clear eE
      have WE := c_W_fr WD fE (fun a ha => by simp at ha; unfold c_fix; omega)
      have cE := c_V_ch WD.1 fE (fun a ha => by simp at ha; unfold c_fix; omega)
      have BE := c_wb_ch hpl BD WE cE (w_le_refl _) (fun a ha => by simp at ha; omega)
      rw [BE.1.2.2.1]
      refine ⟨WE.2.1.1, ?_⟩
      intro q185 e185
      rw [e185]
      refine c_derS (j := 4) rfl (by decide) lm d2 WE (w_le_at d1.1 (w_le_at b1.1 hx)) hS4 (fun F1 z7 mf f1 f2 WF aF cF => ?_)
      intro _ _ y196 e196
      rw [sw_s1 (by omega)] at e196
      subst e196
      have BF := c_wb_ch hpl BE WF cF f1.1 (by simp)
      -- the arrays now
      have nB : ∀ a, a = 88 ∨ a = 89 ∨ a = 90 → ∀ f, sw_iv B1 a f = sw_iv A1 a f := fun a ha => (c_fx_iv WA.1.2.2.2.1 WA.1.2.2.2.2 cB (q := a) (by unfold c_fix; omega) (by simp)).1
      have nD : ∀ a, a = 88 ∨ a = 89 ∨ a = 90 → ∀ f, sw_iv D1 a f = sw_iv C1 a f := fun a ha => (c_fx_iv WC.1.2.2.2.1 WC.1.2.2.2.2 cD (q := a) (by unfold c_fix; omega) (by simp)).1
      have nF : ∀ a, a = 88 ∨ a = 89 ∨ a = 90 → ∀ f, sw_iv F1 a f = sw_iv E1 a f := fun a ha => (c_fx_iv WE.1.2.2.2.1 WE.1.2.2.2.2 cF (q := a) (by unfold c_fix; omega) (by simp)).1
      have F89 : ∀ j, sw_iv F1 89 j = if j = i then x4 else sw_iv G 89 j := fun j => by
        rw [nF 89 (by omega), fE.2.2.2.2.2 89 (by decide), nD 89 (by omega), fC.2.2.2.2.2 89 (by decide), nB 89 (by omega), vA]
      have F90 : ∀ j, sw_iv F1 90 j = if j = i then v174 else sw_iv G 90 j := fun j => by
        rw [nF 90 (by omega), fE.2.2.2.2.2 90 (by decide), nD 90 (by omega), vC, nB 90 (by omega), fA.2.2.2.2.2 90 (by decide)]
      have F88 : ∀ j, sw_iv F1 88 j = if j = i then z6 else sw_iv G 88 j := fun j => by
        rw [nF 88 (by omega), vE, nD 88 (by omega), fC.2.2.2.2.2 88 (by decide), nB 88 (by omega), fA.2.2.2.2.2 88 (by decide)]
      have le1 : w_le mz mf := w_le_trans b1.1 (w_le_trans d1.1 f1.1)
      refine c_wp_30 lm hpl h4 h0 hS hSf q n (i + 1) (k + 1) (w_mo_trans m1 (w_mo_trans b1 (w_mo_trans d1 f1))) f2 BF (fun j k2 hj hk2 => ?_) (fun _ => by rw [t_nx_s h0 a2]; exact aF) (c_ch_sub (c_ch_trans cG (c_ch_trans cA (c_ch_trans cB (c_ch_trans cC (c_ch_trans cD (c_ch_trans cE cF)))))) (by simp)) (by omega) a4 (by omega) (by omega)
      rw [F89, F90, F88]
      by_cases cj : j = i
      · have ek : k2 = k := by
          rw [cj, hk] at hk2
          injection hk2 with hk2
          exact hk2.symm
        rw [if_pos cj, if_pos cj, if_pos cj, ek]
        exact ⟨w_le_at le1 hx, w_le_at d1.1 aB |> w_le_at f1.1, w_le_at f1.1 aD⟩
      · rw [if_neg cj, if_neg cj, if_neg cj]
        obtain ⟨u1, u2, u3⟩ := hpw j k2 (by omega) hk2
        exact ⟨w_le_at le1 u1, w_le_at le1 u2, w_le_at le1 u3⟩
end
