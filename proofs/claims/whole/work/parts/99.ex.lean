/-! ===== the class: applyTo ===== -/
noncomputable section
variable {H G Z X : sw_H} {mk mm tl l : List Wt} {ms : List (List Wt)} {nn r ra k o h x y i e mi g : Nat} {K K' : Wt → Prop} {cn cs com : Int} {T T0 T' : w_T} {f : p_L} {Q : sw_H → Prop} {P : Int → sw_H → Prop} {A B : List Nat} {L : List w_Ch} {d : w_Ch}
theorem c_ci_g (h : c_ci H mk K ms L) (f : c_fr A H Z) (hA : ∀ a ∈ A, a ≤ 44 ∨ 84 < a ∨ a = 50 ∨ a = 52) (e : sw_iv Z 44 1 = sw_iv H 44 1) : c_ci Z mk K ms L := by
  obtain ⟨h1, h2, h3, h4⟩ := h
  have na : ∀ a, 44 < a → a ≤ 84 → a ≠ 50 → a ≠ 52 → sw_iv Z a = sw_iv H a := fun a q1 q2 q3 q4 => f.2.2.2.2.2 a (fun c => by have := hA a c; omega)
  refine ⟨c_Ch_fr h1 f, by rw [e]; exact h2, h3, fun k c hc => ?_⟩
  have hk := h_lt hc
  exact c_le_eq (h4 k c hc) (fun a ha => by rw [na a (by omega) (by omega) (by omega) (by omega)]) (na _ (by omega) (by omega) (by omega) (by omega)) (f.2.2.2.2.1 _ _) (fun j => f.2.2.2.2.1 _ _)
theorem c_ci_rg (hr : 84 < r) (h : c_ci H mk K ms L) (f : c_fr (c_rg r) H Z) : c_ci Z mk K ms L := c_ci_fr h f (fun a ha => by rw [c_rg_m] at ha; omega)
theorem c_V_rg (ht : c_tr H mk r T) (hV : c_V H mk nn K tl cn cs) (f : c_fr (c_rg r) H Z) : c_V Z mk nn K tl cn cs := c_V_fr hV f (fun a ha => by have := ht.1.1; have := ht.1.2.1; rw [c_rg_m] at ha; unfold c_fix; omega)
theorem c_ap_2 (hr : 84 < r) (hg : ∀ (k : Nat) (c : w_Ch), L[k]? = some c → c.1.1 ≠ 1 → 0 ≤ h_go c ∧ (h_go c).toNat < 2 ^ t_dp T) : ∀ (n k : Nat) {H : sw_H}, c_V H mk nn K' tl cn cs → c_ci H mk K ms L → c_tr H mk r (h_fd h_u1 T L k) → k ≤ L.length → L.length - k < n → (∀ G, c_V G mk nn K' tl cn cs → c_ci G mk K ms L → c_tr G mk r (h_fd h_u1 T L L.length) → c_fr (c_rg r) H G → ∃ n32, wl_180_32 Q n32 44 r 0 G) → wl_180_2 Q n 44 r k H
  | 0, _, _, _, _, _, _, h, _ => by omega
  | n + 1, k, H, hV, hci, ht, hk, hn, q => by
    obtain ⟨c0, c3, c4, c5, c6, c7, c8, c9, c12, ct, c47, c51, c52, clf⟩ := hci.1
    have h32 := hci.2.2.1
    unfold wl_180_2
    intro v e _
    rw [hci.2.1] at e
    subst e
    refine ⟨fun c => ?_, fun c => ?_⟩
    · have e : k = L.length := by omega
      rw [e] at ht
      exact q H hV hci ht (c_fr_refl _ _)
    · obtain ⟨d, hd⟩ := h_get (L := L) (k := k) (by omega)
      obtain ⟨l45, l46, l49, lok, lfl, llf, _⟩ := hci.2.2.2 k d hd
      have ed : t_dp (h_fd h_u1 T L k) = t_dp T := h_fu_dp
      have d16 := t_d_16 ht.2.1.1
      rw [ed] at d16
      have es : h_fd h_u1 T L (k + 1) = h_u1 (h_fd h_u1 T L k) d := h_fd_s hd
      have step : ∀ {G : sw_H}, c_tr G mk r (h_u1 (h_fd h_u1 T L k) d) → c_fr (c_rg r) H G → wb_180_28 Q (wl_180_2 Q n) 44 r k G := fun {G} tG fG => by
        unfold wb_180_28
        intro y ey
        rw [sw_s1 (by omega)] at ey
        subst ey
        exact c_ap_2 hr hg n (k + 1) (c_V_rg ht hV fG) (c_ci_rg hr hci fG) (by rw [es]; exact tG) (by omega) (by omega) (fun Z VZ cZ tZ fZ => q Z VZ cZ tZ (c_fr_t fG fZ))
      rw [c3]
      refine ⟨(ct 45 (by omega)).1, ?_⟩
      intro q103 e103
      rw [e103]
      refine ⟨by omega, by rw [(ct 45 (by omega)).2]; omega, ?_⟩
      intro v106 e106 _
      rw [Int.toNat_natCast, l45] at e106
      subst e106
      refine ⟨fun c2 => step (by unfold h_u1; rw [if_neg c2]; exact ht) (c_fr_refl _ _), fun c2 => ?_⟩
      obtain ⟨g0, g1⟩ := hg k d hd (by omega)
      obtain ⟨gn, eg⟩ : ∃ gn : Nat, h_go d = gn := ⟨(h_go d).toNat, by omega⟩
      have eu : h_u1 (h_fd h_u1 T L k) d = t_bw (t_put (h_fd h_u1 T L k) gn (h_lf d)) gn := by
        unfold h_u1; rw [if_pos c2, eg, Int.toNat_natCast]
      rw [eg, Int.toNat_natCast] at g1
      rw [eu] at step
      rw [c7]
      refine ⟨(ct 49 (by omega)).1, ?_⟩
      intro q109 e109
      rw [e109]
      refine ⟨by omega, by rw [(ct 49 (by omega)).2]; omega, ?_⟩
      intro v112 e112 _
      rw [Int.toNat_natCast, l49, eg] at e112
      subst e112
      rw [c9]
      refine ⟨c51.1, ?_⟩
      intro q115 e115
      rw [e115]
      refine ⟨by omega, by rw [c51.2]; omega, ?_⟩
      rw [Int.toNat_natCast, (clf k (by omega)).1]
      refine ⟨(clf k (by omega)).2, ?_⟩
      intro q118 e118
      rw [e118]
      refine c_putLeafX (k := gn) ht (by rw [ed]; exact g1) (Or.inl (by omega)) (llf (by omega)) (lok.2.1 (by omega)) (fun G tG fG => ?_)
      intro _
      have cG := c_ci_rg hr hci fG
      rw [cG.1.2.2.2.2.2.1]
      refine ⟨(cG.1.2.2.2.2.2.2.2.2.2.1 49 (by omega)).1, ?_⟩
      intro q126 e126
      rw [e126]
      refine ⟨by omega, by rw [(cG.1.2.2.2.2.2.2.2.2.2.1 49 (by omega)).2]; omega, ?_⟩
      intro v129 e129 _
      rw [(cG.2.2.2 k d hd).2.2.1, eg] at e129
      subst e129
      refine c_blankWay (k := gn) tG (by show gn < 2 ^ t_dp (h_fd h_u1 T L k); rw [ed]; exact g1) (fun Z tZ fZ => ?_)
      intro _
      exact step tZ (c_fr_t fG fZ)
theorem c_ap_32 (hr : 84 < r) (hg : ∀ (k : Nat) (c : w_Ch), L[k]? = some c → c.1.1 ≠ 1 → 0 ≤ h_go c ∧ (h_go c).toNat < 2 ^ t_dp T) : ∀ (n k : Nat) {H : sw_H}, c_V H mk nn K' tl cn cs → c_ci H mk K ms L → c_tr H mk r (h_fd h_r1 T L k) → k ≤ L.length → L.length - k < n → (∀ G, c_V G mk nn K' tl cn cs → c_ci G mk K ms L → c_tr G mk r (t_sh (h_fd h_r1 T L L.length)) → c_fr (c_rg r) H G → ∀ H57, H57 = sw_si G 44 10 0 → ∃ n65, wl_180_65 Q n65 44 r 0 H57) → wl_180_32 Q n 44 r k H
  | 0, _, _, _, _, _, _, h, _ => by omega
  | n + 1, k, H, hV, hci, ht, hk, hn, q => by
    obtain ⟨c0, c3, c4, c5, c6, c7, c8, c9, c12, ct, c47, c51, c52, clf⟩ := hci.1
    have h32 := hci.2.2.1
    unfold wl_180_32
    intro v e _
    rw [hci.2.1] at e
    subst e
    refine ⟨fun c => ?_, fun c => ?_⟩
    · have e : k = L.length := by omega
      rw [e] at ht
      refine c_shrink hV ht (fun G tG fG => ?_)
      intro _
      exact q G (c_V_rg ht hV fG) (c_ci_rg hr hci fG) tG fG
    · obtain ⟨d, hd⟩ := h_get (L := L) (k := k) (by omega)
      obtain ⟨l45, l46, l49, lok, lfl, llf, _⟩ := hci.2.2.2 k d hd
      have ed : t_dp (h_fd h_r1 T L k) = t_dp T := h_fr_dp
      have d16 := t_d_16 ht.2.1.1
      rw [ed] at d16
      have es : h_fd h_r1 T L (k + 1) = h_r1 (h_fd h_r1 T L k) d := h_fd_s hd
      have step : ∀ {G : sw_H}, c_tr G mk r (h_r1 (h_fd h_r1 T L k) d) → c_fr (c_rg r) H G → wb_180_56 Q (wl_180_32 Q n) 44 r k G := fun {G} tG fG => by
        unfold wb_180_56
        intro y ey
        rw [sw_s1 (by omega)] at ey
        subst ey
        exact c_ap_32 hr hg n (k + 1) (c_V_rg ht hV fG) (c_ci_rg hr hci fG) (by rw [es]; exact tG) (by omega) (by omega) (fun Z VZ cZ tZ fZ => q Z VZ cZ tZ (c_fr_t fG fZ))
      rw [c3]
      refine ⟨(ct 45 (by omega)).1, ?_⟩
      intro q103 e103
      rw [e103]
      refine ⟨by omega, by rw [(ct 45 (by omega)).2]; omega, ?_⟩
      intro v106 e106 _
      rw [Int.toNat_natCast, l45] at e106
      subst e106
      refine ⟨fun c2 => step (by unfold h_r1; rw [if_neg c2]; exact ht) (c_fr_refl _ _), fun c2 => ?_⟩
      obtain ⟨g0, g1⟩ := hg k d hd (by omega)
      obtain ⟨gn, eg⟩ : ∃ gn : Nat, h_go d = gn := ⟨(h_go d).toNat, by omega⟩
      have eu : h_r1 (h_fd h_r1 T L k) d = t_bw (t_bl (h_fd h_r1 T L k) (2 * gn)) gn := by
        unfold h_r1; rw [if_pos c2, eg, Int.toNat_natCast]
      rw [eg, Int.toNat_natCast] at g1
      rw [eu] at step
      rw [c7]
      refine ⟨(ct 49 (by omega)).1, ?_⟩
      intro q69 e69
      rw [e69]
      refine ⟨by omega, by rw [(ct 49 (by omega)).2]; omega, ?_⟩
      intro v72 e72 _
      rw [Int.toNat_natCast, l49, eg] at e72
      subst e72
      rw [sw_2k (by omega)]
      refine c_blankX (y := 2 * gn) ht (by omega) (fun G tG fG => ?_)
      intro _
      have cG := c_ci_rg hr hci fG
      rw [cG.1.2.2.2.2.2.1]
      refine ⟨(cG.1.2.2.2.2.2.2.2.2.2.1 49 (by omega)).1, ?_⟩
      intro q80 e80
      rw [e80]
      refine ⟨by omega, by rw [(cG.1.2.2.2.2.2.2.2.2.2.1 49 (by omega)).2]; omega, ?_⟩
      intro v83 e83 _
      rw [Int.toNat_natCast, (cG.2.2.2 k d hd).2.2.1, eg] at e83
      subst e83
      refine c_blankWay (k := gn) tG (by show gn < 2 ^ t_dp (h_fd h_r1 T L k); rw [ed]; exact g1) (fun Z tZ fZ => ?_)
      intro _
      exact step tZ (c_fr_t fG fZ)
/-- leaves that were added -/
def c_adl (H : sw_H) (T0 : w_T) (L : List w_Ch) (k : Nat) : Prop := sw_iv H 44 10 = h_msk T0 L k ∧ ∀ j c, j < k → L[j]? = some c → c.1.1 = 1 → sw_iv H 50 j = ((t_fl (h_fd h_a1 T0 L j) : Nat) : Int)
def c_Ap (r : Nat) : List Nat := 44 :: 50 :: c_rg r
theorem c_Ap_rg (f : c_fr (c_rg r) H G) : c_fr (c_Ap r) H G := c_fr_sub f (fun a ha => List.mem_cons_of_mem _ (List.mem_cons_of_mem _ ha))
theorem c_Ap_m {a : Nat} : a ∈ c_Ap r ↔ a = 44 ∨ a = 50 ∨ (r ≤ a ∧ a ≤ r + 20) := by unfold c_Ap; rw [List.mem_cons, List.mem_cons, c_rg_m]
theorem c_ap_65 (hr : 84 < r) (hroom : h_room T0 L) : ∀ (n k : Nat) {H : sw_H}, c_V H mk nn K' tl cn cs → c_ci H mk K ms L → c_tr H mk r (h_fd h_a1 T0 L k) → c_adl H T0 L k → k ≤ L.length → L.length - k < n → (∀ G, c_V G mk nn K' tl cn cs → c_ci G mk K ms L → c_tr G mk r (h_fd h_a1 T0 L L.length) → c_adl G T0 L L.length → (∀ f, f ≠ 10 → sw_iv G 44 f = sw_iv H 44 f) → c_fr (c_Ap r) H G → Q G) → wl_180_65 Q n 44 r k H
  | 0, _, _, _, _, _, _, _, h, _ => by omega
  | n + 1, k, H, hV, hci, ht, had, hk, hn, q => by
    obtain ⟨c0, c3, c4, c5, c6, c7, c8, c9, c12, ct, c47, c51, c52, clf⟩ := hci.1
    have h32 := hci.2.2.1
    have r1 := ht.1.1
    have r2 := ht.1.2.1
    unfold wl_180_65
    intro v e _
    rw [hci.2.1] at e
    subst e
    refine ⟨fun c => ?_, fun c => ?_⟩
    · have e : k = L.length := by omega
      rw [e] at ht had
      exact q H hV hci ht had (fun _ _ => rfl) (c_fr_refl _ _)
    · obtain ⟨d, hd⟩ := h_get (L := L) (k := k) (by omega)
      obtain ⟨l45, l46, l49, lok, lfl, llf, _⟩ := hci.2.2.2 k d hd
      have es : h_fd h_a1 T0 L (k + 1) = h_a1 (h_fd h_a1 T0 L k) d := h_fd_s hd
      have ek := h_kn_e hd
      have step : ∀ {G : sw_H}, c_tr G mk r (h_a1 (h_fd h_a1 T0 L k) d) → c_adl G T0 L (k + 1) → (∀ f, f ≠ 10 → sw_iv G 44 f = sw_iv H 44 f) → c_fr (c_Ap r) H G → wb_180_96 Q (wl_180_65 Q n) 44 r k G := fun {G} tG aG eG fG => by
        unfold wb_180_96
        intro y ey
        rw [sw_s1 (by omega)] at ey
        subst ey
        refine c_ap_65 hr hroom n (k + 1) (c_V_fr hV fG (fun a ha => ?_)) (c_ci_g hci fG (fun a ha => ?_) (eG 1 (by decide))) (by rw [es]; exact tG) aG (by omega) (by omega) (fun Z VZ cZ tZ aZ eZ fZ => q Z VZ cZ tZ aZ (fun f hf => by rw [eZ f hf, eG f hf]) (c_fr_t fG fZ))
        · rw [c_Ap_m] at ha; unfold c_fix; omega
        · rw [c_Ap_m] at ha; omega
      rw [c3]
      refine ⟨(ct 45 (by omega)).1, ?_⟩
      intro q8 e8
      rw [e8]
      refine ⟨by omega, by rw [(ct 45 (by omega)).2]; omega, ?_⟩
      intro v11 e11 _
      rw [Int.toNat_natCast, l45] at e11
      subst e11
      refine ⟨fun c1 => step (by unfold h_a1; rw [if_neg c1]; exact ht) ⟨?_, fun j c hj hc h1 => ?_⟩ (fun _ _ => rfl) (c_fr_refl _ _), fun c1 => ?_⟩
      · rw [h_msk_n (by rw [ek]; exact c1)]; exact had.1
      · rcases Nat.lt_or_ge j k with a | a
        · exact had.2 j c a hc h1
        · have ej : j = k := by omega
          subst ej
          rw [hd] at hc
          cases hc
          exact absurd h1 c1
      · have ea : h_a1 (h_fd h_a1 T0 L k) d = t_add (h_fd h_a1 T0 L k) (h_lf d) := by unfold h_a1; rw [if_pos c1]
        rw [ea] at step
        have hl := hroom k d hd c1
        rw [c8]
        refine ⟨(ct 50 (by omega)).1, ?_⟩
        intro q14 e14
        rw [c9]
        refine ⟨c51.1, ?_⟩
        intro q17 e17
        rw [e17]
        refine ⟨by omega, by rw [c51.2]; omega, ?_⟩
        rw [Int.toNat_natCast, (clf k (by omega)).1]
        refine ⟨(clf k (by omega)).2, ?_⟩
        intro q20 e20
        rw [e20]
        refine c_addLeaf hV ht (Or.inl (by omega)) (llf (by omega)) (lok.2.1 (by omega)) hl (fun G tG fG => ?_)
        intro _ _
        rw [e14]
        refine ⟨by omega, by rw [fG.2.2.2.1, (ct 50 (by omega)).2]; omega, ?_⟩
        intro Y eY
        have fY : c_fr [50] G Y := by rw [eY]; exact c_fr_si _ _ _ _
        intro v31 e31 _
        have n44 : 44 ∉ c_rg r := by rw [c_rg_m]; omega
        have n50 : 50 ∉ c_rg r := by rw [c_rg_m]; omega
        rw [fY.2.2.2.2.2 44 (by simp), fG.2.2.2.2.2 44 n44, had.1] at e31
        rw [fY.2.2.2.2.1, fG.2.2.2.2.1, c8]
        refine ⟨by rw [fY.2.2.1, fG.2.2.1]; exact (ct 50 (by omega)).1, ?_⟩
        intro q34 e34
        rw [e34]
        refine ⟨by omega, by rw [fY.2.2.2.1, fG.2.2.2.1, (ct 50 (by omega)).2]; omega, ?_⟩
        intro v37 e37 _
        rw [eY, c_si_eq] at e37
        intro X eX
        rw [e31, e37, sw_shl_h hl] at eX
        have fX : c_fr [44] Y X := by rw [eX]; exact c_fr_si _ _ _ _
        have gf : c_fr (c_Ap r) H X := c_fr_t (c_fr_t (c_Ap_rg fG) (c_fr_sub fY (fun a ha => by rw [c_Ap_m]; simp at ha; omega))) (c_fr_sub fX (fun a ha => by rw [c_Ap_m]; simp at ha; omega))
        have tX : c_tr X mk r (t_add (h_fd h_a1 T0 L k) (h_lf d)) := by
          have VG := c_V_rg ht hV fG
          have tY := c_tr_fr VG tG fY (fun a ha => by simp at ha; unfold c_fix; omega)
          have VY := c_V_fr VG fY (fun a ha => by simp at ha; unfold c_fix; omega)
          exact c_tr_fr VY tY fX (fun a ha => by simp at ha; unfold c_fix; omega)
        refine step tX ⟨?_, fun j c hj hc h1 => ?_⟩ (fun f hf => ?_) gf
        · rw [eX, c_si_eq, h_msk_1 (by rw [ek]; exact c1)]
        · rw [fX.2.2.2.2.2 50 (by simp), eY]
          rcases Nat.lt_or_ge j k with a | a
          · rw [c_si_f (by omega), fG.2.2.2.2.2 50 n50]
            exact had.2 j c a hc h1
          · have ej : j = k := by omega
            subst ej
            rw [c_si_eq]
        · rw [eX, c_si_f hf, fY.2.2.2.2.2 44 (by simp), fG.2.2.2.2.2 44 n44]
theorem c_applyTo (hr : 84 < r) (hV : c_V H mk nn K' tl cn cs) (hci : c_ci H mk K ms L) (ht : c_tr H mk r T) (hg : ∀ (k : Nat) (c : w_Ch), L[k]? = some c → c.1.1 ≠ 1 → 0 ≤ h_go c ∧ (h_go c).toNat < 2 ^ t_dp T) (hroom : h_room (h_0 T L) L) (q : ∀ G, c_V G mk nn K' tl cn cs → c_ci G mk K ms L → c_tr G mk r (h_ap T L) → c_adl G (h_0 T L) L L.length → (∀ f, f ≠ 10 → sw_iv G 44 f = sw_iv H 44 f) → c_fr (c_Ap r) H G → Q G) : wm_180 44 r H Q := by
  have r1 := ht.1.1
  have r2 := ht.1.2.1
  unfold wm_180
  refine ⟨L.length + 1, c_ap_2 hr hg _ 0 hV hci ht (by omega) (by omega) (fun A VA cA tA fA => ?_)⟩
  refine ⟨L.length + 1, c_ap_32 (T := h_fd h_u1 T L L.length) hr (fun k c hc h1 => by rw [h_fu_dp]; exact hg k c hc h1) _ 0 VA cA tA (by omega) (by omega) (fun B VB cB tB fB H57 e57 => ?_)⟩
  have f57 : c_fr [44] B H57 := by rw [e57]; exact c_fr_si _ _ _ _
  have V57 := c_V_fr VB f57 (fun a ha => by simp at ha; unfold c_fix; omega)
  have c57 := c_ci_44 cB f57 (by rw [e57, c_si_f (by decide)])
  have t57 : c_tr H57 mk r (h_0 T L) := c_tr_fr VB tB f57 (fun a ha => by simp at ha; unfold c_fix; omega)
  have n44 : 44 ∉ c_rg r := by rw [c_rg_m]; omega
  refine ⟨L.length + 1, c_ap_65 hr hroom _ 0 V57 c57 t57 ⟨by rw [e57, c_si_eq]; rfl, fun j c hj => by omega⟩ (by omega) (by omega) (fun G VG cG tG aG eG fG => q G VG cG tG aG (fun f hf => ?_) ?_)⟩
  · rw [eG f hf, e57, c_si_f hf, fB.2.2.2.2.2 44 n44, fA.2.2.2.2.2 44 n44]
  · exact c_fr_t (c_Ap_rg (c_fr_t fA fB)) (c_fr_t (c_fr_sub f57 (fun a ha => by rw [c_Ap_m]; simp at ha; omega)) fG)
end
