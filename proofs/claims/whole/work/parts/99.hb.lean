/-! ===== the class: what stays while a group is changed; messages sent ===== -/
noncomputable section
section
variable {L : List w_Ch} {T0 : w_T}
theorem k_ad_nad {G : w_G} : (k_ad G L).length = h_nad L := by
  have := h_ads_len (L := L) (T0 := h_0 (gg_T G) L) L.length (Nat.le_refl _)
  rw [List.take_length] at this
  exact this
theorem h_nad_lt : h_nad L ≤ L.length ∧ (h_nad L < L.length ↔ ∃ c ∈ L, c.1.1 ≠ 1) := by
  unfold h_nad
  refine ⟨List.countP_le_length, ?_⟩
  refine ⟨fun h => ?_, fun h => ?_⟩
  · refine Classical.byContradiction (fun no => ?_)
    have : L.countP (fun d => decide (d.1.1 = 1)) = L.length := List.countP_eq_length.mpr (fun c hc => by
      rw [decide_eq_true_iff]
      exact Classical.byContradiction (fun cc => no ⟨c, hc, cc⟩))
    omega
  · obtain ⟨c, hc, h1⟩ := h
    have a : L.countP (fun d => decide (d.1.1 = 1)) ≤ L.length := List.countP_le_length
    have : L.countP (fun d => decide (d.1.1 = 1)) ≠ L.length := fun e => by
      have := List.countP_eq_length.mp e c hc
      rw [decide_eq_true_iff] at this
      exact h1 this
    omega
end
variable {H G Z X Y : sw_H} {mk mm tl tl' tp l : List Wt} {ms : List (List Wt)} {rd : Nat → Int} {nn nm g g1 g2 m : Nat} {K K' : Wt → Prop} {cn cs cn' cs' N U M z x : Int} {Q : sw_H → Prop} {P : Int → sw_H → Prop} {A : List Nat} {s : Wt} {L : List w_Ch} {La : Nat → List (Wt × Nat)}
theorem c_BS_cg (hpl : c_pl g) (h : c_BS H mk nn K tl cn cs tp rd ms La) (hW : c_W Z mm nm K' tl' cn' cs') (k : c_ch A H Z) (hl : w_le mk mm) (hA : ∀ a ∈ A, c_hl a ∨ (g ≤ a ∧ a ≤ g + 22)) : c_BS Z mm nm K' tl' cn' cs' tp rd ms La := by
  obtain ⟨h1, h2, h3, h4⟩ := h
  obtain ⟨b1, b2⟩ := c_pl_b hpl
  have fl := h1.1.2.2.2.1
  have ad := h1.1.2.2.2.2
  have mem : ∀ m, m < 24 → 120 + 54 * m ∉ A := fun m hm c => by have a := hA _ c; have b := c_pl_m hpl hm; unfold c_hl at a; omega
  have mem2 : ∀ m, m < 24 → ∀ i, 47 ≤ i → i < 54 → 120 + 54 * m + i ∉ A := fun m hm i hi hi2 c => by have a := hA _ c; have b := c_pl_a hpl hm hi hi2; unfold c_hl at a; omega
  have memv : ∀ m, m < 24 → (∀ f, sw_iv Z (120 + 54 * m) f = sw_iv H (120 + 54 * m) f) ∧ ∀ f, sw_rv Z (120 + 54 * m) f = sw_rv H (120 + 54 * m) f := fun m hm => c_fx_iv fl ad k (by unfold c_fix; omega) (mem m hm)
  refine ⟨hW, c_X_ch h1.1 h2 k hW.1 hl (fun a ha => by have := hA a ha; unfold c_hl at this; omega), c_MS_ch h3 fl ad k (fun c => by have := hA _ c; have b := c_pl_m hpl (j := 0) (by decide); unfold c_hl at this; rcases hpl with e | ⟨i, hi, e⟩ <;> omega) (fun m hm c => absurd c (mem m hm)) hl, c_KS_ch h1.1 h2 h4 k hl (fun c => by have := hA _ c; unfold c_hl at this; omega) (fun m hm => ?_) (fun i hi c => ?_)⟩
  · obtain ⟨e1, e2⟩ := memv m hm
    obtain ⟨kp, _⟩ := h4.1 m hm
    have n7 : c_ka H m 7 ∉ A := fun c => by
      rcases kp.2.2.2.2.2.1 with e | e
      · rw [e] at c; exact mem2 m hm 47 (by decide) (by decide) c
      · have := hA _ c; unfold c_hl at this; omega
    have n8 : c_ka H m 8 ∉ A := fun c => by
      rcases kp.2.2.2.2.2.2 with e | e
      · rw [e] at c; exact mem2 m hm 48 (by decide) (by decide) c
      · have := hA _ c; unfold c_hl at this; omega
    exact ⟨e1 9, e2 7, e2 8, n7, n8⟩
  · obtain ⟨l, hl⟩ : ∃ l, ms[i]? = some l := ⟨ms[i]'hi, List.getElem?_eq_getElem hi⟩
    obtain ⟨g1, _⟩ := h2.2.2.2.2.2 i l hl
    have := hA _ c
    unfold c_hl at this
    omega
/-- sent, and messages that were there lie where they lay -/
theorem c_BS_send3 (lm : c_lm cn cs N U M) (bd : c_bl mk tl N U M) (h : c_BS H mk nn K tl cn cs tp rd ms La) (hr : c_rr H mk 1420 1421 l) (hl : l.length ≤ 1200) (h3 : ms.length < 300) (q : ∀ G, c_BS G mk nn (w_lrs K l) tl (cn + 2) (cs + 2 + l.length) tp rd (ms ++ [l]) La → c_rr G mk 1420 1421 l → c_ch [2, 1416] H G → (∀ i, i ≠ ms.length → sw_rv G 1416 i = sw_rv H 1416 i) → P ms.length G) : wm_163 2 H P := by
  obtain ⟨h1, h2, h4, h5⟩ := h
  refine c_send2 lm bd h1 h2 hr hl h3 (fun G WG XG rG cG nG => q G ⟨WG, XG, ?_, c_KS_send h1.1 h2 h5 cG nG⟩ rG cG nG.1)
  exact c_MS_ch h4 h1.1.2.2.2.1 h1.1.2.2.2.2 cG (by simp) (fun m hm c => by simp at c; omega) (w_le_refl _)
theorem c_ci_send (h : c_ci H mk K ms L) (fl : c_full H) (ad : c_ads H) (c : c_ch A H G) (hA : ∀ a ∈ A, a < 44 ∨ 84 < a ∨ a = 50 ∨ a = 52) (hl : w_le mk mm) (h16 : ∀ i, i ≠ ms.length → sw_rv G 1416 i = sw_rv H 1416 i) : c_ci G mm K (ms ++ [l]) L := by
  have na : ∀ a, 44 ≤ a → a ≤ 84 → a ≠ 50 → a ≠ 52 → (∀ f, sw_iv G a f = sw_iv H a f) ∧ ∀ f, sw_rv G a f = sw_rv H a f := fun a h1 h2 h3 h4 => c_fx_iv fl ad c (q := a) (by unfold c_fix; omega) (fun cc => by have := hA a cc; omega)
  have nt : ∀ a, 44 ≤ a → a ≤ 84 → sw_ty G a = sw_ty H a ∧ sw_ln G a = sw_ln H a := fun a h1 h2 => c_fx_ty fl c (q := a) (by unfold c_fix; omega)
  obtain ⟨⟨c0, c3, c4, c5, c6, c7, c8, c9, c12, ct, c47, c51, c52, clf⟩, h2, h3, h4⟩ := h
  have v44 := (na 44 (by omega) (by omega) (by omega) (by omega)).2
  refine ⟨⟨by rw [v44]; exact c0, by rw [v44]; exact c3, by rw [v44]; exact c4, by rw [v44]; exact c5, by rw [v44]; exact c6, by rw [v44]; exact c7, by rw [v44]; exact c8, by rw [v44]; exact c9, by rw [v44]; exact c12, fun a ha => by rw [(nt a (by omega) (by omega)).1, (nt a (by omega) (by omega)).2]; exact ct a ha, by rw [(nt 47 (by omega) (by omega)).1, (nt 47 (by omega) (by omega)).2]; exact c47, by rw [(nt 51 (by omega) (by omega)).1, (nt 51 (by omega) (by omega)).2]; exact c51, by rw [(nt 52 (by omega) (by omega)).1, (nt 52 (by omega) (by omega)).2]; exact c52, fun k hk => by rw [(na 51 (by omega) (by omega) (by omega) (by omega)).2, (nt (53 + k) (by omega) (by omega)).1]; exact clf k hk⟩, by rw [(na 44 (by omega) (by omega) (by omega) (by omega)).1]; exact h2, h3, fun k c hc => ?_⟩
  have hk := h_lt hc
  obtain ⟨e45, e46, e49, ok, lf, llf, mi, l', i, e, s, m1, m2, m3, m4, m5, m6⟩ := h4 k c hc
  have mil : mi < ms.length := (List.getElem?_eq_some_iff.mp m1).1
  exact ⟨by rw [(na 45 (by omega) (by omega) (by omega) (by omega)).1]; exact e45, by rw [(na 46 (by omega) (by omega) (by omega) (by omega)).1]; exact e46, by rw [(na 49 (by omega) (by omega) (by omega) (by omega)).1]; exact e49, ok, lf, fun h3 => c_Lf_iv (llf h3) (na (53 + k) (by omega) (by omega) (by omega) (by omega)).1 hl, mi, l', i, e, s, by rw [List.getElem?_append_left mil]; exact m1, by rw [(na 47 (by omega) (by omega) (by omega) (by omega)).2, h16 mi (by omega)]; exact m2, by rw [(na 48 (by omega) (by omega) (by omega) (by omega)).1]; exact m3, m4, m5, m6⟩
theorem c_p5_ne (hL : c_L H mk nn K tl) (hx : w_at mk x (w_p5 s)) : s ≠ [] := by
  obtain ⟨t1, t2, rw', eg⟩ := c_L_rw hL hx
  obtain ⟨va, _, _, _, _, hd, hn⟩ := rw'
  have e4 := hL.2.1
  intro es
  by_cases c8 : c_d H x.toNat 0 = 0
  · rcases hn c8 with ⟨_, hi⟩ | ⟨_, i, _, hi⟩
    · rw [eg] at hi
      have := (w_mk_inj hi).1
      omega
    · rw [eg] at hi
      have := (w_mk_inj hi).1
      omega
  · have hd := (hd c8).1
    rw [eg] at hd
    obtain ⟨e5, hd⟩ := w_mk_inj hd
    simp only [List.cons.injEq] at hd
    obtain ⟨v0, v1, v2, v3, v4, v5, v6, v7, v8, v9, v10, _⟩ := va
    have s5 : c_d H x.toNat 0 = 5 := by omega
    obtain ⟨a1, _⟩ := v10 (Or.inr (Or.inl s5))
    have ex : ((x.toNat : Nat) : Int) = x := by omega
    rw [ex] at v3
    have at1 : w_at mk (c_d H x.toNat 1) (w_d mk (c_d H x.toNat 1).toNat) := w_at_of a1 (by omega)
    have ne := c_at_ne hL at1
    have h1 := hd.1
    unfold w_dz at h1
    rw [if_neg (by omega)] at h1
    exact ne (by rw [← h1]; exact es)
end
