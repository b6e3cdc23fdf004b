/-! ===== one call of the law: those that throw nothing ===== -/
noncomputable section
section
variable {H X Z H' : sw_H} {I J : sr_V} {n nn us us' m : Nat} {σ : Nat → Int} {K K' : Wt → Prop} {tl tl' tp tp' mk mm mc mr : List Wt} {rd rd' : Nat → Int} {ms : List (List Wt)} {cn cs cn' cs' x4 z N U M : Int} {A : List Nat} {B : Nat → v_M} {k q : sw_H → Prop}
theorem l_rd1 {φ : Int → Prop} (h : l_S H n σ) (x0 : 0 ≤ x4) (x6 : x4 + 6 ≤ n) (k : sw_c (σ (x4.toNat + 1)) → φ (σ (x4.toNat + 1))) : 0 ≤ sw_w (x4 + 1) ∧ sw_w (x4 + 1) < (sw_ln H 1 : Int) ∧ ∀ v, v = sw_iv H 1 (sw_w (x4 + 1)).toNat → sw_c v → φ v := l_rd 1 (by omega) h x0 x6 k
theorem l_rd2 {φ : Int → Prop} (h : l_S H n σ) (x0 : 0 ≤ x4) (x6 : x4 + 6 ≤ n) (k : sw_c (σ (x4.toNat + 2)) → φ (σ (x4.toNat + 2))) : 0 ≤ sw_w (x4 + 2) ∧ sw_w (x4 + 2) < (sw_ln H 1 : Int) ∧ ∀ v, v = sw_iv H 1 (sw_w (x4 + 2)).toNat → sw_c v → φ v := l_rd 2 (by omega) h x0 x6 k
theorem l_rd3 {φ : Int → Prop} (h : l_S H n σ) (x0 : 0 ≤ x4) (x6 : x4 + 6 ≤ n) (k : sw_c (σ (x4.toNat + 3)) → φ (σ (x4.toNat + 3))) : 0 ≤ sw_w (x4 + 3) ∧ sw_w (x4 + 3) < (sw_ln H 1 : Int) ∧ ∀ v, v = sw_iv H 1 (sw_w (x4 + 3)).toNat → sw_c v → φ v := l_rd 3 (by omega) h x0 x6 k
theorem l_rd4 {φ : Int → Prop} (h : l_S H n σ) (x0 : 0 ≤ x4) (x6 : x4 + 6 ≤ n) (k : sw_c (σ (x4.toNat + 4)) → φ (σ (x4.toNat + 4))) : 0 ≤ sw_w (x4 + 4) ∧ sw_w (x4 + 4) < (sw_ln H 1 : Int) ∧ ∀ v, v = sw_iv H 1 (sw_w (x4 + 4)).toNat → sw_c v → φ v := l_rd 4 (by omega) h x0 x6 k
theorem l_rd5 {φ : Int → Prop} (h : l_S H n σ) (x0 : 0 ≤ x4) (x6 : x4 + 6 ≤ n) (k : sw_c (σ (x4.toNat + 5)) → φ (σ (x4.toNat + 5))) : 0 ≤ sw_w (x4 + 5) ∧ sw_w (x4 + 5) < (sw_ln H 1 : Int) ∧ ∀ v, v = sw_iv H 1 (sw_w (x4 + 5)).toNat → sw_c v → φ v := l_rd 5 (by omega) h x0 x6 k
/-- what is asked of the room -/
def l_hb (mc mr tl : List Wt) (cn cs N U M : Int) : Prop := c_lm (cn + 4) (cs + 4000) N U M ∧ (0 ≤ cn ∧ 0 ≤ cs) ∧ c_bl mc tl N U M ∧ tl.length < 44998 ∧ mr.length + 1 ≤ 44999 ∧ w_tot mr + 1200 ≤ 1400000
theorem l_hb_rm (hb : l_hb mc mr tl cn cs N U M) (hc : c_ZZ H mc nn K tl cn cs tp rd ms B) : sw_n H + 8 ≤ sxlim.1 ∧ sw_s H + 2000 ≤ sxlim.2 := by
  have lm : c_lm cn cs N U M := c_lm_le hb.1 (by omega) (by omega)
  have hV := hc.1.1.1
  exact c_A_sm lm hV.2.2.1 hV.1.1 (c_bd_le (c_bl_bd hV.1 hb.2.2.1) (by decide) (by decide) (by decide))
theorem l_hb_rn (hb : l_hb mc mr tl cn cs N U M) (hc : c_ZZ H mc nn K tl cn cs tp rd ms B) : c_rmN H := by
  have lm : c_lm cn cs N U M := c_lm_le hb.1 (by omega) (by omega)
  have hV := hc.1.1.1
  exact c_A_rmN lm hV.2.2.1 hV.1.1 (c_bd_le (c_bl_bd hV.1 hb.2.2.1) (by decide) (by decide) (by decide))
/-- behind a call -/
theorem l_dn {mc' mr' : List Wt} {nn' : Nat} {ms' : List (List Wt)} {B' : Nat → v_M} {cp : Int} (hS : l_S X n σ) (hc : c_ZZ X mc' nn' K' tl' cn' cs' tp' rd' ms' B') (hz : m_ZZ J mr' us' nn' K' tl' tp' rd' ms' B') (hv : ∀ m, m < 24 → ∃ C Pt, v_mo K' nn' ms' m (B' m) C Pt) (h5 : w_m5 mr') (hK : w_clo K') (hg : l_gr K nn ms B mc mr tl tp cn cs cp mc' mr' tl' ms' cn' cs' (c_cp X)) (hk : l_k n σ K nn ms B mc mr tl tp cn cs cp k) : ∀ H', sr_m H' J → sr_fr X H' → k H' := fun H' m f => hk H' mc' mr' nn' K' tl' tp' rd' ms' B' cn' cs' ⟨l_S_sr hS f, c_ZZ_sr hc f, ⟨J, us', m, hz⟩, hv, h5, hK⟩ (by rw [c_cp_sr f]; exact hg)
/-- behind a call that makes nothing -/
theorem l_n0 (hZ : l_Z n σ H mc mr nn K tl tp rd ms B cn cs) (hb : l_hb mc mr tl cn cs N U M) (hk : l_k n σ K nn ms B mc mr tl tp cn cs (c_cp H) k) (hS : l_S X n σ) (hc : c_ZZ X mc nn K tl' cn' cs' tp' rd' ms B) (cp : c_cp X = c_cp H) (hz : m_ZZ J mr us' nn K tl' tp' rd' ms B) (ht : tl'.length ≤ tl.length + 1) (hcn : cn' = cn ∨ cn' = cn + 1) (hcs : cs' = cs ∨ cs' = cs + 6) : ∀ H', sr_m H' J → sr_fr X H' → k H' := by
  have h0 := hb.2.1
  exact l_dn hS hc hz hZ.2.2.2.1 hZ.2.2.2.2.1 hZ.2.2.2.2.2 ⟨ht, by omega, by rw [cp]; omega, fun _ => False, Or.inl ⟨fun _ c => c, Or.inl rfl⟩, w_mo_refl, w_mo_refl⟩ hk
theorem w_ts_len (tl : List Wt) (w : Wt) : (w_ts tl w).2.length ≤ tl.length + 1 := by
  unfold w_ts
  split
  · exact Nat.le_succ _
  · exact (w_tl_len tl w).1
theorem w_tp_len (tl : List Wt) (w : Wt) : (w_tp tl w).2.length ≤ tl.length + 1 := by
  unfold w_tp
  split
  · exact Nat.le_succ _
  · exact (w_tl_len tl w).1
theorem l_cp0 (hc : c_ZZ H mc nn K tl cn cs tp rd ms B) (c : c_ch A H X) (hA : ∀ a ∈ A, a < 120 ∨ 1415 < a) : c_cp X = c_cp H := c_cp_ch hc c (fun j hj cc => by have := hA _ cc; omega)
theorem s_feed (hZ : l_Z n σ H mc mr nn K tl tp rd ms B cn cs) (hb : l_hb mc mr tl cn cs N U M) (hk : l_k n σ K nn ms B mc mr tl tp cn cs (c_cp H) k) (x0 : 0 ≤ x4) (x6 : x4 + 6 ≤ n) : 0 ≤ sw_w (x4 + 1) ∧ sw_w (x4 + 1) < (sw_ln H 1 : Int) ∧ ∀ v59, v59 = sw_iv H 1 (sw_w (x4 + 1)).toNat → sw_c v59 → 0 ≤ sw_w (x4 + 2) ∧ sw_w (x4 + 2) < (sw_ln H 1 : Int) ∧ ∀ v62, v62 = sw_iv H 1 (sw_w (x4 + 2)).toNat → sw_c v62 → 0 ≤ sw_w (x4 + 3) ∧ sw_w (x4 + 3) < (sw_ln H 1 : Int) ∧ ∀ v65, v65 = sw_iv H 1 (sw_w (x4 + 3)).toNat → sw_c v65 → 0 ≤ sw_w (x4 + 4) ∧ sw_w (x4 + 4) < (sw_ln H 1 : Int) ∧ ∀ v68, v68 = sw_iv H 1 (sw_w (x4 + 4)).toNat → sw_c v68 → 0 ≤ sw_w (x4 + 5) ∧ sw_w (x4 + 5) < (sw_ln H 1 : Int) ∧ ∀ v71, v71 = sw_iv H 1 (sw_w (x4 + 5)).toNat → sw_c v71 → wm_3 2 v59 v62 v65 v68 v71 H (fun H74 => sw_ext H H74 → 0 ≤ sw_w (x4 + 1) ∧ sw_w (x4 + 1) < (sw_ln H74 1 : Int) ∧ ∀ v79, v79 = sw_iv H74 1 (sw_w (x4 + 1)).toNat → sw_c v79 → 0 ≤ sw_w (x4 + 2) ∧ sw_w (x4 + 2) < (sw_ln H74 1 : Int) ∧ ∀ v82, v82 = sw_iv H74 1 (sw_w (x4 + 2)).toNat → sw_c v82 → 0 ≤ sw_w (x4 + 3) ∧ sw_w (x4 + 3) < (sw_ln H74 1 : Int) ∧ ∀ v85, v85 = sw_iv H74 1 (sw_w (x4 + 3)).toNat → sw_c v85 → 0 ≤ sw_w (x4 + 4) ∧ sw_w (x4 + 4) < (sw_ln H74 1 : Int) ∧ ∀ v88, v88 = sw_iv H74 1 (sw_w (x4 + 4)).toNat → sw_c v88 → 0 ≤ sw_w (x4 + 5) ∧ sw_w (x4 + 5) < (sw_ln H74 1 : Int) ∧ ∀ v91, v91 = sw_iv H74 1 (sw_w (x4 + 5)).toNat → sw_c v91 → ∃ I94, sr_m H74 I94 ∧ rm_4 v79 v82 v85 v88 v91 I94 (fun J95 => ∀ H96, sr_m H96 J95 → sr_fr H74 H96 → k H96)) := by
  obtain ⟨hS, hc, ⟨I, us, hm, hz⟩, hv, h5, hK⟩ := id hZ
  refine l_rd1 hS x0 x6 (fun c1 => l_rd2 hS x0 x6 (fun c2 => l_rd3 hS x0 x6 (fun c3 => l_rd4 hS x0 x6 (fun c4 => l_rd5 hS x0 x6 (fun c5 => x_feed hc (fun G zG cG _ => ?_))))))
  have cA : c_cA [1419] := fun a ha => by simp at ha; omega
  have SG := l_S_ch hS hc cG cA
  refine l_rd1 SG x0 x6 (fun _ => l_rd2 SG x0 x6 (fun _ => l_rd3 SG x0 x6 (fun _ => l_rd4 SG x0 x6 (fun _ => l_rd5 SG x0 x6 (fun _ => ⟨I, l_m_ch hm hc cG cA, z_feed c1 c2 c3 c4 c5 hz (fun J us' zJ => ?_)⟩)))))
  exact fun H' m' f' => l_n0 hZ hb hk SG zG (l_cp0 hc cG (by simp)) zJ (by omega) (Or.inl rfl) (Or.inl rfl) H' m' f'
theorem s_end (hZ : l_Z n σ H mc mr nn K tl tp rd ms B cn cs) (hb : l_hb mc mr tl cn cs N U M) (hk : l_k n σ K nn ms B mc mr tl tp cn cs (c_cp H) k) (x0 : 0 ≤ x4) (x6 : x4 + 6 ≤ n) : 0 ≤ sw_w (x4 + 1) ∧ sw_w (x4 + 1) < (sw_ln H 1 : Int) ∧ ∀ v104, v104 = sw_iv H 1 (sw_w (x4 + 1)).toNat → sw_c v104 → wm_5 2 v104 H (fun z110 H107 => sw_c z110 → sw_ext H H107 → 0 ≤ sw_w (x4 + 1) ∧ sw_w (x4 + 1) < (sw_ln H107 1 : Int) ∧ ∀ v112, v112 = sw_iv H107 1 (sw_w (x4 + 1)).toNat → sw_c v112 → ∃ I115, sr_m H107 I115 ∧ rm_6 v112 I115 (fun z121 J116 => sw_c z121 → ∀ H117, sr_m H117 J116 → sr_fr H107 H117 → (z110 = z121 → k H117) ∧ (z110 ≠ z121 → q H117))) := by
  obtain ⟨hS, hc, ⟨I, us, hm, hz⟩, hv, h5, hK⟩ := id hZ
  refine l_rd1 hS x0 x6 (fun ca => x_end hc (fun c0 _ _ => ?_) (fun G a1 a2 a3 zG cG _ _ => ?_))
  · refine l_rd1 hS x0 x6 (fun _ => ⟨I, hm, z_end hz (fun J us' c1 zJ => ?_) (fun J us' b1 b2 b3 zJ => ?_)⟩)
    · exact l_eq rfl (l_n0 hZ hb hk hS hc rfl zJ (by omega) (Or.inl rfl) (Or.inl rfl))
    · exfalso; omega
  · have cA : c_cA [1417, 1418, 1419] := fun a ha => by simp at ha; omega
    have SG := l_S_ch hS hc cG cA
    refine l_rd1 SG x0 x6 (fun _ => ⟨I, l_m_ch hm hc cG cA, z_end hz (fun J us' c1 zJ => ?_) (fun J us' b1 b2 b3 zJ => ?_)⟩)
    · exfalso; omega
    · exact l_eq rfl (l_n0 hZ hb hk SG zG (l_cp0 hc cG (by simp)) zJ (by omega) (Or.inl rfl) (Or.inl rfl))
theorem s_copy (hZ : l_Z n σ H mc mr nn K tl tp rd ms B cn cs) (hb : l_hb mc mr tl cn cs N U M) (hk : l_k n σ K nn ms B mc mr tl tp cn cs (c_cp H) k) (x0 : 0 ≤ x4) (x6 : x4 + 6 ≤ n) : 0 ≤ sw_w (x4 + 1) ∧ sw_w (x4 + 1) < (sw_ln H 1 : Int) ∧ ∀ v172, v172 = sw_iv H 1 (sw_w (x4 + 1)).toNat → sw_c v172 → 0 ≤ sw_w (x4 + 2) ∧ sw_w (x4 + 2) < (sw_ln H 1 : Int) ∧ ∀ v175, v175 = sw_iv H 1 (sw_w (x4 + 2)).toNat → sw_c v175 → 0 ≤ sw_w (x4 + 3) ∧ sw_w (x4 + 3) < (sw_ln H 1 : Int) ∧ ∀ v178, v178 = sw_iv H 1 (sw_w (x4 + 3)).toNat → sw_c v178 → wm_10 2 v172 v175 v178 H (fun z184 H181 => sw_c z184 → sw_ext H H181 → 0 ≤ sw_w (x4 + 1) ∧ sw_w (x4 + 1) < (sw_ln H181 1 : Int) ∧ ∀ v186, v186 = sw_iv H181 1 (sw_w (x4 + 1)).toNat → sw_c v186 → 0 ≤ sw_w (x4 + 2) ∧ sw_w (x4 + 2) < (sw_ln H181 1 : Int) ∧ ∀ v189, v189 = sw_iv H181 1 (sw_w (x4 + 2)).toNat → sw_c v189 → 0 ≤ sw_w (x4 + 3) ∧ sw_w (x4 + 3) < (sw_ln H181 1 : Int) ∧ ∀ v192, v192 = sw_iv H181 1 (sw_w (x4 + 3)).toNat → sw_c v192 → ∃ I195, sr_m H181 I195 ∧ rm_11 v186 v189 v192 I195 (fun z201 J196 => sw_c z201 → ∀ H197, sr_m H197 J196 → sr_fr H181 H197 → (z184 = z201 → k H197) ∧ (z184 ≠ z201 → q H197))) := by
  obtain ⟨hS, hc, ⟨I, us, hm, hz⟩, hv, h5, hK⟩ := id hZ
  refine l_rd1 hS x0 x6 (fun ca => l_rd2 hS x0 x6 (fun cb => l_rd3 hS x0 x6 (fun cc => x_copy hc cc (fun c0 _ _ => ?_) (fun l G a1 a2 a3 a4 a5 a6 zG cG _ _ => ?_))))
  · refine l_rd1 hS x0 x6 (fun _ => l_rd2 hS x0 x6 (fun _ => l_rd3 hS x0 x6 (fun _ => ⟨I, hm, z_copy cc hz (fun J us' c1 zJ => ?_) (fun l J us' b1 b2 b3 b4 b5 b6 zJ => ?_)⟩)))
    · exact l_eq rfl (l_n0 hZ hb hk hS hc rfl zJ (by omega) (Or.inl rfl) (Or.inl rfl))
    · exact absurd ⟨b1, b2, b3, b4, b5, b6⟩ (c0 l)
  · have cA : c_cA [1417, 1418] := fun a ha => by simp at ha; omega
    have SG := l_S_ch hS hc cG cA
    refine l_rd1 SG x0 x6 (fun _ => l_rd2 SG x0 x6 (fun _ => l_rd3 SG x0 x6 (fun _ => ⟨I, l_m_ch hm hc cG cA, z_copy cc hz (fun J us' c1 zJ => ?_) (fun l' J us' b1 b2 b3 b4 b5 b6 zJ => ?_)⟩)))
    · exact absurd ⟨a1, a2, a3, a4, a5, a6⟩ (c1 l)
    · have e := Option.some.inj (a2.symm.trans b2)
      subst e
      exact l_eq rfl (l_n0 hZ hb hk SG zG (l_cp0 hc cG (by simp)) zJ (by omega) (Or.inl rfl) (Or.inl rfl))
theorem s_isKnown (hZ : l_Z n σ H mc mr nn K tl tp rd ms B cn cs) (hb : l_hb mc mr tl cn cs N U M) (hk : l_k n σ K nn ms B mc mr tl tp cn cs (c_cp H) k) (x0 : 0 ≤ x4) (x6 : x4 + 6 ≤ n) : 0 ≤ sw_w (x4 + 1) ∧ sw_w (x4 + 1) < (sw_ln H 1 : Int) ∧ ∀ v548, v548 = sw_iv H 1 (sw_w (x4 + 1)).toNat → sw_c v548 → wm_28 2 v548 H (fun z554 H551 => sw_c z554 → sw_ext H H551 → 0 ≤ sw_w (x4 + 1) ∧ sw_w (x4 + 1) < (sw_ln H551 1 : Int) ∧ ∀ v556, v556 = sw_iv H551 1 (sw_w (x4 + 1)).toNat → sw_c v556 → ∃ I559, sr_m H551 I559 ∧ rm_29 v556 I559 (fun z565 J560 => sw_c z565 → ∀ H561, sr_m H561 J560 → sr_fr H551 H561 → (z554 = z565 → k H561) ∧ (z554 ≠ z565 → q H561))) := by
  obtain ⟨hS, hc, ⟨I, us, hm, hz⟩, hv, h5, hK⟩ := id hZ
  have fin : ∀ {J : sr_V} {us' : Nat}, m_ZZ J mr us' nn K tl tp rd ms B → ∀ H', sr_m H' J → sr_fr H H' → k H' := fun zJ => l_n0 hZ hb hk hS hc rfl zJ (by omega) (Or.inl rfl) (Or.inl rfl)
  have hl := hb.2.2.2.1
  refine l_rd1 hS x0 x6 (fun ca => c_isKnown (c_ZZ_I hc) (fun c0 _ _ => ?_) (fun c0 _ _ => ?_))
  · exact l_rd1 hS x0 x6 (fun _ => ⟨I, hm, z_isKnown (by omega) hz (fun J us' c1 zJ => l_eq rfl (fin zJ)) (fun J us' c1 zJ => absurd c1 c0)⟩)
  · exact l_rd1 hS x0 x6 (fun _ => ⟨I, hm, z_isKnown (by omega) hz (fun J us' c1 zJ => absurd c0 c1) (fun J us' c1 zJ => l_eq rfl (fin zJ))⟩)
theorem s_message (hZ : l_Z n σ H mc mr nn K tl tp rd ms B cn cs) (hb : l_hb mc mr tl cn cs N U M) (hk : l_k n σ K nn ms B mc mr tl tp cn cs (c_cp H) k) (x0 : 0 ≤ x4) (x6 : x4 + 6 ≤ n) : 0 ≤ sw_w (x4 + 1) ∧ sw_w (x4 + 1) < (sw_ln H 1 : Int) ∧ ∀ v626, v626 = sw_iv H 1 (sw_w (x4 + 1)).toNat → sw_c v626 → wm_34 2 v626 H (fun z632 H629 => sw_c z632 → sw_ext H H629 → 0 ≤ sw_w (x4 + 1) ∧ sw_w (x4 + 1) < (sw_ln H629 1 : Int) ∧ ∀ v634, v634 = sw_iv H629 1 (sw_w (x4 + 1)).toNat → sw_c v634 → ∃ I637, sr_m H629 I637 ∧ rm_35 v634 I637 (fun z643 J638 => sw_c z643 → ∀ H639, sr_m H639 J638 → sr_fr H629 H639 → (z632 = z643 → k H639) ∧ (z632 ≠ z643 → q H639))) := by
  obtain ⟨hS, hc, ⟨I, us, hm, hz⟩, hv, h5, hK⟩ := id hZ
  have fin : ∀ {J : sr_V} {us' : Nat}, m_ZZ J mr us' nn K tl tp rd ms B → ∀ H', sr_m H' J → sr_fr H H' → k H' := fun zJ => l_n0 hZ hb hk hS hc rfl zJ (by omega) (Or.inl rfl) (Or.inl rfl)
  refine l_rd1 hS x0 x6 (fun ca => c_message (c_ZZ_I hc) (fun c0 _ _ => ?_) (fun l a1 a2 _ _ => ?_))
  · refine l_rd1 hS x0 x6 (fun _ => ⟨I, hm, z_message hz (fun J us' c1 zJ => l_eq rfl (fin zJ)) (fun l J us' b1 b2 zJ => ?_)⟩)
    have := (List.getElem?_eq_some_iff.mp b2).1
    omega
  · refine l_rd1 hS x0 x6 (fun _ => ⟨I, hm, z_message hz (fun J us' c1 zJ => ?_) (fun l' J us' b1 b2 zJ => ?_)⟩)
    · have := (List.getElem?_eq_some_iff.mp a2).1
      omega
    · have e := Option.some.inj (a2.symm.trans b2)
      subst e
      exact l_eq rfl (fin zJ)
theorem s_count (hZ : l_Z n σ H mc mr nn K tl tp rd ms B cn cs) (hb : l_hb mc mr tl cn cs N U M) (hk : l_k n σ K nn ms B mc mr tl tp cn cs (c_cp H) k) (x0 : 0 ≤ x4) (x6 : x4 + 6 ≤ n) : 0 ≤ sw_w (x4 + 1) ∧ sw_w (x4 + 1) < (sw_ln H 1 : Int) ∧ ∀ v738, v738 = sw_iv H 1 (sw_w (x4 + 1)).toNat → sw_c v738 → wm_42 2 v738 H (fun z744 H741 => sw_c z744 → sw_ext H H741 → 0 ≤ sw_w (x4 + 1) ∧ sw_w (x4 + 1) < (sw_ln H741 1 : Int) ∧ ∀ v746, v746 = sw_iv H741 1 (sw_w (x4 + 1)).toNat → sw_c v746 → ∃ I749, sr_m H741 I749 ∧ rm_43 v746 I749 (fun z755 J750 => sw_c z755 → ∀ H751, sr_m H751 J750 → sr_fr H741 H751 → (z744 = z755 → k H751) ∧ (z744 ≠ z755 → q H751))) := by
  obtain ⟨hS, hc, ⟨I, us, hm, hz⟩, hv, h5, hK⟩ := id hZ
  have fin : ∀ {J : sr_V} {us' : Nat}, m_ZZ J mr us' nn K tl tp rd ms B → ∀ H', sr_m H' J → sr_fr H H' → k H' := fun zJ => l_n0 hZ hb hk hS hc rfl zJ (by omega) (Or.inl rfl) (Or.inl rfl)
  have hl := hb.2.2.2.1
  refine l_rd1 hS x0 x6 (fun ca => c_count (c_ZZ_I hc) (fun c0 _ _ => ?_) (fun c0 _ _ => ?_) (fun c0 _ _ => ?_) (fun c0 _ _ => ?_) (fun c0 _ _ => ?_))
  · exact l_rd1 hS x0 x6 (fun _ => ⟨I, hm, z_count (by omega) hz (fun J us' c1 zJ => l_eq rfl (fin zJ)) (fun J us' c1 zJ => by omega) (fun J us' c1 zJ => by omega) (fun J us' c1 zJ => by omega) (fun J us' c1 zJ => by omega)⟩)
  · exact l_rd1 hS x0 x6 (fun _ => ⟨I, hm, z_count (by omega) hz (fun J us' c1 zJ => by omega) (fun J us' c1 zJ => l_eq rfl (fin zJ)) (fun J us' c1 zJ => by omega) (fun J us' c1 zJ => by omega) (fun J us' c1 zJ => by omega)⟩)
  · exact l_rd1 hS x0 x6 (fun _ => ⟨I, hm, z_count (by omega) hz (fun J us' c1 zJ => by omega) (fun J us' c1 zJ => by omega) (fun J us' c1 zJ => l_eq rfl (fin zJ)) (fun J us' c1 zJ => by omega) (fun J us' c1 zJ => by omega)⟩)
  · exact l_rd1 hS x0 x6 (fun _ => ⟨I, hm, z_count (by omega) hz (fun J us' c1 zJ => by omega) (fun J us' c1 zJ => by omega) (fun J us' c1 zJ => by omega) (fun J us' c1 zJ => l_eq rfl (fin zJ)) (fun J us' c1 zJ => by omega)⟩)
  · exact l_rd1 hS x0 x6 (fun _ => ⟨I, hm, z_count (by omega) hz (fun J us' c1 zJ => by omega) (fun J us' c1 zJ => by omega) (fun J us' c1 zJ => by omega) (fun J us' c1 zJ => by omega) (fun J us' c1 zJ => l_eq rfl (fin zJ))⟩)
theorem s_sign (hZ : l_Z n σ H mc mr nn K tl tp rd ms B cn cs) (hb : l_hb mc mr tl cn cs N U M) (hk : l_k n σ K nn ms B mc mr tl tp cn cs (c_cp H) k) (x0 : 0 ≤ x4) (x6 : x4 + 6 ≤ n) : 0 ≤ sw_w (x4 + 1) ∧ sw_w (x4 + 1) < (sw_ln H 1 : Int) ∧ ∀ v648, v648 = sw_iv H 1 (sw_w (x4 + 1)).toNat → sw_c v648 → 0 ≤ sw_w (x4 + 2) ∧ sw_w (x4 + 2) < (sw_ln H 1 : Int) ∧ ∀ v651, v651 = sw_iv H 1 (sw_w (x4 + 2)).toNat → sw_c v651 → wm_36 2 v648 v651 H (fun z657 H654 => sw_c z657 → sw_ext H H654 → 0 ≤ sw_w (x4 + 1) ∧ sw_w (x4 + 1) < (sw_ln H654 1 : Int) ∧ ∀ v659, v659 = sw_iv H654 1 (sw_w (x4 + 1)).toNat → sw_c v659 → 0 ≤ sw_w (x4 + 2) ∧ sw_w (x4 + 2) < (sw_ln H654 1 : Int) ∧ ∀ v662, v662 = sw_iv H654 1 (sw_w (x4 + 2)).toNat → sw_c v662 → ∃ I665, sr_m H654 I665 ∧ rm_37 v659 v662 I665 (fun z671 J666 => sw_c z671 → ∀ H667, sr_m H667 J666 → sr_fr H654 H667 → (z657 = z671 → k H667) ∧ (z657 ≠ z671 → q H667))) := by
  obtain ⟨hS, hc, ⟨I, us, hm, hz⟩, hv, h5, hK⟩ := id hZ
  have cA : c_cA [] := fun a ha => by simp at ha
  have hl := hb.2.2.2.1
  refine l_rd1 hS x0 x6 (fun ca => l_rd2 hS x0 x6 (fun cb => x_sign hc (l_hb_rn hb hc) (fun c0 _ _ => ?_) (fun l w Y a1 a2 a3 a4 zY cY _ _ => ?_)))
  · refine l_rd1 hS x0 x6 (fun _ => l_rd2 hS x0 x6 (fun _ => ⟨I, hm, z_sign hl hz (fun J us' c1 zJ => ?_) (fun l w J us' b1 b2 b3 b4 zJ => absurd ⟨b1, b2, b3, b4⟩ (c0 l w))⟩))
    exact l_eq rfl (l_n0 hZ hb hk hS hc rfl zJ (by omega) (Or.inl rfl) (Or.inl rfl))
  · have SG := l_S_ch hS hc cY cA
    refine l_rd1 SG x0 x6 (fun _ => l_rd2 SG x0 x6 (fun _ => ⟨I, l_m_ch hm hc cY cA, z_sign hl hz (fun J us' c1 zJ => absurd ⟨a1, a2, a3, a4⟩ (c1 l w)) (fun l' w' J us' b1 b2 b3 b4 zJ => ?_)⟩))
    have e := Option.some.inj (a3.symm.trans b3)
    subst e
    have e := Option.some.inj (a4.symm.trans b4)
    subst e
    exact l_eq rfl (l_n0 hZ hb hk SG zY (l_cp0 hc cY (by simp)) zJ (w_ts_len tl w) (Or.inl rfl) (Or.inl rfl))
theorem s_ofTerm (hZ : l_Z n σ H mc mr nn K tl tp rd ms B cn cs) (hb : l_hb mc mr tl cn cs N U M) (hk : l_k n σ K nn ms B mc mr tl tp cn cs (c_cp H) k) (x0 : 0 ≤ x4) (x6 : x4 + 6 ≤ n) : 0 ≤ sw_w (x4 + 1) ∧ sw_w (x4 + 1) < (sw_ln H 1 : Int) ∧ ∀ v598, v598 = sw_iv H 1 (sw_w (x4 + 1)).toNat → sw_c v598 → 0 ≤ sw_w (x4 + 2) ∧ sw_w (x4 + 2) < (sw_ln H 1 : Int) ∧ ∀ v601, v601 = sw_iv H 1 (sw_w (x4 + 2)).toNat → sw_c v601 → wm_32 2 v598 v601 H (fun z607 H604 => sw_c z607 → sw_ext H H604 → 0 ≤ sw_w (x4 + 1) ∧ sw_w (x4 + 1) < (sw_ln H604 1 : Int) ∧ ∀ v609, v609 = sw_iv H604 1 (sw_w (x4 + 1)).toNat → sw_c v609 → 0 ≤ sw_w (x4 + 2) ∧ sw_w (x4 + 2) < (sw_ln H604 1 : Int) ∧ ∀ v612, v612 = sw_iv H604 1 (sw_w (x4 + 2)).toNat → sw_c v612 → ∃ I615, sr_m H604 I615 ∧ rm_33 v609 v612 I615 (fun z621 J616 => sw_c z621 → ∀ H617, sr_m H617 J616 → sr_fr H604 H617 → (z607 = z621 → k H617) ∧ (z607 ≠ z621 → q H617))) := by
  obtain ⟨hS, hc, ⟨I, us, hm, hz⟩, hv, h5, hK⟩ := id hZ
  have cA : c_cA [] := fun a ha => by simp at ha
  have hl := hb.2.2.2.1
  refine l_rd1 hS x0 x6 (fun ca => l_rd2 hS x0 x6 (fun cb => x_ofTerm hc (l_hb_rn hb hc) (fun c0 _ _ => ?_) (fun w u Y a1 a2 a3 zY cY _ _ => ?_)))
  · refine l_rd1 hS x0 x6 (fun _ => l_rd2 hS x0 x6 (fun _ => ⟨I, hm, z_ofTerm hl hz (fun J us' c1 zJ => ?_) (fun w u J us' b1 b2 b3 zJ => absurd ⟨b2, b3⟩ (c0 w u b1))⟩))
    exact l_eq rfl (l_n0 hZ hb hk hS hc rfl zJ (by omega) (Or.inl rfl) (Or.inl rfl))
  · have SG := l_S_ch hS hc cY cA
    refine l_rd1 SG x0 x6 (fun _ => l_rd2 SG x0 x6 (fun _ => ⟨I, l_m_ch hm hc cY cA, z_ofTerm hl hz (fun J us' c1 zJ => absurd ⟨a2, a3⟩ (c1 w u a1)) (fun w' u' J us' b1 b2 b3 zJ => ?_)⟩))
    have e := Option.some.inj (a1.symm.trans b1)
    subst e
    have e := Option.some.inj (a3.symm.trans b3)
    subst e
    exact l_eq rfl (l_n0 hZ hb hk SG zY (l_cp0 hc cY (by simp)) zJ (w_ts_len tl u) (Or.inl rfl) (Or.inl rfl))
theorem s_term (hZ : l_Z n σ H mc mr nn K tl tp rd ms B cn cs) (hb : l_hb mc mr tl cn cs N U M) (hk : l_k n σ K nn ms B mc mr tl tp cn cs (c_cp H) k) (x0 : 0 ≤ x4) (x6 : x4 + 6 ≤ n) : 0 ≤ sw_w (x4 + 1) ∧ sw_w (x4 + 1) < (sw_ln H 1 : Int) ∧ ∀ v570, v570 = sw_iv H 1 (sw_w (x4 + 1)).toNat → sw_c v570 → 0 ≤ sw_w (x4 + 2) ∧ sw_w (x4 + 2) < (sw_ln H 1 : Int) ∧ ∀ v573, v573 = sw_iv H 1 (sw_w (x4 + 2)).toNat → sw_c v573 → wm_30 2 v570 v573 H (fun z579 H576 => sw_c z579 → sw_ext H H576 → 0 ≤ sw_w (x4 + 1) ∧ sw_w (x4 + 1) < (sw_ln H576 1 : Int) ∧ ∀ v581, v581 = sw_iv H576 1 (sw_w (x4 + 1)).toNat → sw_c v581 → 0 ≤ sw_w (x4 + 2) ∧ sw_w (x4 + 2) < (sw_ln H576 1 : Int) ∧ ∀ v584, v584 = sw_iv H576 1 (sw_w (x4 + 2)).toNat → sw_c v584 → ∃ I587, sr_m H576 I587 ∧ rm_31 v581 v584 I587 (fun z593 J588 => sw_c z593 → ∀ H589, sr_m H589 J588 → sr_fr H576 H589 → (z579 = z593 → k H589) ∧ (z579 ≠ z593 → q H589))) := by
  obtain ⟨hS, hc, ⟨I, us, hm, hz⟩, hv, h5, hK⟩ := id hZ
  have cA : c_cA [] := fun a ha => by simp at ha
  have hl := hb.2.2.2.1
  have un : ∀ {w w' : Wt}, w_no tl (σ (x4.toNat + 1)) = some w → w_no tl (σ (x4.toNat + 1)) = some w' → w = w' := fun a b => Option.some.inj (a.symm.trans b)
  have fin : ∀ {J : sr_V} {us' : Nat}, m_ZZ J mr us' nn K tl tp rd ms B → ∀ H', sr_m H' J → sr_fr H H' → k H' := fun zJ => l_n0 hZ hb hk hS hc rfl zJ (by omega) (Or.inl rfl) (Or.inl rfl)
  have fin2 : ∀ {Y : sw_H} {J : sr_V} {us' : Nat} {u : Wt}, c_ZZ Y mc nn K (w_tp tl u).2 cn cs tp rd ms B → c_ch [] H Y → m_ZZ J mr us' nn K (w_tp tl u).2 tp rd ms B → ∀ H', sr_m H' J → sr_fr Y H' → k H' := fun zY cY zJ => l_n0 hZ hb hk (l_S_ch hS hc cY cA) zY (l_cp0 hc cY (by simp)) zJ (w_tp_len tl _) (Or.inl rfl) (Or.inl rfl)
  refine l_rd1 hS x0 x6 (fun ca => l_rd2 hS x0 x6 (fun cb => x_term hc (l_hb_rn hb hc) (fun c0 _ _ => ?_) (fun w a1 a2 _ _ => ?_) (fun w Y a1 a2 zY cY _ _ => ?_) (fun w a1 a2 a3 _ _ => ?_) (fun w Y a1 a2 a3 zY cY _ _ => ?_) (fun w Y a1 a2 zY cY _ _ => ?_) (fun w a1 a2 _ _ => ?_)))
  · exact l_rd1 hS x0 x6 (fun _ => l_rd2 hS x0 x6 (fun _ => ⟨I, hm, z_term hl hz (fun J us' c1 zJ => l_eq rfl (fin zJ)) (fun w' J us' b1 b2 zJ => by rcases c0 with c0 | c0 | c0 <;> first | omega | (rw [c0] at b1; cases b1)) (fun w' J us' b1 b2 zJ => by rcases c0 with c0 | c0 | c0 <;> first | omega | (rw [c0] at b1; cases b1)) (fun w' J us' b1 b2 b3 zJ => by rcases c0 with c0 | c0 | c0 <;> first | omega | (rw [c0] at b1; cases b1)) (fun w' J us' b1 b2 b3 zJ => by rcases c0 with c0 | c0 | c0 <;> first | omega | (rw [c0] at b1; cases b1)) (fun w' J us' b1 b2 zJ => by rcases c0 with c0 | c0 | c0 <;> first | omega | (rw [c0] at b1; cases b1)) (fun w' J us' b1 b2 zJ => by rcases c0 with c0 | c0 | c0 <;> first | omega | (rw [c0] at b1; cases b1))⟩))
  · exact l_rd1 hS x0 x6 (fun _ => l_rd2 hS x0 x6 (fun _ => ⟨I, hm, z_term hl hz (fun J us' c1 zJ => by rcases c1 with c1 | c1 | c1 <;> first | omega | (rw [c1] at a1; cases a1)) (fun w' J us' b1 b2 zJ => by have e := un a1 b1; subst e; exact l_eq rfl (fin zJ)) (fun w' J us' b1 b2 zJ => by omega) (fun w' J us' b1 b2 b3 zJ => by omega) (fun w' J us' b1 b2 b3 zJ => by omega) (fun w' J us' b1 b2 zJ => by omega) (fun w' J us' b1 b2 zJ => by omega)⟩))
  · exact l_rd1 (l_S_ch hS hc cY cA) x0 x6 (fun _ => l_rd2 (l_S_ch hS hc cY cA) x0 x6 (fun _ => ⟨I, (l_m_ch hm hc cY cA), z_term hl hz (fun J us' c1 zJ => by rcases c1 with c1 | c1 | c1 <;> first | omega | (rw [c1] at a1; cases a1)) (fun w' J us' b1 b2 zJ => by omega) (fun w' J us' b1 b2 zJ => by have e := un a1 b1; subst e; exact l_eq rfl (fin2 zY cY zJ)) (fun w' J us' b1 b2 b3 zJ => by omega) (fun w' J us' b1 b2 b3 zJ => by omega) (fun w' J us' b1 b2 zJ => by omega) (fun w' J us' b1 b2 zJ => by omega)⟩))
  · exact l_rd1 hS x0 x6 (fun _ => l_rd2 hS x0 x6 (fun _ => ⟨I, hm, z_term hl hz (fun J us' c1 zJ => by rcases c1 with c1 | c1 | c1 <;> first | omega | (rw [c1] at a1; cases a1)) (fun w' J us' b1 b2 zJ => by omega) (fun w' J us' b1 b2 zJ => by omega) (fun w' J us' b1 b2 b3 zJ => by have e := un a1 b1; subst e; exact l_eq rfl (fin zJ)) (fun w' J us' b1 b2 b3 zJ => by have e := un a1 b1; subst e; omega) (fun w' J us' b1 b2 zJ => by omega) (fun w' J us' b1 b2 zJ => by omega)⟩))
  · exact l_rd1 (l_S_ch hS hc cY cA) x0 x6 (fun _ => l_rd2 (l_S_ch hS hc cY cA) x0 x6 (fun _ => ⟨I, (l_m_ch hm hc cY cA), z_term hl hz (fun J us' c1 zJ => by rcases c1 with c1 | c1 | c1 <;> first | omega | (rw [c1] at a1; cases a1)) (fun w' J us' b1 b2 zJ => by omega) (fun w' J us' b1 b2 zJ => by omega) (fun w' J us' b1 b2 b3 zJ => by have e := un a1 b1; subst e; omega) (fun w' J us' b1 b2 b3 zJ => by have e := un a1 b1; subst e; exact l_eq rfl (fin2 zY cY zJ)) (fun w' J us' b1 b2 zJ => by omega) (fun w' J us' b1 b2 zJ => by omega)⟩))
  · exact l_rd1 (l_S_ch hS hc cY cA) x0 x6 (fun _ => l_rd2 (l_S_ch hS hc cY cA) x0 x6 (fun _ => ⟨I, (l_m_ch hm hc cY cA), z_term hl hz (fun J us' c1 zJ => by rcases c1 with c1 | c1 | c1 <;> first | omega | (rw [c1] at a1; cases a1)) (fun w' J us' b1 b2 zJ => by omega) (fun w' J us' b1 b2 zJ => by omega) (fun w' J us' b1 b2 b3 zJ => by omega) (fun w' J us' b1 b2 b3 zJ => by omega) (fun w' J us' b1 b2 zJ => by have e := un a1 b1; subst e; exact l_eq rfl (fin2 zY cY zJ)) (fun w' J us' b1 b2 zJ => by omega)⟩))
  · exact l_rd1 hS x0 x6 (fun _ => l_rd2 hS x0 x6 (fun _ => ⟨I, hm, z_term hl hz (fun J us' c1 zJ => by rcases c1 with c1 | c1 | c1 <;> first | omega | (rw [c1] at a1; cases a1)) (fun w' J us' b1 b2 zJ => by omega) (fun w' J us' b1 b2 zJ => by omega) (fun w' J us' b1 b2 b3 zJ => by omega) (fun w' J us' b1 b2 b3 zJ => by omega) (fun w' J us' b1 b2 zJ => by omega) (fun w' J us' b1 b2 zJ => by have e := un a1 b1; subst e; exact l_eq rfl (fin zJ))⟩))
end
end
