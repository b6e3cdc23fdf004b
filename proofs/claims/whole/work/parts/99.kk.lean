/-! ===== the law's loop, by what is asked of the room ===== -/
noncomputable section
section
variable {H : sw_H} {n nn : Nat} {σ : Nat → Int} {K : Wt → Prop} {tl tp mk mc mr : List Wt} {rd : Nat → Int} {ms : List (List Wt)} {cn cs cn' cs' N U M : Int} {B : Nat → v_M} {Q : Int → sw_H → Prop}
theorem c_ZZ_cc (h : c_ZZ H mk nn K tl cn cs tp rd ms B) (h1 : cn ≤ cn') (h2 : cs ≤ cs') : c_ZZ H mk nn K tl cn' cs' tp rd ms B := by
  obtain ⟨⟨⟨⟨a1, a2, a3, a4⟩, a5⟩, b⟩, c⟩ := h
  refine ⟨⟨⟨⟨a1, a2, ?_, a4⟩, a5⟩, b⟩, c⟩
  refine ⟨?_, a3.2⟩
  have a3 := a3.1
  unfold c_qr at a3 ⊢
  omega
theorem l_Z_cc (h : l_Z n σ H mc mr nn K tl tp rd ms B cn cs) (h1 : cn ≤ cn') (h2 : cs ≤ cs') : l_Z n σ H mc mr nn K tl tp rd ms B cn' cs' := ⟨h.1, c_ZZ_cc h.2.1 h1 h2, h.2.2⟩
theorem l_loop {Inv : Nat → List Wt → List Wt → List Wt → List Wt → List (List Wt) → (Wt → Prop) → Nat → (Nat → v_M) → Int → Int → Int → Prop} (hI1 : ∀ t mc mr tl tp ms K nn B cn cs cp, t ≤ 512 → Inv t mc mr tl tp ms K nn B cn cs cp → l_hb mc mr tl cn cs N U M) (hI2 : ∀ (H : sw_H) (rd : Nat → Int) t mc mr tl tp ms K nn B cn cs, t < 512 → l_Z n σ H mc mr nn K tl tp rd ms B cn cs → Inv t mc mr tl tp ms K nn B cn cs (c_cp H) → l_hc K nn ms B mc mr tl tp N U M) (hI3 : ∀ (H : sw_H) (rd : Nat → Int) t mc mr tl tp tp' ms K nn B cn cs mc' mr' tl' ms' K' nn' B' cn' cs' cp', t < 512 → l_Z n σ H mc mr nn K tl tp rd ms B cn cs → Inv t mc mr tl tp ms K nn B cn cs (c_cp H) → ms'.length ≤ 300 → (0 ≤ cp' ∧ cp' ≤ 24000) → mc'.Nodup → mr'.Nodup → l_gr K nn ms B mc mr tl tp cn cs (c_cp H) mc' mr' tl' ms' cn' cs' cp' → ∃ cn2 cs2, cn' ≤ cn2 ∧ cs' ≤ cs2 ∧ Inv (t + 1) mc' mr' tl' tp' ms' K' nn' B' cn2 cs2 cp') (hQ : ∀ H, sw_n H ≤ sxlim.1 → sw_s H ≤ sxlim.2 → Q 1 H) : ∀ (r t : Nat) {H : sw_H} {mc mr tl tp : List Wt} {ms : List (List Wt)} {K : Wt → Prop} {nn : Nat} {B : Nat → v_M} {cn cs : Int} {rd : Nat → Int}, n < 6 * t + 6 * r + 6 → 6 * t ≤ n + 5 → n ≤ 3072 → l_Z n σ H mc mr nn K tl tp rd ms B cn cs → Inv t mc mr tl tp ms K nn B cn cs (c_cp H) → wl_0_13 Q (r + 1) 2 1491 ((6 * t : Nat) : Int) H
  | r, t, H, mc, mr, tl, tp, ms, K, nn, B, cn, cs, rd, hr, ht, hn, hZ, hI => by
    have hS := hZ.1
    have hb := hI1 t _ _ _ _ _ _ _ _ _ _ _ (by omega) hI
    have rm := l_hb_rm hb hZ.2.1
    show ∀ v52 : Int, v52 = sw_ln H 1 → sw_c v52 → v52 ≤ 3072 → _
    intro v52 e52 _ _
    rw [hS.1] at e52
    subst e52
    rw [sw_w_s (show -2147483648 ≤ (n : Int) - 6 by omega) (show (n : Int) - 6 ≤ 2147483647 by omega)]
    refine ⟨fun _ => hQ H (by omega) (by omega), fun hx => ?_⟩
    obtain ⟨r', er⟩ : ∃ r', r = r' + 1 := ⟨r - 1, by omega⟩
    subst er
    have x0 : (0 : Int) ≤ ((6 * t : Nat) : Int) := by omega
    have x6 : ((6 * t : Nat) : Int) + 6 ≤ n := by omega
    have tlt : t < 512 := by omega
    have hq := hI2 H rd t _ _ _ _ _ _ _ _ _ _ tlt hZ hI
    have nxt : ∀ {H' : sw_H} {mc' mr' tl' tp' : List Wt} {ms' : List (List Wt)} {K' : Wt → Prop} {nn' : Nat} {B' : Nat → v_M} {cn' cs' : Int} {rd' : Nat → Int}, l_Z n σ H' mc' mr' nn' K' tl' tp' rd' ms' B' cn' cs' → l_gr K nn ms B mc mr tl tp cn cs (c_cp H) mc' mr' tl' ms' cn' cs' (c_cp H') → wb_0_690 Q (wl_0_13 Q (r' + 1)) 2 1491 ((6 * t : Nat) : Int) H' := fun {H' mc' mr' tl' tp' ms' K' nn' B' cn' cs' rd'} hZ' hg => by
      obtain ⟨I', us', hm', hz'⟩ := hZ'.2.2.1
      obtain ⟨cn2, cs2, c1, c2, hI'⟩ := hI3 H rd t mc mr tl tp tp' ms K nn B cn cs mc' mr' tl' ms' K' nn' B' cn' cs' (c_cp H') tlt hZ hI hz'.1.2.2.1.2.1 (c_cp_b hZ'.2.1) (c_L_nd hZ'.2.1.1.1.1.1) (m_L_nd hz'.1.1) hg
      intro y1 e1
      rw [e1, sw_w_s (by omega) (by omega), show ((6 * t : Nat) : Int) + 6 = ((6 * (t + 1) : Nat) : Int) by omega]
      exact l_loop hI1 hI2 hI3 hQ r' (t + 1) (by omega) (by omega) hn (l_Z_cc hZ' c1 c2) hI'
    have hk : l_k n σ K nn ms B mc mr tl tp cn cs (c_cp H) (fun H' => wb_0_690 Q (wl_0_13 Q (r' + 1)) 2 1491 ((6 * t : Nat) : Int) H') := fun H' mc' mr' nn' K' tl' tp' rd' ms' B' cn' cs' hZ' hg => nxt hZ' hg
    have hI0 : l_gr K nn ms B mc mr tl tp cn cs (c_cp H) mc mr tl ms cn cs (c_cp H) := ⟨by omega, by omega, by omega, fun _ => False, Or.inl ⟨fun _ c => c, Or.inl rfl⟩, w_mo_refl, w_mo_refl⟩
    refine ⟨x0, by rw [hS.1]; omega, fun v55 e55 _ => ⟨fun _ => nxt hZ hI0, fun _ => ?_, fun _ => ?_, fun _ => ?_, fun _ => ?_, fun _ => ?_, fun _ => ?_, fun _ => ?_, fun _ => ?_, fun _ => ?_, fun _ => ?_, fun _ => ?_, fun _ => ?_, fun _ => ?_, fun _ => ?_, fun _ => ?_, fun _ => ?_, fun _ => ?_, fun _ => ?_, fun _ => ?_, fun _ => ?_⟩⟩
    · exact s_feed hZ hb hk x0 x6
    · exact s_end hZ hb hk x0 x6
    · exact s_place hZ hb hk x0 x6
    · exact s_copy hZ hb hk x0 x6
    · exact s_create hZ hb hq hk x0 x6
    · exact s_offer hZ hb hq hk x0 x6
    · exact s_propose hZ hb hq hk x0 x6
    · exact s_commit hZ hb hq hk x0 x6
    · exact s_deliver hZ hb hq hk x0 x6
    · exact s_post hZ hb hk x0 x6
    · exact s_make hZ hb hk x0 x6
    · exact s_compromise hZ hb hk x0 x6
    · exact s_isKnown hZ hb hk x0 x6
    · exact s_term hZ hb hk x0 x6
    · exact s_ofTerm hZ hb hk x0 x6
    · exact s_message hZ hb hk x0 x6
    · exact s_sign hZ hb hk x0 x6
    · exact s_member hZ hb hk x0 x6
    · exact s_node hZ hb hk x0 x6
    · exact s_count hZ hb hk x0 x6
  termination_by r => r
end
end
