/-! ===== the class: sealedFor, as it is called; secrets behind an index ===== -/
noncomputable section
variable {H Z X : sw_H} {nn r ra g l k i : Nat} {K : Wt → Prop} {tl mk lm : List Wt} {cn cs msk : Int} {P : Int → sw_H → Prop} {T T0 : w_T} {hs : List Nat} {hv : Nat → Wt} {s0 : Nat} {ts : List Wt} {p : Wt} {kf : Nat → Wt}
theorem c_sealedFor (hV : c_V H mk nn K tl cn cs) (hTa : c_Ta H) (h18 : sw_ty H 18 = 72) (hPa : c_Pa H) (hRe : c_Re H) (gs : c_gs H g) (ht : c_tr H mk (g + 1) T) (hk : c_pk2 H T0 msk l hs) (hi : hs[i]? = some k) (i4 : i < 4) (h576 : (w_sq T0 msk l hs).length ≤ 576) (hn : sw_iv H 20 i = (s0 : Nat)) (hsg : c_sg H (w_d mk) r ra lm) (hlm : lm.length ≤ 1400) (hlen : (w_rq T0 msk l k).length = ts.length) (hts : ∀ (j : Nat) (w : Wt), ts[j]? = some w → w = (lm[s0 + j]?).getD [] ∧ w.head? = some 6 ∧ s0 + j < lm.length) (hy : ∀ y ∈ w_rq T0 msk l k, y < t_w T ∧ t_ky T y ≠ []) (hh : ∀ x, x < t_w T → w_az mk (sw_iv H (g + 22) x) (hv x)) (q : ∀ z, w_az mk z (d_fs T hv (w_rq T0 msk l k) ts) → P z H) : wm_368 94 g r i H P := by
  obtain ⟨t94, r0, r1, r2, r3, r4, _⟩ := id hTa
  obtain ⟨p0, p1, p7, p8, p9, ⟨p91a, p91b⟩, _⟩ := id hPa
  have il : i < hs.length := (List.getElem?_eq_some_iff.mp hi).1
  unfold wm_368
  rw [r4]
  refine ⟨p0, ?_⟩
  intro q69 e69
  rw [e69, p7]
  refine ⟨p91a, ?_⟩
  intro q72 e72
  rw [e72]
  refine ⟨by omega, by rw [p91b]; omega, ?_⟩
  intro v75 e75 _
  rw [Int.toNat_natCast, hk.2.2.1 i (by omega)] at e75
  rw [e75]
  exact ⟨ts.length + 1, c_sf_8 hV hTa h18 hPa hRe gs ht hk hi i4 h576 hn hsg hlm hlen hts hy hh q _ 0 (by omega) (by omega) rfl⟩
/-- a key that is the PUBLIC of a secret: its first part is that secret -/
theorem d_p5_eq {a b : Wt} (h : w_i5 b) : w_p5 a = b ↔ ∃ c, b = w_p5 c ∧ c = a := by
  obtain ⟨c, rfl⟩ := h
  exact ⟨fun e => ⟨c, rfl, (w_p5_inj e).symm⟩, fun ⟨c', e, e2⟩ => by rw [← e2]; exact e.symm⟩
/-- between two heights that count the secret is derived once -/
theorem d_ls_nx {d j k0 : Nat} (hk : k0 ≤ k) (hi : (t_wl T l d)[i]? = some k) (hj : (t_wl T l d)[i + 1]? = some j) : d_ls T l p k0 j = w_dr (d_ls T l p k0 k) 4 := by
  obtain ⟨a1, a2, a3, a4⟩ := t_wl_at hi
  obtain ⟨b1, b2, b3, b4⟩ := t_wl_at hj
  have kj : k < j := by
    rcases Nat.lt_or_ge k j with g | g
    · exact g
    · exfalso
      have il : i + 1 < (t_wl T l d).length := (List.getElem?_eq_some_iff.mp hj).1
      obtain ⟨e, he⟩ := t_wl_pre (T := T) (l := l) (n := j) (m := k) g
      have l1 : (t_wl T l j).length = i + 1 := by rw [b3, List.length_take]; omega
      have l2 : (t_wl T l k).length = i := by rw [a3, List.length_take]; omega
      rw [he, List.length_append] at l2
      omega
  have same : t_wl T l (k + 1) = t_wl T l j := by rw [a4, b3]
  rw [d_ls_sk (a := k + 1) (b := j) (by omega) (fun m h1 h2 => ?_), d_ls_1 hk a2]
  refine Decidable.byContradiction (fun c => ?_)
  have : m ∈ t_wl T l j := (t_wl_m j).mpr ⟨h2, c⟩
  rw [← same] at this
  have := ((t_wl_m (k + 1)).mp this).1
  omega
/-- behind the last that counts nothing more is derived -/
theorem d_ls_la {d k0 : Nat} (hk : k0 ≤ k) (hi : (t_wl T l d)[i]? = some k) (hl : (t_wl T l d).length = i + 1) : d_ls T l p k0 d = w_dr (d_ls T l p k0 k) 4 := by
  obtain ⟨a1, a2, a3, a4⟩ := t_wl_at hi
  have same : t_wl T l (k + 1) = t_wl T l d := by rw [a4, ← hl, List.take_length]
  rw [d_ls_sk (a := k + 1) (b := d) (by omega) (fun m h1 h2 => ?_), d_ls_1 hk a2]
  refine Decidable.byContradiction (fun c => ?_)
  have : m ∈ t_wl T l d := (t_wl_m d).mpr ⟨h2, c⟩
  rw [← same] at this
  have := ((t_wl_m (k + 1)).mp this).1
  omega
end
