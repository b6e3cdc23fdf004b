/-! ===== the class: signatures that are right ===== -/
noncomputable section
variable {H Z X Y : sw_H} {nn nm r ra g m : Nat} {K K' S : Wt → Prop} {tl mk mm l L : List Wt} {a b c x y n mo so cn cs N U M : Int} {Q : sw_H → Prop} {P : Int → sw_H → Prop} {A B : List Nat} {w wk ky sk ph sg : Wt}
/-- Terms, as its small methods want it -/
theorem c_V_sh (hV : c_V H mk nn K tl cn cs) : c_sh H := c_A_sh hV.1.1
theorem c_L_rw (hL : c_L H mk nn K tl) (ht : w_at mk x w) : 1 ≤ x ∧ x ≤ c_n H ∧ c_rw H (w_d mk) nn x.toNat ∧ w_d mk x.toNat = w := by
  obtain ⟨a, b⟩ := w_at_le ht
  have e : (x.toNat : Int) = x := by omega
  have n := hL.2.1
  exact ⟨a, by omega, hL.1.1.2.2.2.2.2.2.2.2.2.1 x.toNat ⟨by omega, by omega⟩, w_at_d ht⟩
theorem c_part_iff {st : Nat} {k0 : Int} {ls : List Int} {L : List Wt} (hst : st = 2 ∨ st = 7) (hL : c_L H mk nn K tl) (ht : w_at mk x w) (hk : w_at mk k0 wk) (hv : ∀ x ∈ ls, m_vs (c_n H) x) (hs : ls.map (w_sg (w_d mk)) = L) : w = w_t st wk [] [] L ↔ (c_d H x.toNat 0 = st ∧ c_d H x.toNat 1 = k0 ∧ c_sn H x.toNat = ls) := by
  obtain ⟨t1, t2, rw', eg⟩ := c_L_rw hL ht
  obtain ⟨va, f0, f1, f2, hsn, hd, hn⟩ := rw'
  have T := hL.1.1
  have gok : g_ok (c_n H) (w_d mk) := c_g T
  have e4 := hL.2.1
  have sn : ∀ x' ∈ c_sn H x.toNat, m_vs (c_n H) x' := fun x' hx => m_vs_up (by omega) (hsn x' hx)
  have kle := w_at_le hk
  have kd := w_at_d hk
  have dk : w_dz (w_d mk) k0 = wk := by unfold w_dz; rw [if_neg (by omega)]; exact kd
  have va2 : 0 ≤ c_d H x.toNat 0 ∧ c_d H x.toNat 0 ≤ 7 ∧ 0 ≤ c_d H x.toNat 1 ∧ c_d H x.toNat 1 ≤ c_n H ∧ (c_d H x.toNat 0 = 2 ∨ c_d H x.toNat 0 = 5 ∨ c_d H x.toNat 0 = 7 → 1 ≤ c_d H x.toNat 1 ∧ c_d H x.toNat 2 = 0 ∧ c_d H x.toNat 3 = 0) := by
    obtain ⟨v0, v1, v2, v3, v4, v5, v6, v7, v8, v9, v10, _⟩ := va
    exact ⟨v0, v1, v2, by omega, v10⟩
  clear va
  obtain ⟨v0, v1, v2, v3, v10⟩ := va2
  have form : c_d H x.toNat 0 = st → w = w_t st (w_dz (w_d mk) (c_d H x.toNat 1)) [] [] ((c_sn H x.toNat).map (w_sg (w_d mk))) := by
    clear hn
    intro c
    obtain ⟨w1, w2, w3⟩ := v10 (by omega)
    rw [← eg, (hd (by omega)).1, c, w2, w3]
    unfold w_tm w_t
    have c3 : ¬ ((st : Int) = 3) := by omega
    rw [if_neg c3, Int.toNat_natCast]
    rfl
  constructor
  · intro h
    have c : c_d H x.toNat 0 = st := by
      by_cases c8 : c_d H x.toNat 0 = 0
      · have hc8 := hn c8; clear hn
        rcases hc8 with ⟨_, hi⟩ | ⟨_, i, _, hi⟩
        · rw [eg, h] at hi
          have := (w_mk_inj hi).1
          omega
        · rw [eg, h] at hi
          have := (w_mk_inj hi).1
          omega
      · have hd := (hd c8).1
        rw [eg, h] at hd
        have := (w_mk_inj hd).1
        omega
    have fm := form c
    rw [h] at fm
    obtain ⟨_, fm⟩ := w_mk_inj fm
    simp only [List.cons.injEq, true_and] at fm
    obtain ⟨f1, f2⟩ := fm
    refine ⟨c, ?_, ?_⟩
    · exact (g_dz_inj gok (by omega) (by omega) v2 v3 (by rw [dk]; exact f1)).symm
    · refine (g_sgs_inj gok _ _ hv sn ?_).symm
      rw [hs]; exact f2
  · rintro ⟨c, c1, c2⟩
    rw [form c, c1, dk, c2, hs]
/-- hasSigns, of what a row of signs has -/
theorem c_hasS {P : Int → sw_H → Prop} {ls : List Int} (hL : c_L H mk nn K tl) (ht : w_at mk x w) (hr : c_row H r ra ls) (q1 : c_sn H x.toNat = ls → P 1 H) (q0 : c_sn H x.toNat ≠ ls → P 0 H) : wm_255 3 x r H P := by
  obtain ⟨t1, t2, rw', eg⟩ := c_L_rw hL ht
  have f0 := rw'.2.1
  have f1 := rw'.2.2.1
  have f2 := rw'.2.2.2.1
  have T := hL.1.1
  have d1 : 14 * (c_n H + 1) ≤ sw_ln H (sw_rv H 3 1) := T.2.2.2.1
  have d2 : sw_iv H 3 4 ≤ sw_ln H (sw_rv H 3 3) := T.2.2.2.2.2.1
  obtain ⟨t, et⟩ : ∃ t : Nat, x = t := ⟨x.toNat, by omega⟩
  subst et
  rw [Int.toNat_natCast] at f0 f1 f2 q1 q0
  exact c_hasSigns T.1 hr (by omega) f0 f1 (by omega) q1 q0
theorem c_rr_row (h : c_rr H mk r ra l) : ∃ ls, c_row H r ra ls ∧ (∀ x ∈ ls, m_vs (c_n H) x) ∧ ls.map (w_sg (w_d mk)) = l := h.1
theorem c_isRowSigned {p : Nat} (hW : c_W H mk nn K tl cn cs) (hr : c_rr H mk 14 15 L) (hx : w_at mk x sg) (h0 : sw_iv H p 0 = mo) (h2 : w_at mk (sw_iv H p 2) sk) (q1 : w_sok mo sk sg L → P 1 H) (q0 : ¬ w_sok mo sk sg L → P 0 H) : wm_364 11 p x H P := by
  obtain ⟨hV, hC, _⟩ := hW
  obtain ⟨k0, k1, k2, k3, k4, k5, k6, t12, t13, l15, t16, t17, me⟩ := hC
  obtain ⟨ls, hrow, hv, hm⟩ := c_rr_row hr
  have nd := c_L_nd hV.1
  have sh := c_V_sh hV
  obtain ⟨t1, t2, _, eg⟩ := c_L_rw hV.1 hx
  unfold wm_364
  intro v1 e1 _
  rw [h0] at e1
  refine ⟨fun c => q0 (fun h => by have := h.1; omega), fun c => ?_⟩
  intro v4 e4 _
  rw [h0] at e4
  refine ⟨fun c1 => q0 (fun h => by have := h.2.1; omega), fun c1 => ?_⟩
  obtain ⟨k, ek⟩ : ∃ k : Nat, mo = k := ⟨mo.toNat, by omega⟩
  subst ek
  have k24 : k < 24 := by omega
  obtain ⟨me1, me2⟩ := me k k24
  intro v7 e7 _
  rw [k3]
  refine ⟨t13.1, ?_⟩
  intro q10 e10 v13 e13 _
  rw [h0] at e13
  rw [e10, e13]
  refine ⟨by omega, by rw [t13.2]; omega, ?_⟩
  intro v16 e16 _
  rw [Int.toNat_natCast] at e16
  have pk : sw_iv H p 2 = sw_iv H 13 k ↔ sk = w_pub k := ⟨fun h => by
      rw [h] at h2
      have h1 := w_at_d h2
      rw [w_at_d me2] at h1
      exact h1.symm, fun h => by rw [h] at h2; exact w_at_inj nd h2 me2⟩
  refine ⟨fun c2 => q0 (fun h => c2 (by rw [e7, e16]; exact pk.mpr (by have := h.2.2.1; rw [Int.toNat_natCast] at this; exact this))), fun c2 => ?_⟩
  have pk' := pk.mp (by rw [← e7, ← e16]; exact c2)
  have iff7 := c_part_iff (st := 7) (Or.inr rfl) hV.1 hx me1 hv hm
  have no7 : ¬ (c_d H x.toNat 0 = 7 ∧ c_d H x.toNat 1 = sw_iv H 12 k ∧ c_sn H x.toNat = ls) → P 0 H := fun h => q0 (fun g => h (iff7.mp (by have := g.2.2.2; rw [Int.toNat_natCast] at this; exact this)))
  have exT : (x.toNat : Int) = x := by omega
  rw [k1]
  refine ⟨hV.1.1.1.1.1, ?_⟩
  intro q19 e19
  rw [e19]
  rw [← exT]
  refine c_sortOf sh (by omega) ?_
  intro _ _
  refine ⟨fun c3 => no7 (fun h => c3 h.1), fun c3 => ?_⟩
  rw [k1]
  refine ⟨hV.1.1.1.1.1, ?_⟩
  intro q27 e27
  rw [e27]
  refine c_firstOf sh (by omega) ?_
  intro _ _
  rw [k2]
  refine ⟨t12.1, ?_⟩
  intro q35 e35 v38 e38 _
  rw [h0] at e38
  rw [e35, e38]
  refine ⟨by omega, by rw [t12.2]; omega, ?_⟩
  intro v41 e41 _
  rw [Int.toNat_natCast] at e41
  refine ⟨fun c4 => no7 (fun h => c4 (by rw [e41]; exact h.2.1)), fun c4 => ?_⟩
  rw [k1]
  refine ⟨hV.1.1.1.1.1, ?_⟩
  intro q44 e44
  rw [k4]
  refine ⟨hrow.1, ?_⟩
  intro q47 e47
  rw [e44, e47]
  refine c_hasS hV.1 (w := sg) (by rw [exT]; exact hx) hrow (fun h => ?_) (fun h => ?_)
  · intro _ _
    refine ⟨fun c => absurd c (by decide), fun _ => q1 ⟨by omega, by omega, by rw [Int.toNat_natCast]; exact pk', ?_⟩⟩
    rw [Int.toNat_natCast]
    rw [Int.toNat_natCast] at h
    exact iff7.mpr ⟨c3, by rw [← e41]; exact c4, h⟩
  · intro _ _
    rw [Int.toNat_natCast] at h
    exact ⟨fun _ => no7 (fun g => h g.2.2), fun c => absurd rfl c⟩
end
