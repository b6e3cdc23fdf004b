/-! ===== the class: isTakenIn ===== -/
noncomputable section
variable {H G Z X : sw_H} {mk mm tl l : List Wt} {ms : List (List Wt)} {nn r ra k o h x y i e mi g : Nat} {K : Wt → Prop} {cn cs : Int} {T T' : w_T} {f : p_L} {Q : sw_H → Prop} {P : Int → sw_H → Prop} {A B : List Nat} {b z src pl : Int} {s : Nat × Nat} {L : List w_Ch} {v : p_C} {hs : Wt}
/-- while one is looked at -/
def c_lq (H Z : sw_H) (n : Nat) : Prop := c_fr [14, 15, 49, 53 + n] H Z ∧ ∀ j, j ≠ n → sw_iv Z 49 j = sw_iv H 49 j
theorem c_lq_refl : c_lq H H k := ⟨c_fr_refl _ _, fun _ _ => rfl⟩
theorem c_lq_t (a : c_lq H Z k) (b : c_lq Z X k) : c_lq H X k := ⟨c_fr_t a.1 b.1, fun j hj => (b.2 j hj).trans (a.2 j hj)⟩
theorem c_lq_w (f : c_fr [14, 15] H Z) : c_lq H Z k := ⟨c_fr_sub f (by simp), fun j _ => by rw [f.2.2.2.2.2 49 (by simp)]⟩
theorem c_lq_o (f : c_fr [53 + k] H Z) : c_lq H Z k := ⟨c_fr_sub f (by simp), fun j _ => by rw [f.2.2.2.2.2 49 (by simp; omega)]⟩
theorem c_lq_9 : c_lq H (sw_si H 49 k z) k := ⟨c_fr_sub (c_fr_si _ _ _ _) (by simp), fun j hj => c_si_f hj⟩
theorem c_lq_fa (hk : k < 32) (f : c_lq H Z k) : c_fa c_Ac H Z := c_fa_sub (c_fa_fr f.1) (fun a ha => by rw [c_Ac_m]; simp at ha; omega)
theorem c_lq_iv (f : c_lq H Z k) {a : Nat} (h : a ≠ 14 ∧ a ≠ 15 ∧ a ≠ 49 ∧ a ≠ 53 + k) : sw_iv Z a = sw_iv H a := f.1.2.2.2.2.2 a (by simp; omega)
theorem c_ci_lq (h : c_ci H mk K ms L) (f : c_lq H Z L.length) : c_ci Z mk K ms L := by
  obtain ⟨h1, h2, h3, h4⟩ := h
  refine ⟨c_Ch_fr h1 f.1, by rw [c_lq_iv f (by omega)]; exact h2, h3, fun k c hc => ?_⟩
  have hk := h_lt hc
  refine c_le_eq (h4 k c hc) (fun a ha => ?_) (c_lq_iv f (by omega)) (f.1.2.2.2.2.1 _ _) (fun j => f.1.2.2.2.2.1 _ _)
  by_cases c9 : a = 49
  · rw [c9]; exact f.2 k (by omega)
  · rw [c_lq_iv f (by omega)]
/-- where the row of a message lies -/
def c_far (H : sw_H) (mk : List Wt) (ms : List (List Wt)) (mi r ra : Nat) (l : List Wt) : Prop := ms[mi]? = some l ∧ sw_rv H 1416 mi = r ∧ 1491 < r ∧ 1491 < ra ∧ l.length ≤ 1200 ∧ c_sg H (w_d mk) r ra l
theorem c_far_lq (h : c_far H mk ms mi r ra l) (hk : k < 32) (f : c_lq H Z k) : c_far Z mk ms mi r ra l := by
  obtain ⟨h1, h2, h3, h4, h5, h6⟩ := h
  exact ⟨h1, by rw [f.1.2.2.2.2.1]; exact h2, h3, h4, h5, c_sg_fr h6 f.1 (by simp; omega) (by simp; omega) (by simp; omega)⟩
/-- the Tree of the group -/
def c_gt (H : sw_H) (mk : List Wt) (g : Nat) (T : w_T) : Prop := sw_rv H g 0 = g + 1 ∧ 84 < g ∧ c_tr H mk (g + 1) T
theorem c_gt_lq (hV : c_V H mk nn K tl cn cs) (h : c_gt H mk g T) (hk : k < 32) (f : c_lq H Z k) : c_gt Z mk g T := ⟨by rw [f.1.2.2.2.2.1]; exact h.1, h.2.1, c_tr_fr hV h.2.2 f.1 (fun a ha => by have := h.2.1; simp at ha; unfold c_fix; omega)⟩
theorem c_hlX (hW : c_V H mk nn K tl cn cs) (ht : c_gt H mk g T) {p : Int} (q : ∀ z, ((z = 1 ∧ h_hl T p) ∨ (z = 0 ∧ ¬ h_hl T p)) → P z H) : wm_297 (g + 1) p H P :=
  c_hasLeaf hW.1 ht.2.2 (fun h1 h2 h3 => q 1 (Or.inl ⟨rfl, h1, h2, h3⟩)) (fun h => q 0 (Or.inr ⟨rfl, h⟩))
theorem p_lf_i (h : p_lf K src l (some (i, e)) = some (f, s)) : i + 6 ≤ e := by
  obtain ⟨m, k, p, so, ph, g0⟩ := f
  have := (p_lf_ix h).2.1
  split at this <;> omega
theorem c_isUpdateRight (hml : mk.length ≤ 999999999) (hci : c_ci H mk K ms L) (hW : c_W H mk nn K tl cn cs) (hl : L.length < 32) (hr : c_far H mk ms mi r ra l) (hg : c_gt H mk g T) (he : e ≤ l.length) (hp : p_lf K 2 l (some (i + 1, e)) = some (f, s)) (hpl : 0 ≤ pl ∧ pl < 65536) (q : ∀ z G, ((z = 1 ∧ h_hl T pl ∧ f.1 = t_ow T pl.toNat ∧ w_lfs f pl) ∨ (z = 0 ∧ ¬ (h_hl T pl ∧ f.1 = t_ow T pl.toNat ∧ w_lfs f pl))) → c_W G mk nn K tl cn cs → c_lq H G L.length → sw_iv G 49 L.length = pl → c_Lf G mk (53 + L.length) f → P z G) : wm_356 44 r i pl g H P := by
  obtain ⟨c0, c3, c4, c5, c6, c7, c8, c9, c12, ct, c47, c51, c52, clf⟩ := hci.1
  have hlen := hr.2.2.2.2.1
  have r1 := hr.2.2.1
  have r2 := hr.2.2.2.1
  have h84 := hg.2.1
  have g20 := hg.2.2.1.2.1
  have hi := p_lf_i hp
  have fx : ∀ {Y Z : sw_H}, c_W Y mk nn K tl cn cs → c_fr [53 + L.length] Y Z → c_W Z mk nn K tl cn cs := fun hY f => c_W_fr hY f (fun a ha => by simp at ha; unfold c_fix; omega)
  unfold wm_356
  rw [c9]
  refine ⟨c51.1, ?_⟩
  intro q1 e1 v4 e4 _
  rw [hci.2.1] at e4
  rw [e1, e4]
  refine ⟨by omega, by rw [c51.2]; omega, ?_⟩
  rw [Int.toNat_natCast, (clf L.length hl).1]
  refine ⟨(clf L.length hl).2, ?_⟩
  intro q7 e7
  rw [e7, sw_s1 (by omega)]
  refine c_takeFrom hW.1.1 hr.2.2.2.2.2 (by omega) he hp (by omega) (by omega) (fun Y fY => (fx hW fY).1.1) (fun Y lY fY => ?_)
  intro _
  have WY := fx hW fY
  rw [fY.2.2.2.2.1, c7]
  refine ⟨by rw [fY.2.2.1]; exact (ct 49 (by omega)).1, ?_⟩
  intro q18 e18 v21 e21 _
  rw [fY.2.2.2.2.2 44 (by simp; omega), hci.2.1] at e21
  rw [e18, e21]
  refine ⟨by omega, by rw [fY.2.2.2.1, (ct 49 (by omega)).2]; omega, ?_⟩
  intro Z eZ
  rw [Int.toNat_natCast] at eZ
  have fZ : c_fr [49] Y Z := by rw [eZ]; exact c_fr_si _ _ _ _
  have WZ : c_W Z mk nn K tl cn cs := c_W_fr WY fZ (fun a ha => by simp at ha; unfold c_fix; omega)
  have kZ : c_lq H Z L.length := c_lq_t (c_lq_o fY) (by rw [eZ]; exact c_lq_9)
  have lZ : c_Lf Z mk (53 + L.length) f := c_Lf_fr lY fZ (by simp; omega)
  have vZ : sw_iv Z 49 L.length = pl := by rw [eZ, c_si_eq]
  have gZ := c_gt_lq hW.1 hg hl kZ
  rw [gZ.1]
  refine ⟨gZ.2.2.1.2.2.1, ?_⟩
  intro q27 e27
  rw [e27]
  refine c_hlX WZ.1 gZ (fun z hz => ?_)
  intro _ _
  rcases hz with ⟨rfl, hz⟩ | ⟨rfl, hz⟩
  · refine ⟨fun c => absurd c (by decide), fun _ => ?_⟩
    intro v35 e35 _
    rw [lZ.1.1] at e35
    rw [gZ.1]
    refine ⟨gZ.2.2.1.2.2.1, ?_⟩
    intro q38 e38
    have d16 := t_d_16 gZ.2.2.2.1.1
    obtain ⟨h0, h1, h2⟩ := hz
    obtain ⟨pn, rfl⟩ : ∃ pn : Nat, pl = pn := ⟨pl.toNat, by omega⟩
    rw [Int.toNat_natCast] at h2
    obtain ⟨_, _, _, _, _, _, s4, _, s4t, s4l, slf⟩ := gZ.2.2.1
    rw [e38, s4]
    refine ⟨s4t, ?_⟩
    intro q41 e41
    rw [e41]
    refine ⟨by omega, by rw [s4l]; omega, ?_⟩
    rw [Int.toNat_natCast, (slf pn (by omega)).1]
    refine ⟨(slf pn (by omega)).2, ?_⟩
    intro q44 e44 v47 e47 _
    rw [e44, ((gZ.2.2.2.2.2.2.2 pn ((t_lf_w T pn).mpr (by omega)) h2).1).1] at e47
    rw [e35, e47]
    rw [Int.toNat_natCast] at q
    refine ⟨fun c => q 0 Z (Or.inr ⟨rfl, fun hh => c hh.2.1⟩) WZ kZ vZ lZ, fun c => ?_⟩
    rw [fZ.2.2.2.2.1, fY.2.2.2.2.1, c0]
    refine ⟨WZ.2.1.1, ?_⟩
    intro q50 e50
    rw [e50]
    refine c_isLeafSigned hml WZ lZ.1 lZ.2 (by omega) (fun z X hz WX fX => ?_)
    intro _ _
    have kX := c_lq_t kZ (c_lq_w fX)
    have vX : sw_iv X 49 L.length = pn := by rw [fX.2.2.2.2.2 49 (by simp)]; exact vZ
    have lX := c_Lf_fr lZ fX (by simp; omega)
    rcases hz with ⟨rfl, z2⟩ | ⟨rfl, z2⟩
    · exact ⟨fun c => absurd c (by decide), fun _ => q 1 X (Or.inl ⟨rfl, ⟨h0, h1, by rw [Int.toNat_natCast]; exact h2⟩, c, z2⟩) WX kX vX lX⟩
    · exact ⟨fun _ => q 0 X (Or.inr ⟨rfl, fun hh => z2 hh.2.2⟩) WX kX vX lX, fun c => absurd rfl c⟩
  · exact ⟨fun _ => q 0 Z (Or.inr ⟨rfl, fun hh => hz hh.1⟩) WZ kZ vZ lZ, fun c => absurd rfl c⟩
end
