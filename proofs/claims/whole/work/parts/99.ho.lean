/-! ===== the reference: climb ===== -/
noncomputable section
/-- the secret of a path below height j, when p is that of height k -/
def d_ls (T : w_T) (l : Nat) (p : Wt) (k : Nat) : Nat → Wt
  | 0 => p
  | j + 1 => if k ≤ j ∧ t_cb T l j ≠ 0 then w_dr (d_ls T l p k j) 4 else d_ls T l p k j
/-- the keys from height k on are those of the secrets -/
def d_cok (T : w_T) (l : Nat) (p : Wt) (k : Nat) (kf : Nat → Wt) : Prop := ∀ j, k ≤ j → j < t_dp T → t_cb T l j ≠ 0 → w_p5 (w_dr (d_ls T l p k j) 5) = kf j
/-- what climbing makes -/
def d_clS (T : w_T) (l : Nat) (p : Wt) (k : Nat) (v : Wt) : Prop := ∃ j, k ≤ j ∧ j < t_dp T ∧ t_cb T l j ≠ 0 ∧ (v = w_dr (d_ls T l p k j) 5 ∨ v = w_p5 (w_dr (d_ls T l p k j) 5) ∨ v = w_dr (d_ls T l p k j) 4)
def m_pcl (T : w_T) (l kk f k : Nat) : Prop := m_p2 f k ∨ (f = 99 ∧ k = 0) ∨ (f = 44 ∧ ∃ j, kk ≤ j ∧ j < t_dp T ∧ t_cb T l j ≠ 0 ∧ k = 1488 + t_ab l (j + 1))
variable {I I0 I1 J X : sr_V} {nn us fr : Nat} {K K' : Wt → Prop} {tl mk m0 mm lm : List Wt} {Q : Int → sr_V → Prop} {R : sr_V → Prop} {l k kk d s a b : Nat} {P : Nat → Nat → Prop} {T T2 : w_T} {w v p : Wt} {x2 x3 : Int} {S : Wt → Prop} {kf : Nat → Wt}
theorem d_ls_sk : ∀ {b : Nat}, a ≤ b → (∀ i, a ≤ i → i < b → t_cb T l i = 0) → d_ls T l p k b = d_ls T l p k a
  | 0, h, _ => by rw [show a = 0 by omega]
  | b + 1, h, hz => by
    by_cases e : a = b + 1
    · rw [e]
    · show (if k ≤ b ∧ t_cb T l b ≠ 0 then w_dr (d_ls T l p k b) 4 else d_ls T l p k b) = _
      rw [if_neg (fun c => c.2 (hz b (by omega) (by omega)))]
      exact d_ls_sk (by omega) (fun i h1 h2 => hz i h1 (by omega))
theorem d_ls_lo : ∀ {b : Nat}, b ≤ k → d_ls T l p k b = p
  | 0, _ => rfl
  | b + 1, h => by
    show (if k ≤ b ∧ t_cb T l b ≠ 0 then w_dr (d_ls T l p k b) 4 else d_ls T l p k b) = _
    rw [if_neg (fun c => by omega)]
    exact d_ls_lo (by omega)
theorem d_ls_1 (h : k ≤ b) (hc : t_cb T l b ≠ 0) : d_ls T l p k (b + 1) = w_dr (d_ls T l p k b) 4 := if_pos ⟨h, hc⟩
theorem r_nc_4 (hw : m_wy I T l) (h4 : t_dp T ≤ 4) (q1 : ∀ i, a < i → i < t_dp T → t_cb T l i ≠ 0 → (∀ i', a < i' → i' < i → t_cb T l i' = 0) → Q i I) (q0 : (∀ i', a < i' → i' < t_dp T → t_cb T l i' = 0) → Q (-1) I) : ∀ (n i : Nat), a < i → i ≤ t_dp T → t_dp T - i < n → (∀ i', a < i' → i' < i → t_cb T l i' = 0) → rl_326_4 Q n i I
  | 0, _, _, _, h, _ => by omega
  | n + 1, i, hi, hi2, hn, inv => by
    unfold rl_326_4
    intro v1 e1 _
    rw [hw.1] at e1
    refine ⟨fun c => q0 (fun i' h1 h2 => inv i' h1 (by omega)), fun c => ⟨by omega, by omega, ?_⟩⟩
    intro v4 e4 _
    rw [Int.toNat_natCast, (hw.2 i (by omega)).2.2] at e4
    refine ⟨fun c1 => ?_, fun c1 => q1 i hi (by omega) (by rw [← e4]; exact c1) inv⟩
    intro y7 e7
    rw [sw_s1 (by omega)] at e7
    rw [e7]
    refine r_nc_4 hw h4 q1 q0 n (i + 1) (by omega) (by omega) (by omega) (fun i' h1 h2 => ?_)
    by_cases e : i' = i
    · rw [e, ← e4]; exact c1
    · exact inv i' h1 (by omega)
theorem r_nextCounting (hw : m_wy I T l) (h4 : t_dp T ≤ 4) (ha : a < t_dp T) (q1 : ∀ i, a < i → i < t_dp T → t_cb T l i ≠ 0 → (∀ i', a < i' → i' < i → t_cb T l i' = 0) → Q i I) (q0 : (∀ i', a < i' → i' < t_dp T → t_cb T l i' = 0) → Q (-1) I) : rm_326 a I Q := by
  unfold rm_326
  intro y13 e13
  rw [sw_s1 (by omega)] at e13
  rw [e13]
  exact ⟨t_dp T + 1, r_nc_4 hw h4 q1 q0 _ (a + 1) (by omega) (by omega) (by omega) (fun i' h1 h2 => by omega)⟩
theorem m_wy_pcl (h : m_wy I T l) (g : m_gp (m_pcl T l kk) I J) : m_wy J T l := ⟨by rw [g 1000 93 (by unfold m_pcl m_p2; omega)]; exact h.1, fun j hj => by rw [g 90 j (by unfold m_pcl m_p2; omega), g 91 j (by unfold m_pcl m_p2; omega), g 94 j (by unfold m_pcl m_p2; omega)]; exact h.2 j hj⟩
theorem m_tr_pcl (h : m_tr I mk 48 T2) (g : m_gp (m_pcl T l kk) I J) (hle : w_le mk mm) : m_tr J mm 48 T2 := by
  have ef : ∀ f, f = 31 ∨ (36 ≤ f ∧ f ≤ 43) → J f = I f := fun f hf => funext (fun k => g f k (by unfold m_pcl m_p2; omega))
  refine m_tr_le ?_ hle
  unfold m_tr at h ⊢
  rw [ef 31 (by decide), ef 36 (by decide), ef 37 (by decide), ef 38 (by decide), ef 39 (by decide), ef 40 (by decide), ef 41 (by decide), ef 42 (by decide), ef 43 (by decide)]
  exact h
theorem r_cl_4 (hl : l < 2 ^ t_dp T) (hw : m_wy I0 T l) (ht : m_tr I0 m0 48 T2) (hd : t_dp T2 = t_dp T) (hky : ∀ j, j < t_dp T → t_cb T l j ≠ 0 → t_ky T2 (t_ab l (j + 1)) = kf j ∧ kf j ≠ []) (hS : ∀ v, d_clS T l p kk v → S v) (q1 : ∀ J mm, d_cok T l p kk kf → w_mo S m0 mm → m_bS S mm → m_L J mm nn K tl → w_at mm (J 99 0) (d_ls T l p kk (t_dp T)) → (∀ j, kk ≤ j → j < t_dp T → t_cb T l j ≠ 0 → w_at mm (J 44 (1488 + t_ab l (j + 1))) (w_dr (d_ls T l p kk j) 5)) → m_gp (m_pcl T l kk) I0 J → Q 1 J) (q0 : ∀ J mm, ¬ d_cok T l p kk kf → w_mo S m0 mm → m_bS S mm → m_L J mm nn K tl → m_gp (m_pcl T l kk) I0 J → Q 0 J) : ∀ (n j : Nat) {I : sr_V} {mq : List Wt} {x3 x4 : Int}, w_mo S m0 mq → m_bS S mq → m_L I mq nn K tl → m_gp (m_pcl T l kk) I0 I → w_at mq x3 (d_ls T l p kk j) → kk ≤ j → j ≤ t_dp T → ((x4 = -1 ∧ j = t_dp T) ∨ (x4 = j ∧ j < t_dp T ∧ t_cb T l j ≠ 0)) → (∀ i, kk ≤ i → i < j → t_cb T l i ≠ 0 → w_p5 (w_dr (d_ls T l p kk i) 5) = kf i ∧ w_at mq (I 44 (1488 + t_ab l (i + 1))) (w_dr (d_ls T l p kk i) 5)) → t_dp T - j < n → rl_232_4 Q n x3 x4 I
  | 0, _, _, _, _, _, _, _, _, _, _, _, _, _, _, h => by omega
  | n + 1, j, I, mq, x3, x4, mo, hb, hL, gI, hx3, hkj, hj, hx4, inv, hn => by
    have w := m_wy_pcl hw gI
    have tr := m_tr_pcl ht gI mo.1
    have h4' := ht.1.1
    have h4 : t_dp T ≤ 4 := by omega
    have d16 := t_d_16 h4
    have w31 := t_w_4 h4'
    unfold rl_232_4
    rcases hx4 with ⟨e4, ej⟩ | ⟨e4, jd, jc⟩
    · refine ⟨fun _ => ⟨by decide, ?_⟩, fun c => absurd e4 c⟩
      intro I2 e2
      have g2 : m_gp (m_pcl T l kk) I I2 := by rw [e2]; exact m_gp_sub (m_gp_su _ _ _ _) (fun f k p => by unfold m_pcl; omega)
      refine q1 I2 mq (fun i h1 h2 h3 => (inv i h1 (by omega) h3).1) mo hb (m_L_gp hL (by rw [e2]; exact m_gp_su _ _ _ _ : m_gp (fun f k => f = 99 ∧ k = 0) I I2) (fun f k p => by omega)) ?_ (fun i h1 h2 h3 => ?_) (m_gp_trans gI g2)
      · have : I2 99 0 = x3 := by rw [e2]; simp [su_at]
        rw [this, ← ej]
        exact hx3
      · rw [e2, su_f (by decide)]
        exact (inv i h1 (by omega) h3).2
    · refine ⟨fun c => by omega, fun _ => ?_⟩
      have s5 : S (w_dr (d_ls T l p kk j) 5) := hS _ ⟨j, hkj, jd, jc, Or.inl rfl⟩
      have sp : S (w_p5 (w_dr (d_ls T l p kk j) 5)) := hS _ ⟨j, hkj, jd, jc, Or.inr (Or.inl rfl)⟩
      have s4 : S (w_dr (d_ls T l p kk j) 4) := hS _ ⟨j, hkj, jd, jc, Or.inr (Or.inr rfl)⟩
      refine r_derS (j := 5) hb hL hx3 rfl (by decide) s5 (fun z11 J1 m1 mo1 b1 L1 w11 f1 => ?_)
      intro _
      refine r_pubS b1 L1 w11 sp (fun z21 J2 m2 mo2 b2 L2 w21 f2 => ?_)
      intro _
      have g12 : m_gp (m_pcl T l kk) I J2 := m_gp_trans (m_gp_sub (m_f1_gp f1) (fun f k p => Or.inl p)) (m_gp_sub (m_f1_gp f2) (fun f k p => Or.inl p))
      have mo12 := w_mo_trans mo1 mo2
      have wJ := m_wy_pcl w g12
      have tJ := m_tr_pcl tr g12 mo12.1
      have aw := t_ab_w (T := T2) h4' (k := l) (by rw [hd]; exact hl) (h := j + 1) (by omega)
      obtain ⟨k1, k2⟩ := hky j jd jc
      refine ⟨by omega, by omega, ?_⟩
      intro v23 e23 _
      rw [e4, Int.toNat_natCast, (wJ.2 j jd).1] at e23
      rw [e23]
      refine r_spot (s := 48) (by decide) (by omega) ?_
      intro _
      refine ⟨by omega, by omega, ?_⟩
      intro v33 e33 _
      rw [Int.toNat_natCast] at e33
      have k37 := w_az_ne (tJ.2.2.1 _ aw).2.1 (by rw [k1]; exact k2)
      rw [← e33, k1] at k37
      refine ⟨fun c => ?_, fun c => q0 J2 m2 (fun hc => c ?_) (w_mo_trans mo mo12) b2 L2 (m_gp_trans gI g12)⟩
      rotate_left
      · have := hc j hkj jd jc
        rw [this] at w21
        exact w_at_inj (m_L_nd L2) w21 k37
      have ekf : w_p5 (w_dr (d_ls T l p kk j) 5) = kf j := by
        rw [c] at w21
        exact w_at_fun w21 k37
      refine ⟨by omega, by omega, ?_⟩
      intro v36 e36 _
      rw [e4, Int.toNat_natCast, (wJ.2 j jd).1] at e36
      rw [e36]
      refine r_spot (s := 48) (by decide) (by omega) ?_
      intro _
      refine ⟨by omega, by omega, ?_⟩
      intro I47 e47
      rw [Int.toNat_natCast, show 31 * 48 + t_ab l (j + 1) = 1488 + t_ab l (j + 1) by omega] at e47
      have g47s : m_gp (fun f k => f = 44 ∧ k = 1488 + t_ab l (j + 1)) J2 I47 := by rw [e47]; exact m_gp_sub (m_gp_su _ _ _ _) (fun f k p => p)
      have v47 : I47 44 (1488 + t_ab l (j + 1)) = z11 := by rw [e47, su_eq]
      clear e47
      have g47 : m_gp (m_pcl T l kk) J2 I47 := m_gp_sub g47s (fun f k p => Or.inr (Or.inr ⟨p.1, j, hkj, jd, jc, p.2⟩))
      have L47 := m_L_gp L2 g47s (fun f k p => by omega)
      refine r_derS (j := 4) b2 L47 (w_le_at mo12.1 hx3) rfl (by decide) s4 (fun z56 J3 m3 mo3 b3 L3 w56 f3 => ?_)
      intro _
      have g3 : m_gp (m_pcl T l kk) J2 J3 := m_gp_trans g47 (m_gp_sub (m_f1_gp f3) (fun f k p => Or.inl p))
      have g03 := m_gp_trans gI (m_gp_trans g12 g3)
      have w3 := m_wy_pcl hw g03
      have e1 : d_ls T l p kk (j + 1) = w_dr (d_ls T l p kk j) 4 := d_ls_1 hkj jc
      have h44 : J3 44 (1488 + t_ab l (j + 1)) = z11 := by rw [m_f1_gp f3 44 _ (by unfold m_p2; omega)]; exact v47
      have oth : ∀ i, i < j → J3 44 (1488 + t_ab l (i + 1)) = I 44 (1488 + t_ab l (i + 1)) := fun i hi => by
        have ne : t_ab l (i + 1) ≠ t_ab l (j + 1) := fun e => by
          have := t_ab_inj (l := l) (by omega) (by omega) (by omega) e
          omega
        rw [m_f1_gp f3 44 _ (by unfold m_p2; omega), g47s 44 _ (by omega), m_f1_gp f2 44 _ (by unfold m_p2; omega), m_f1_gp f1 44 _ (by unfold m_p2; omega)]
      have mo03 := w_mo_trans mo (w_mo_trans mo12 mo3)
      have le13 := w_le_trans mo12.1 mo3.1
      have inv3 : ∀ b, (∀ i', j < i' → i' < b → t_cb T l i' = 0) → ∀ i, kk ≤ i → i < b → t_cb T l i ≠ 0 → w_p5 (w_dr (d_ls T l p kk i) 5) = kf i ∧ w_at m3 (J3 44 (1488 + t_ab l (i + 1))) (w_dr (d_ls T l p kk i) 5) := fun b hz i h1 h2 h3 => by
        rcases Nat.lt_trichotomy i j with g | g | g
        · rw [oth i g]
          exact ⟨(inv i h1 g h3).1, w_le_at le13 (inv i h1 g h3).2⟩
        · subst g
          rw [h44]
          exact ⟨ekf, w_le_at (w_le_trans mo2.1 mo3.1) w11⟩
        · exact absurd (hz i g h2) h3
      rw [e4]
      refine r_nextCounting w3 h4 jd (fun i i1 i2 i3 i4 => ?_) (fun hz => ?_)
      · intro _
        refine r_cl_4 hl hw ht hd hky hS q1 q0 n i mo03 b3 L3 g03 ?_ (by omega) (by omega) (Or.inr ⟨rfl, i2, i3⟩) (inv3 i i4) (by omega)
        rw [d_ls_sk (a := j + 1) (b := i) (by omega) (fun i' h1 h2 => i4 i' (by omega) h2), e1]
        exact w56
      · intro _
        refine r_cl_4 hl hw ht hd hky hS q1 q0 n (t_dp T) mo03 b3 L3 g03 ?_ (by omega) (Nat.le_refl _) (Or.inl ⟨rfl, rfl⟩) (inv3 (t_dp T) hz) (by omega)
        rw [d_ls_sk (a := j + 1) (b := t_dp T) (by omega) (fun i' h1 h2 => hz i' (by omega) h2), e1]
        exact w56
theorem r_climb {mk : List Wt} (hl : l < 2 ^ t_dp T) (hw : m_wy I T l) (ht : m_tr I mk 48 T2) (hd : t_dp T2 = t_dp T) (hky : ∀ j, j < t_dp T → t_cb T l j ≠ 0 → t_ky T2 (t_ab l (j + 1)) = kf j ∧ kf j ≠ []) (hk : k < t_dp T) (hc : t_cb T l k ≠ 0) (hx : w_at mk x2 p) (hb : m_bS S mk) (hL : m_L I mk nn K tl) (hS : ∀ v, d_clS T l p k v → S v) (q1 : ∀ J mm, d_cok T l p k kf → w_mo S mk mm → m_bS S mm → m_L J mm nn K tl → w_at mm (J 99 0) (d_ls T l p k (t_dp T)) → (∀ j, k ≤ j → j < t_dp T → t_cb T l j ≠ 0 → w_at mm (J 44 (1488 + t_ab l (j + 1))) (w_dr (d_ls T l p k j) 5)) → m_gp (m_pcl T l k) I J → Q 1 J) (q0 : ∀ J mm, ¬ d_cok T l p k kf → w_mo S mk mm → m_bS S mm → m_L J mm nn K tl → m_gp (m_pcl T l k) I J → Q 0 J) : rm_232 k x2 I Q := by
  unfold rm_232
  refine ⟨t_dp T + 1, r_cl_4 hl hw ht hd hky hS q1 q0 _ k w_mo_refl hb hL (m_gp_refl _ _) ?_ (Nat.le_refl _) (by omega) (Or.inr ⟨rfl, hk, hc⟩) (fun i h1 h2 => by omega) (by omega)⟩
  rw [d_ls_lo (Nat.le_refl _)]
  exact hx
end
