/-! ===== the way of a leaf; the reference: findWay ===== -/
noncomputable section
/-- the other side below the node of height k + 1 above leaf l -/
def t_si (l k : Nat) : Nat := 2 * t_ab l (k + 1) - t_ab l k
/-- that node counts -/
def t_cn (T : w_T) (l k : Nat) : Prop := w_rs T k (t_si l k) ≠ []
def t_cb (T : w_T) (l k : Nat) : Int := if w_rs T k (t_si l k) = [] then 0 else 1
theorem t_si_k : ∀ l : Fin 16, ∀ k : Fin 4, w_h (t_si l.val k.val) = k.val ∧ w_h (t_ab l.val (k.val + 1)) = k.val + 1 ∧ t_si l.val k.val < 31 ∧ t_ab l.val (k.val + 1) < 31 ∧ (t_ab l.val k.val < t_ab l.val (k.val + 1) → t_si l.val k.val = t_ab l.val (k.val + 1) + 2 ^ k.val) ∧ (t_ab l.val (k.val + 1) ≤ t_ab l.val k.val → t_si l.val k.val + 2 ^ k.val = t_ab l.val (k.val + 1)) := by decide +kernel
theorem t_si_w : ∀ d : Fin 5, ∀ l : Fin 16, ∀ k : Fin 4, l.val < 2 ^ d.val → k.val < d.val → t_si l.val k.val + 2 ^ k.val ≤ 2 ^ (d.val + 1) - 1 ∧ 2 ^ k.val ≤ t_si l.val k.val + 1 := by decide +kernel
section
variable {T : w_T} {l k : Nat}
theorem t_si_ok (hd : t_dp T ≤ 4) (hl : l < 2 ^ t_dp T) (hk : k < t_dp T) : w_h (t_si l k) = k ∧ w_h (t_ab l (k + 1)) = k + 1 ∧ t_si l k + 2 ^ k ≤ t_w T ∧ 2 ^ k ≤ t_si l k + 1 ∧ (t_ab l k < t_ab l (k + 1) → t_si l k = t_ab l (k + 1) + 2 ^ k) ∧ (t_ab l (k + 1) ≤ t_ab l k → t_si l k + 2 ^ k = t_ab l (k + 1)) := by
  have d16 := t_d_16 hd
  obtain ⟨a1, a2, a3, a4, a5, a6⟩ := t_si_k ⟨l, by omega⟩ ⟨k, by omega⟩
  obtain ⟨b1, b2⟩ := t_si_w ⟨t_dp T, by omega⟩ ⟨l, by omega⟩ ⟨k, by omega⟩ hl hk
  exact ⟨a1, a2, b1, b2, a5, a6⟩
end
variable {I J X : sr_V} {nn fr mi s u k h : Nat} {K K' : Wt → Prop} {tl mk mm : List Wt} {a b c y n S src m so com : Int} {Q : Int → sr_V → Prop} {R : sr_V → Prop} {x i e l : Nat} {T T' T'' : w_T} {P : Nat → Nat → Prop}
/-- the way that was found, up to height k -/
def m_wyk (I : sr_V) (T : w_T) (l k : Nat) : Prop := I 1000 93 = (k : Nat) ∧ ∀ j, j < k → I 90 j = ((t_ab l (j + 1) : Nat) : Int) ∧ I 91 j = ((t_si l j : Nat) : Int) ∧ I 94 j = t_cb T l j
def m_wy (I : sr_V) (T : w_T) (l : Nat) : Prop := m_wyk I T l (t_dp T)
def m_pwy (f k : Nat) : Prop := f = 88 ∨ f = 89 ∨ f = 90 ∨ f = 91 ∨ f = 94 ∨ (f = 1000 ∧ (k = 92 ∨ k = 93))
theorem r_fw_7 (hs : s < 49) (hl : l < 2 ^ t_dp T) : ∀ (n k : Nat) {I : sr_V}, m_tr I mk s T → m_wyk I T l k → k ≤ t_dp T → t_dp T - k < n → (∀ J, m_wy J T l → m_gp m_pwy I J → R J) → rl_99_7 R n s ((t_ab l k : Nat) : Int) I
  | 0, _, _, _, _, _, h, _ => by omega
  | n + 1, k, I, hT, hw, hk, hn, q => by
    have d4 := hT.1.1
    have d16 := t_d_16 d4
    unfold rl_99_7
    refine r_top hs hT.2.1 d4 ?_
    intro _
    have top := t_ab_top d4 hl hk
    refine ⟨fun c => ?_, fun c => ?_⟩
    · have e := top.mp c
      subst e
      exact q I hw (m_gp_refl _ _)
    · have hlt : k < t_dp T := by
        rcases Nat.lt_or_ge k (t_dp T) with g | g
        · exact g
        · exact absurd (top.mpr (by omega)) c
      obtain ⟨a1, a2, a3, a4, a5, a6⟩ := t_si_ok d4 hl hlt
      have w31 := t_w_4 d4
      have aw := t_ab_w d4 hl (h := k + 1) (by omega)
      have p0 : 0 < 2 ^ k := Nat.two_pow_pos _
      have p2 : 2 ^ k ≤ 8 := by
        have : 2 ^ k ≤ 2 ^ 3 := Nat.pow_le_pow_right (by decide) (by omega)
        omega
      refine r_above (by omega) (by omega) ?_
      intro _
      refine r_height (by omega) ?_
      intro _
      rw [a2]
      intro v69 e69 _
      rw [hw.1] at e69
      subst e69
      refine ⟨by omega, by omega, ?_⟩
      intro I73 e73
      rw [Int.toNat_natCast] at e73
      intro v77 e77 _
      have e77' : v77 = (k : Int) := by rw [e77, e73, su_f (by decide)]; exact hw.1
      subst e77'
      have g73 : m_gp m_pwy I I73 := by rw [e73]; exact m_gp_sub (m_gp_su _ _ _ _) (fun f j p => by unfold m_pwy; omega)
      have body : rb_99_46 R (rl_99_7 R n) s ((t_ab l (k + 1) : Nat) : Int) ((t_si l k : Nat) : Int) (k : Int) I73 := by
        unfold rb_99_46
        refine ⟨by omega, by omega, ?_⟩
        intro I18 e18
        rw [Int.toNat_natCast] at e18
        have g18 : m_gp m_pwy I I18 := m_gp_trans g73 (by rw [e18]; exact m_gp_sub (m_gp_su _ _ _ _) (fun f j p => by unfold m_pwy; omega))
        have k18 : I18 1000 93 = (k : Int) := by rw [e18, su_f (by decide), e73, su_f (by decide)]; exact hw.1
        intro v22 e22 _
        rw [k18] at e22
        subst e22
        refine ⟨by omega, by omega, ?_⟩
        intro v25 e25 _
        rw [Int.toNat_natCast, e18, su_eq] at e25
        subst e25
        have t18 : m_tr I18 mk s T := m_tr_gp hT g18 (fun f j p q => by unfold m_pl at p; unfold m_pwy at q; omega)
        refine r_resolve hs t18 (by rw [a1]; exact a3) (fun J hz fJ => ?_)
        rw [a1] at hz
        have gJ : m_gp (fun f k => f = 88 ∨ f = 89 ∨ (f = 1000 ∧ k = 92)) I18 J := m_gp_sub (m_fr_gp fJ) (fun f k p => by simp at p; omega)
        have kJ : J 1000 93 = (k : Int) := by rw [gJ _ _ (by omega)]; exact k18
        have fin : ∀ s0 : Int, (s0 = 0 ∨ s0 = 1) → s0 = t_cb T l k → rb_99_65 R (rl_99_7 R n) s ((t_ab l (k + 1) : Nat) : Int) s0 (k : Int) J := fun s0 h01 hs0 => by
          unfold rb_99_65
          refine ⟨by omega, by omega, h01, ?_⟩
          intro I2 e2
          rw [Int.toNat_natCast] at e2
          intro v6 e6 _ I10 e10
          have : I2 1000 93 = (k : Int) := by rw [e2, su_f (by decide)]; exact kJ
          rw [this] at e6
          rw [e6, sw_s1 (by omega)] at e10
          have gAll : m_gp m_pwy I I10 := by
            refine m_gp_trans (m_gp_trans g18 (m_gp_sub gJ (fun f k p => by unfold m_pwy; omega))) ?_
            rw [e10, e2]
            exact m_gp_trans (m_gp_sub (m_gp_su _ _ _ _) (fun f j p => by unfold m_pwy; omega)) (m_gp_sub (m_gp_su _ _ _ _) (fun f j p => by unfold m_pwy; omega))
          refine r_fw_7 hs hl n (k + 1) (m_tr_gp hT gAll (fun f j p q => by unfold m_pl at p; unfold m_pwy at q; omega)) ⟨by rw [e10, su_eq], fun j hj => ?_⟩ (by omega) (by omega) (fun X hX gX => q X hX (m_gp_trans gAll gX))
          rw [e10, su_f (by decide), su_f (by decide), su_f (by decide), e2, su_f (by decide), su_f (by decide)]
          rcases Nat.lt_or_ge j k with g | g
          · obtain ⟨b1, b2, b3⟩ := hw.2 j g
            rw [su_k (by omega), gJ 90 j (by omega), gJ 91 j (by omega), gJ 94 j (by omega), e18, su_f (by decide), su_k (by omega), su_f (by decide), e73, su_k (by omega), su_f (by decide), su_f (by decide)]
            exact ⟨b1, b2, b3⟩
          · have ej : j = k := by omega
            subst ej
            rw [su_eq, gJ 90 j (by omega), gJ 91 j (by omega), e18, su_f (by decide), su_eq, e73, su_eq]
            exact ⟨rfl, rfl, hs0⟩
        intro v35 e35 _ v38 e38 _
        rw [kJ] at e35
        subst e35
        have ez : J 1000 92 = ((w_rs T k (t_si l k)).length : Int) := hz.1
        rw [ez] at e38
        refine ⟨fun c2 => fin 0 (Or.inl rfl) ?_, fun c2 => fin 1 (Or.inr rfl) ?_⟩
        · have : w_rs T k (t_si l k) = [] := List.length_eq_zero_iff.mp (by omega)
          unfold t_cb; rw [if_pos this]
        · have : w_rs T k (t_si l k) ≠ [] := fun c => by rw [c] at e38; simp at e38; omega
          unfold t_cb; rw [if_neg this]
      have e1 : sw_w (((k + 1 : Nat) : Int) - 1) = (k : Int) := by rw [sw_w_s (by omega) (by omega)]; omega
      rw [e1, sw_shl_1 (by omega)]
      refine ⟨fun c2 => ?_, fun c2 => ?_⟩
      · have e2 := a6 (by omega)
        rw [sw_w_s (by omega) (by omega), show ((t_ab l (k + 1) : Nat) : Int) - ((2 ^ k : Nat) : Int) = ((t_si l k : Nat) : Int) by omega]
        exact body
      · have e2 := a5 (by omega)
        rw [sw_w_s (by omega) (by omega), show ((t_ab l (k + 1) : Nat) : Int) + ((2 ^ k : Nat) : Int) = ((t_si l k : Nat) : Int) by omega]
        exact body
theorem r_findWay (hs : s < 49) (hl : l < 2 ^ t_dp T) (hT : m_tr I mk s T) (q : ∀ J, m_wy J T l → m_gp m_pwy I J → R J) : rm_99 s l I R := by
  have d16 := t_d_16 hT.1.1
  unfold rm_99
  intro I83 e83 y87 e87
  rw [sw_2k (by omega), ← t_ab_0] at e87
  subst e87
  have g83 : m_gp m_pwy I I83 := by rw [e83]; exact m_gp_sub (m_gp_su _ _ _ _) (fun f j p => by unfold m_pwy; omega)
  exact ⟨t_dp T + 1, r_fw_7 hs hl _ 0 (m_tr_gp hT g83 (fun f j p q => by unfold m_pl at p; unfold m_pwy at q; omega)) ⟨by rw [e83, su_eq]; rfl, fun j hj => by omega⟩ (by omega) (by omega) (fun J hJ gJ => q J hJ (m_gp_trans g83 gJ))⟩
end
