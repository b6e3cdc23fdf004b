/-! ===== the reference: isRightBlank, shrink, addLeaf ===== -/
noncomputable section
variable {o : Nat} {I J X : sr_V} {nn fr mi s u k h : Nat} {K : Wt → Prop} {tl mk mm : List Wt} {a b c y n S src m so : Int} {Q : Int → sr_V → Prop} {R : sr_V → Prop} {x i e l : Nat} {T T' T'' : w_T} {f : p_L}
theorem sw_or_h (ha : 0 ≤ a) (ha1 : a < 65536) (hb : 0 ≤ b) (hb1 : b < 65536) : 0 ≤ sw_or a b ∧ sw_or a b < 65536 ∧ sw_or a b = ((a.toNat ||| b.toNat : Nat) : Int) := by
  have h1 : sw_or a b = ((Int32.ofInt a).toBitVec ||| (Int32.ofInt b).toBitVec).toInt := rfl
  have e1 : (a % 4294967296).toNat = a.toNat := by omega
  have e2 : (b % 4294967296).toNat = b.toNat := by omega
  have h2 : ((Int32.ofInt a).toBitVec ||| (Int32.ofInt b).toBitVec).toNat = a.toNat ||| b.toNat := by
    rw [BitVec.toNat_or, sw_nat, sw_nat, e1, e2]
  have h3 : a.toNat ||| b.toNat < 2 ^ 16 := Nat.or_lt_two_pow (by omega) (by omega)
  rw [sw_i_nat (by rw [h2]; omega), h2] at h1
  rw [h1]
  exact ⟨by omega, by omega, rfl⟩
theorem sw_shl_h (h : k < 16) : sw_shl 1 (k : Int) = ((2 ^ k : Nat) : Int) := by
  have key : ∀ k : Fin 16, sw_shl 1 (k.val : Int) = ((2 ^ k.val : Nat) : Int) := by decide +kernel
  exact key ⟨k, h⟩
theorem t_2_16 (h : k < 16) : 2 ^ k < 65536 := by
  have : 2 ^ k < 2 ^ 16 := Nat.pow_lt_pow_right (by decide) h
  omega
theorem t_d_16 (h : t_dp T ≤ 4) : 2 ^ t_dp T ≤ 16 := by
  have : 2 ^ t_dp T ≤ 2 ^ 4 := Nat.pow_le_pow_right (by decide) h
  omega
theorem t_ok_u1 (h : t_ok T) (hl : l < 16) (hx : x % 2 = 1) : t_ok (t_u1 T l x) := by
  obtain ⟨h1, h2, h3⟩ := h
  unfold t_u1
  by_cases c : t_ky T x = []
  · rw [if_pos c]; exact ⟨h1, h2, h3⟩
  · rw [if_neg c]
    refine ⟨h1, fun y hy => ?_, fun j hj hne => h3 j hj hne⟩
    show 0 ≤ fu (t_um T) x _ y ∧ fu (t_um T) x _ y < 65536 ∧ (y % 2 = 0 → fu (t_um T) x _ y = 0) ∧ (t_ky T y = [] → t_ph T y = [] ∧ fu (t_um T) x _ y = 0)
    by_cases d : y = x
    · subst d
      have g := h2 y hy
      have p := t_2_16 hl
      obtain ⟨r1, r2, _⟩ := sw_or_h (b := ((2 ^ l : Nat) : Int)) g.1 g.2.1 (Int.natCast_nonneg _) (by omega)
      rw [fu_eq]
      exact ⟨r1, r2, fun e => by omega, fun e => absurd e c⟩
    · rw [fu_ne d]; exact h2 y hy
theorem t_ok_un (h : t_ok T) (hl : l < 16) : ∀ n, n ≤ 4 → t_ok (t_un T l n)
  | 0, _ => h
  | n + 1, hn => t_ok_u1 (t_ok_un h hl n (by omega)) hl (t_ab_o hl (by omega) hn)
theorem t_fn_le : ∀ (m l : Nat), l ≤ 2 ^ t_dp T → t_fn T m l ≤ 2 ^ t_dp T
  | 0, l, h => h
  | m + 1, l, h => by
    unfold t_fn
    by_cases c : l < 2 ^ t_dp T ∧ t_ky T (2 * l) ≠ []
    · rw [if_pos c]; exact t_fn_le m (l + 1) (by omega)
    · rw [if_neg c]; exact h
theorem t_fl_le : t_fl T ≤ 2 ^ t_dp T := t_fn_le 16 0 (Nat.zero_le _)
theorem t_room_dp (hd : t_dp T ≤ 4) (hl : t_fl T < 16) : t_dp (t_room T (t_fl T)) ≤ 4 ∧ t_fl T < 2 ^ t_dp (t_room T (t_fl T)) := by
  have h1 := t_fl_le (T := T)
  unfold t_room
  by_cases c : t_fl T = 2 ^ t_dp T
  · rw [if_pos c]
    have d3 : t_dp T ≤ 3 := by
      rcases Nat.lt_or_ge 3 (t_dp T) with g | g
      · have : 2 ^ t_dp T = 16 := by rw [show t_dp T = 4 by omega]
        omega
      · exact g
    refine ⟨by show t_dp T + 1 ≤ 4; omega, ?_⟩
    show t_fl T < 2 ^ (t_dp T + 1)
    rw [Nat.pow_succ]
    have : 0 < 2 ^ t_dp T := Nat.two_pow_pos _
    omega
  · rw [if_neg c]; exact ⟨hd, by omega⟩
theorem t_ok_room (h : t_ok T) (hl : t_fl T < 16) : t_ok (t_room T (t_fl T)) := by
  have hd := (t_room_dp h.1 hl).1
  unfold t_room at hd ⊢
  by_cases c : t_fl T = 2 ^ t_dp T
  · rw [if_pos c] at hd ⊢
    have hd : t_dp T + 1 ≤ 4 := hd
    exact t_ok_gr h (by omega)
  · rw [if_neg c]; exact h
theorem t_ok_add (h : t_ok T) (hf : t_lfok f) (hl : t_fl T < 16) : t_ok (t_add T f) := t_ok_un (t_ok_put (t_ok_room h hl) hf) hl _ (t_room_dp h.1 hl).1
theorem t_shn_ky : ∀ n {T : w_T}, t_ky (t_shn n T) = t_ky T
  | 0, _ => rfl
  | n + 1, T => by
    unfold t_shn
    by_cases c : 0 < t_dp T ∧ t_rb T
    · rw [if_pos c, t_shn_ky n]; rfl
    · rw [if_neg c]
theorem t_shn_dp : ∀ n {T : w_T}, t_dp (t_shn n T) ≤ t_dp T
  | 0, _ => Nat.le_refl _
  | n + 1, T => by
    unfold t_shn
    by_cases c : 0 < t_dp T ∧ t_rb T
    · rw [if_pos c]
      have := t_shn_dp n (T := t_lo T)
      have e : t_dp (t_lo T) = t_dp T - 1 := rfl
      omega
    · rw [if_neg c]; exact Nat.le_refl _
theorem t_w_le (h : t_dp T ≤ t_dp T') : t_w T ≤ t_w T' := by
  have : 2 ^ t_dp T ≤ 2 ^ t_dp T' := Nat.pow_le_pow_right (by decide) h
  rw [t_w_e, t_w_e]; omega
theorem m_tr_bk (hT : m_tr I mk s T) (hx : x < t_w T) : I 36 (31 * s + x) = 0 ↔ t_ky T x = [] := by
  have := (hT.2.2.1 x hx).1
  rw [this]
  by_cases c : t_ky T x = []
  · rw [if_pos c]; exact ⟨fun _ => c, fun _ => rfl⟩
  · rw [if_neg c]
    refine ⟨fun e => ?_, fun e => absurd e c⟩
    split at e <;> cases e
theorem r_isBlankT (hs : s < 49) (hT : m_tr I mk s T) (hx : x < t_w T) (q1 : t_ky T x = [] → Q 1 I) (q0 : t_ky T x ≠ [] → Q 0 I) : rm_217 s x I Q := by
  have := t_w_4 hT.1.1
  exact r_isBlank hs (by omega) (fun g => q1 ((m_tr_bk hT hx).mp g)) (fun g => q0 (fun c => g ((m_tr_bk hT hx).mpr c)))
theorem sw_2k (h : k < 65536) : sw_w (2 * (k : Int)) = ((2 * k : Nat) : Int) := by rw [sw_w_s (by omega) (by omega)]; omega
theorem sw_s1 (h : k < 65536) : sw_w ((k : Int) + 1) = ((k + 1 : Nat) : Int) := by rw [sw_w_s (by omega) (by omega)]; omega
theorem r_rb_6 (hs : s < 49) (hT : m_tr I mk s T) (q1 : t_rb T → Q 1 I) (q0 : ¬ t_rb T → Q 0 I) : ∀ (n k : Nat), k ≤ 2 ^ t_dp T → 2 ^ t_dp T - k < n → 2 ^ (t_dp T - 1) ≤ k → (∀ l, 2 ^ (t_dp T - 1) ≤ l → l < k → t_ky T (2 * l) = []) → rl_195_6 Q n s k I
  | 0, _, _, h, _, _ => by omega
  | n + 1, k, hk, hn, h1, h2 => by
    have d16 := t_d_16 hT.1.1
    unfold rl_195_6
    refine r_leafCount hs hT.2.1 hT.1.1 ?_
    intro _
    refine ⟨fun c => q1 (fun l g1 g2 => h2 l g1 (by omega)), fun c => ?_⟩
    rw [sw_2k (by omega)]
    refine r_isBlankT hs hT ((t_lf_w T k).mpr (by omega)) (fun g => ?_) (fun g => ?_)
    · intro _
      refine ⟨fun _ => ?_, fun e => absurd e (by decide)⟩
      intro y e
      rw [sw_s1 (by omega)] at e
      subst e
      exact r_rb_6 hs hT q1 q0 n (k + 1) (by omega) (by omega) (by omega) (fun l g1 g2 => by
        rcases Nat.lt_or_ge l k with d | d
        · exact h2 l g1 d
        · rw [show l = k by omega]; exact g)
    · intro _
      refine ⟨fun e => absurd rfl e, fun _ => q0 (fun r => g (r k h1 (by omega)))⟩
theorem r_isRightBlank (hs : s < 49) (hT : m_tr I mk s T) (h0 : 0 < t_dp T) (q1 : t_rb T → Q 1 I) (q0 : ¬ t_rb T → Q 0 I) : rm_195 s I Q := by
  unfold rm_195
  refine r_leafCount hs hT.2.1 hT.1.1 ?_
  intro _ y e
  have e2 : 2 ^ t_dp T = 2 ^ (t_dp T - 1) * 2 := by rw [← Nat.pow_succ]; congr 1; omega
  have d16 := t_d_16 hT.1.1
  have e3 : sw_div ((2 ^ t_dp T : Nat) : Int) 2 = ((2 ^ (t_dp T - 1) : Nat) : Int) := by
    have : sw_div ((2 ^ t_dp T : Nat) : Int) 2 = ((2 ^ t_dp T / 2 : Nat) : Int) := sw_div_31 ⟨2 ^ t_dp T, by omega⟩
    rw [this, e2, Nat.mul_div_cancel _ (by decide)]
  rw [e3] at e
  subst e
  exact ⟨2 ^ t_dp T + 1, r_rb_6 hs hT q1 q0 _ _ (by omega) (by omega) (by omega) (fun l g1 g2 => by omega)⟩
theorem m_tr_lo {z : Int} (hT : m_tr I mk s T) (h0 : 0 < t_dp T) (hz : z = ((t_dp T - 1 : Nat) : Int)) : m_tr (su I 31 s z) mk s (t_lo T) := by
  have hw := t_lo_le h0
  refine ⟨t_ok_lo hT.1 h0, by rw [su_eq, hz]; rfl, fun x hx => ?_, fun k hk hne => ?_⟩
  · rw [su_f (by decide), su_f (by decide), su_f (by decide), su_f (by decide)]
    exact hT.2.2.1 x (by omega)
  · rw [su_f (by decide), su_f (by decide), su_f (by decide), su_f (by decide)]
    exact hT.2.2.2 k (by omega) hne
theorem r_shrink : ∀ (d n : Nat) {I : sr_V} {T : w_T}, m_tr I mk 48 T → t_dp T = d → d < n → (∀ J, m_tr J mk 48 (t_shn d T) → m_gp (fun g j => g = 31 ∧ j = 48) I J → rb_96_116 Q J) → rl_96_98 Q n I
  | _, 0, _, _, _, _, h, _ => by omega
  | d, n + 1, I, T, hT, hd, hn, q => by
    unfold rl_96_98
    refine ⟨by decide, ?_⟩
    intro v e _
    rw [hT.2.1, hd] at e
    subst e
    refine ⟨fun c => ?_, fun c => ?_⟩
    · have : d = 0 := by omega
      subst this
      exact q I hT (m_gp_refl _ _)
    · obtain ⟨d', rfl⟩ : ∃ d', d = d' + 1 := ⟨d - 1, by omega⟩
      refine r_isRightBlank (s := 48) (by decide) hT (by omega) (fun g => ?_) (fun g => ?_)
      · intro _
        refine ⟨fun e => absurd e (by decide), fun _ => ⟨by decide, ?_⟩⟩
        intro v e _
        refine ⟨by decide, ?_⟩
        intro I2 e2
        rw [hT.2.1, hd] at e
        rw [e, sw_w_s (by have := hT.1.1; omega) (by have := hT.1.1; omega)] at e2
        have e3 : ((d' + 1 : Nat) : Int) - 1 = ((t_dp T - 1 : Nat) : Int) := by omega
        rw [e3] at e2
        subst e2
        refine r_shrink d' n (m_tr_lo hT (by omega) rfl) (by show t_dp T - 1 = d'; omega) (by omega) (fun J hJ fJ => ?_)
        refine q J ?_ (m_gp_trans (m_gp_su I 31 48 _) fJ)
        unfold t_shn
        rw [if_pos ⟨by omega, g⟩]
        exact hJ
      · intro _
        refine ⟨fun _ => ?_, fun e => absurd rfl e⟩
        refine q I ?_ (m_gp_refl _ _)
        unfold t_shn
        rw [if_neg (fun c => g c.2)]
        exact hT
theorem m_hr_sh {n : Nat} (h44 : ∀ x, J 44 (31 * s + x) = I 44 (31 * s + x)) : m_hr o I s T J s (t_shn n T) := fun x hx => Or.inr ⟨by have := t_w_le (t_shn_dp n (T := T)); omega, h44 x, by rw [t_shn_ky]⟩
theorem r_al_2 (hs : s < 49) (hT : m_tr I mk s T) : ∀ (m n l : Nat), l ≤ 2 ^ t_dp T → m + l = 16 → m < n → rb_196_16 Q s ((t_fn T m l : Nat) : Int) I → rl_196_2 Q n s l I
  | _, 0, _, _, _, h, _ => by omega
  | m, n + 1, l, hl, hm, hn, q => by
    have d16 := t_d_16 hT.1.1
    unfold rl_196_2
    refine r_leafCount hs hT.2.1 hT.1.1 ?_
    intro _
    refine ⟨fun c => ?_, fun c => ?_⟩
    · cases m with
      | zero => exact q
      | succ m => unfold t_fn at q; rw [if_neg (by omega)] at q; exact q
    · obtain ⟨m', rfl⟩ : ∃ m', m = m' + 1 := ⟨m - 1, by omega⟩
      rw [sw_2k (by omega)]
      refine r_isBlankT hs hT ((t_lf_w T l).mpr (by omega)) (fun g => ?_) (fun g => ?_)
      · intro _
        refine ⟨fun _ => ?_, fun e => absurd e (by decide)⟩
        unfold t_fn at q
        rw [if_neg (fun c => c.2 g)] at q
        exact q
      · intro _
        refine ⟨fun e => absurd rfl e, fun _ => ?_⟩
        intro y e
        rw [sw_s1 (by omega)] at e
        subst e
        refine r_al_2 hs hT m' n (l + 1) (by omega) (by omega) (by omega) ?_
        unfold t_fn at q
        rw [if_pos ⟨by omega, g⟩] at q
        exact q
end
