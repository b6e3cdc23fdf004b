/-! ===== the reference: climbTree ===== -/
noncomputable section
/-- where the way of a leaf meets that of another -/
def e_mt (lf sd : Nat) : Nat → Nat → Nat
  | j, 0 => j
  | j, m + 1 => if t_ab lf j = t_ab sd j then j else e_mt lf sd (j + 1) m
/-- the path secret at a height -/
def e_ls (T : w_T) (lf : Nat) (p : Wt) (h0 : Nat) : Nat → Wt
  | 0 => p
  | j + 1 => @ite _ (h0 ≤ j ∧ t_ky T (t_ab lf j) ≠ []) (Classical.propDecidable _) (w_dr (e_ls T lf p h0 j) 4) (e_ls T lf p h0 j)
def e_cok (T : w_T) (lf : Nat) (p : Wt) (h0 : Nat) : Prop := t_ky T (t_ab lf h0) ≠ [] ∧ ∀ j, h0 ≤ j → j ≤ t_dp T → t_ky T (t_ab lf j) ≠ [] → w_p5 (w_dr (e_ls T lf p h0 j) 5) = t_ky T (t_ab lf j)
def e_clS (T : w_T) (lf : Nat) (p : Wt) (h0 : Nat) (v : Wt) : Prop := ∃ j, h0 ≤ j ∧ j ≤ t_dp T ∧ t_ky T (t_ab lf j) ≠ [] ∧ (v = w_dr (e_ls T lf p h0 j) 5 ∨ v = w_p5 (w_dr (e_ls T lf p h0 j) 5) ∨ v = w_dr (e_ls T lf p h0 j) 4)
/-- the height where they meet in this tree -/
def e_h (T : w_T) (lf sd : Nat) : Nat := e_mt lf sd 1 (t_dp T)
def e_cl (T : w_T) (lf sd : Nat) (p : Wt) : Prop := 1 ≤ t_dp T ∧ e_cok T lf p (e_h T lf sd)
section
variable {T : w_T} {lf sd j k h0 : Nat} {p : Wt}
theorem e_mt_at : ∀ (m j : Nat), j ≤ k → k < j + m → t_ab lf k = t_ab sd k → (∀ i, j ≤ i → i < k → t_ab lf i ≠ t_ab sd i) → e_mt lf sd j m = k
  | 0, j, h1, h2, _, _ => by omega
  | m + 1, j, h1, h2, h3, h4 => by
    unfold e_mt
    by_cases c : t_ab lf j = t_ab sd j
    · rw [if_pos c]
      rcases Nat.lt_or_ge j k with g | g
      · exact absurd c (h4 j (Nat.le_refl _) g)
      · omega
    · rw [if_neg c]
      have ne : k ≠ j := fun e => c (by rw [← e]; exact h3)
      exact e_mt_at m (j + 1) (by omega) (by omega) h3 (fun i hi hk => h4 i (by omega) hk)
theorem e_mt_ge : ∀ (m j : Nat), j ≤ e_mt lf sd j m
  | 0, j => Nat.le_refl _
  | m + 1, j => by
    unfold e_mt
    by_cases c : t_ab lf j = t_ab sd j
    · rw [if_pos c]; exact Nat.le_refl _
    · rw [if_neg c]; have := e_mt_ge m (j + 1); omega
theorem e_ls_1 (h : h0 ≤ j) (hk : t_ky T (t_ab lf j) ≠ []) : e_ls T lf p h0 (j + 1) = w_dr (e_ls T lf p h0 j) 4 := if_pos ⟨h, hk⟩
theorem e_ls_0 (hk : t_ky T (t_ab lf j) = []) : e_ls T lf p h0 (j + 1) = e_ls T lf p h0 j := if_neg (fun c => c.2 hk)
theorem e_ls_lo : ∀ {j : Nat}, j ≤ h0 → e_ls T lf p h0 j = p
  | 0, _ => rfl
  | j + 1, h => by
    have : e_ls T lf p h0 (j + 1) = e_ls T lf p h0 j := if_neg (fun c => by omega)
    rw [this]
    exact e_ls_lo (by omega)
theorem t_ab_tt : ∀ d : Fin 5, ∀ l : Fin 16, ∀ p : Fin 16, l.val < 2 ^ d.val → p.val < 2 ^ d.val → t_ab l.val d.val = t_ab p.val d.val := by decide +kernel
end
/-- what climbing touches -/
def m_pct (T : w_T) (lf h0 f k : Nat) : Prop := m_p2 f k ∨ (f = 44 ∧ ∃ j, h0 ≤ j ∧ j ≤ t_dp T ∧ t_ky T (t_ab lf j) ≠ [] ∧ k = 1488 + t_ab lf j)
variable {I I0 J X : sr_V} {nn lf sd h0 : Nat} {K S : Wt → Prop} {tl mk m0 mm : List Wt} {Q : Int → sr_V → Prop} {T : w_T} {p : Wt} {x3 : Int}
theorem m_tr_pct (h : m_tr I mk 48 T) (g : m_gp (m_pct T lf h0) I J) (hle : w_le mk mm) : m_tr J mm 48 T := by
  have ef : ∀ f, f = 31 ∨ (36 ≤ f ∧ f ≤ 43) → J f = I f := fun f hf => funext (fun k => g f k (by unfold m_pct m_p2; omega))
  refine m_tr_le ?_ hle
  unfold m_tr at h ⊢
  rw [ef 31 (by decide), ef 36 (by decide), ef 37 (by decide), ef 38 (by decide), ef 39 (by decide), ef 40 (by decide), ef 41 (by decide), ef 42 (by decide), ef 43 (by decide)]
  exact h
theorem r_ct_27 (hl : lf < 2 ^ t_dp T) (ht : m_tr I0 m0 48 T) (hh1 : 1 ≤ h0) (hS : ∀ v, e_clS T lf p h0 v → S v) (q1 : ∀ J mm, e_cok T lf p h0 → w_mo S m0 mm → m_bS S mm → m_L J mm nn K tl → (∀ j, h0 ≤ j → j ≤ t_dp T → t_ky T (t_ab lf j) ≠ [] → w_at mm (J 44 (1488 + t_ab lf j)) (w_dr (e_ls T lf p h0 j) 5)) → m_gp (m_pct T lf h0) I0 J → Q 1 J) (q0 : ∀ J mm, ¬ e_cok T lf p h0 → w_mo S m0 mm → m_bS S mm → m_L J mm nn K tl → m_gp (m_pct T lf h0) I0 J → Q 0 J) : ∀ (n j : Nat) {I : sr_V} {mq : List Wt} {x5 x6 x7 x4 : Int}, w_mo S m0 mq → m_bS S mq → m_L I mq nn K tl → m_gp (m_pct T lf h0) I0 I → w_at mq x5 (e_ls T lf p h0 j) → h0 ≤ j → (j = h0 → x6 = 1) → (h0 < j → x6 = 0 ∧ t_ky T (t_ab lf h0) ≠ []) → ((x7 = 0 ∧ j = t_dp T + 1 ∧ h0 < j) ∨ (x7 = 1 ∧ j ≤ t_dp T ∧ x4 = ((t_ab lf j : Nat) : Int))) → (∀ i, h0 ≤ i → i < j → t_ky T (t_ab lf i) ≠ [] → w_p5 (w_dr (e_ls T lf p h0 i) 5) = t_ky T (t_ab lf i) ∧ w_at mq (I 44 (1488 + t_ab lf i)) (w_dr (e_ls T lf p h0 i) 5)) → t_dp T + 1 - j < n → rl_239_27 Q n x4 x5 x6 x7 I
  | 0, _, _, _, _, _, _, _, _, _, _, _, _, _, _, _, _, _, h => by omega
  | n + 1, j, I, mq, x5, x6, x7, x4, mo, hb, hL, gI, hx5, hj, hf1, hf0, hx7, inv, hn => by
    have h4 := ht.1.1
    have d16 := t_d_16 h4
    have w31 := t_w_4 h4
    unfold rl_239_27
    refine ⟨fun c => ?_, fun c => ?_⟩
    · obtain ⟨ej, hj2⟩ : j = t_dp T + 1 ∧ h0 < j := by
        rcases hx7 with h | h
        · exact h.2
        · omega
      exact q1 I mq ⟨(hf0 hj2).2, fun i i1 i2 i3 => (inv i i1 (by omega) i3).1⟩ mo hb hL (fun i i1 i2 i3 => (inv i i1 (by omega) i3).2) gI
    obtain ⟨jd, ex4⟩ : j ≤ t_dp T ∧ x4 = ((t_ab lf j : Nat) : Int) := by
      rcases hx7 with h | h
      · exact absurd h.1 c
      · exact h.2
    subst ex4
    have jw := t_ab_w (T := T) (k := lf) (h := j) h4 hl jd
    have tI : m_tr I mq 48 T := m_tr_pct ht gI mo.1
    -- behind this height
    have bh : ∀ {J : sr_V} {mj : List Wt} {y5 : Int}, w_mo S m0 mj → m_bS S mj → m_L J mj nn K tl → m_gp (m_pct T lf h0) I0 J → w_at mj y5 (e_ls T lf p h0 (j + 1)) → t_ky T (t_ab lf h0) ≠ [] → (∀ i, h0 ≤ i → i < j + 1 → t_ky T (t_ab lf i) ≠ [] → w_p5 (w_dr (e_ls T lf p h0 i) 5) = t_ky T (t_ab lf i) ∧ w_at mj (J 44 (1488 + t_ab lf i)) (w_dr (e_ls T lf p h0 i) 5)) → rb_239_73 Q (rl_239_27 Q n) ((t_ab lf j : Nat) : Int) y5 J := fun {J mj y5} a1 a2 a3 a4 a5 a6 a7 => by
      have tJ : m_tr J mj 48 T := m_tr_pct ht a4 a1.1
      unfold rb_239_73
      refine r_top (s := 48) (by decide) tJ.2.1 h4 ?_
      intro _
      have top := t_ab_top (T := T) (k := lf) (h := j) h4 hl jd
      refine ⟨fun c2 => ?_, fun c2 => ?_⟩
      · have ejd := top.mp c2
        unfold rb_239_83
        refine ⟨fun _ => ?_, fun c => absurd rfl c⟩
        exact r_ct_27 hl ht hh1 hS q1 q0 n (j + 1) a1 a2 a3 a4 a5 (by omega) (fun e => by omega) (fun _ => ⟨rfl, a6⟩) (Or.inl ⟨rfl, by omega, by omega⟩) a7 (by omega)
      · have jl : j < t_dp T := by
          rcases Nat.lt_or_ge j (t_dp T) with g | g
          · exact g
          · exact absurd (top.mpr (by omega)) c2
        unfold rb_239_83
        refine ⟨fun c => absurd c (by decide), fun _ => ?_⟩
        refine r_above (by omega) (by omega) ?_
        intro _
        exact r_ct_27 hl ht hh1 hS q1 q0 n (j + 1) a1 a2 a3 a4 a5 (by omega) (fun e => by omega) (fun _ => ⟨rfl, a6⟩) (Or.inr ⟨rfl, by omega, rfl⟩) a7 (by omega)
    have mid : t_ky T (t_ab lf h0) ≠ [] → rb_239_43 Q (rl_239_27 Q n) ((t_ab lf j : Nat) : Int) x5 ((31 * 48 + t_ab lf j : Nat) : Int) I := fun hk0 => by
      unfold rb_239_43
      refine r_isBlankT (s := 48) (by decide) tI jw (fun g => ?_) (fun g => ?_)
      · intro _
        refine ⟨fun _ => bh mo hb hL gI (by rw [e_ls_0 g]; exact hx5) hk0 (fun i i1 i2 i3 => inv i i1 ?_ i3), fun c => absurd c (by decide)⟩
        rcases Nat.lt_or_ge i j with g2 | g2
        · exact g2
        · exfalso
          rw [show i = j by omega] at i3
          exact i3 g
      intro _
      refine ⟨fun c => absurd rfl c, fun _ => ?_⟩
      refine r_derS (S := S) (j := 5) hb hL hx5 rfl (by decide) (hS _ ⟨j, hj, jd, g, Or.inl rfl⟩) (fun t1 J1 m1 mo1 b1 L1 a1 f1 => ?_)
      intro _
      refine r_pubS (S := S) b1 L1 a1 (hS _ ⟨j, hj, jd, g, Or.inr (Or.inl rfl)⟩) (fun t2 J2 m2 mo2 b2 L2 a2 f2 => ?_)
      intro _
      have g2 : m_gp m_p2 I J2 := m_gp_trans (m_f1_gp f1) (m_f1_gp f2)
      have mo12 := w_mo_trans mo1 mo2
      refine ⟨by omega, by omega, ?_⟩
      intro v50 e50 _
      rw [Int.toNat_natCast, g2 37 _ (by unfold m_p2; omega)] at e50
      have ky := w_az_ne (tI.2.2.1 _ jw).2.1 g
      rw [← e50] at ky
      have ky2 := w_le_at mo12.1 ky
      have gJ2 : m_gp (m_pct T lf h0) I0 J2 := m_gp_trans gI (m_gp_sub g2 (fun f k p => Or.inl p))
      refine ⟨fun c3 => ⟨by omega, by omega, ?_⟩, fun c3 => q0 J2 m2 (fun h => c3 ?_) (w_mo_trans mo mo12) b2 L2 gJ2⟩
      rotate_left
      · rw [← h.2 j hj jd g] at ky2
        exact w_at_inj (m_L_nd L2) a2 ky2
      have eky : w_p5 (w_dr (e_ls T lf p h0 j) 5) = t_ky T (t_ab lf j) := by
        rw [c3] at a2
        exact w_at_fun a2 ky2
      intro I54 e54
      rw [Int.toNat_natCast] at e54
      have g54 : m_gp (fun f k => f = 44 ∧ k = 31 * 48 + t_ab lf j) J2 I54 := by rw [e54]; exact m_gp_su _ _ _ _
      have v54 : I54 44 (31 * 48 + t_ab lf j) = t1 := by rw [e54, su_eq]
      have L54 := m_L_gp L2 g54 (fun f k p => by omega)
      have gJ54 : m_gp (m_pct T lf h0) I0 I54 := m_gp_trans gJ2 (m_gp_sub g54 (fun f k p => Or.inr ⟨p.1, j, hj, jd, g, by omega⟩))
      refine r_derS (S := S) (j := 4) b2 L54 (w_le_at mo12.1 hx5) rfl (by decide) (hS _ ⟨j, hj, jd, g, Or.inr (Or.inr rfl)⟩) (fun t4 J4 m4 mo4 b4 L4 a4 f4 => ?_)
      intro _
      have gJ4 : m_gp (m_pct T lf h0) I0 J4 := m_gp_trans gJ54 (m_gp_sub (m_f1_gp f4) (fun f k p => Or.inl p))
      refine bh (w_mo_trans mo (w_mo_trans mo12 mo4)) b4 L4 gJ4 (by rw [e_ls_1 hj g]; exact a4) hk0 (fun i i1 i2 i3 => ?_)
      by_cases e : i = j
      · subst e
        refine ⟨eky, ?_⟩
        rw [m_f1_gp f4 44 _ (by unfold m_p2; omega), show 1488 + t_ab lf i = 31 * 48 + t_ab lf i by omega, v54]
        exact w_le_at mo4.1 (w_le_at mo2.1 a1)
      · obtain ⟨y1, y2⟩ := inv i i1 (by omega) i3
        refine ⟨y1, ?_⟩
        have ne : t_ab lf i ≠ t_ab lf j := fun c => e (t_ab_inj (l := lf) (by omega) (by omega) (by omega) c)
        rw [m_f1_gp f4 44 _ (by unfold m_p2; omega), g54 44 _ (by omega), g2 44 _ (by unfold m_p2; omega)]
        exact w_le_at mo4.1 (w_le_at mo12.1 y2)
    refine r_spot (s := 48) (by decide) (by omega) ?_
    intro _
    refine ⟨fun c1 => ?_, fun c1 => ?_⟩
    · have : h0 < j := by
        rcases Nat.lt_or_ge h0 j with g | g
        · exact g
        · have := hf1 (by omega)
          omega
      exact mid (hf0 this).2
    · have ej : j = h0 := by
        rcases Nat.lt_or_ge h0 j with g | g
        · exact absurd (hf0 g).1 c1
        · omega
      refine r_isBlankT (s := 48) (by decide) tI jw (fun g => ?_) (fun g => ?_)
      · intro _
        exact ⟨fun c => absurd c (by decide), fun _ => q0 I mq (fun h => h.1 (by rw [← ej]; exact g)) mo hb hL gI⟩
      · intro _
        exact ⟨fun _ => mid (by rw [← ej]; exact g), fun c => absurd rfl c⟩
theorem r_ct_12 (hl : lf < 2 ^ t_dp T) (hsd : sd < 2 ^ t_dp T) (ht : m_tr I mk 48 T) (hd1 : 1 ≤ t_dp T) (hL : m_L I mk nn K tl) (hb : m_bS S mk) (hx3 : w_at mk x3 p) (hS : ∀ v, e_clS T lf p (e_h T lf sd) v → S v) (q1 : ∀ J mm, e_cl T lf sd p → w_mo S mk mm → m_bS S mm → m_L J mm nn K tl → (∀ j, e_h T lf sd ≤ j → j ≤ t_dp T → t_ky T (t_ab lf j) ≠ [] → w_at mm (J 44 (1488 + t_ab lf j)) (w_dr (e_ls T lf p (e_h T lf sd) j) 5)) → m_gp (m_pct T lf (e_h T lf sd)) I J → Q 1 J) (q0 : ∀ J mm, ¬ e_cl T lf sd p → w_mo S mk mm → m_bS S mm → m_L J mm nn K tl → m_gp (m_pct T lf (e_h T lf sd)) I J → Q 0 J) : ∀ (n j : Nat), 1 ≤ j → j ≤ t_dp T → t_dp T - j < n → (∀ i, 1 ≤ i → i < j → t_ab lf i ≠ t_ab sd i) → rl_239_12 Q n sd x3 ((t_ab lf j : Nat) : Int) I
  | 0, _, _, _, h, _ => by omega
  | n + 1, j, h1, h2, hn, inv => by
    have h4 := ht.1.1
    have d16 := t_d_16 h4
    have w31 := t_w_4 h4
    have jw := t_ab_w (T := T) (k := lf) (h := j) h4 hl h2
    have hwh : w_h (t_ab lf j) = j := (w_h_ab ⟨lf, by omega⟩ ⟨j, by omega⟩).1
    unfold rl_239_12
    refine r_isBelow (p := sd) (by omega) (by omega) (by rw [hwh]; omega) (fun i hi => by rw [hwh] at hi; have := t_ab_w (T := T) (k := sd) (h := i) h4 hsd (by omega); omega) (fun g => ?_) (fun g => ?_)
    · intro _
      rw [hwh] at g
      have eh : e_h T lf sd = j := e_mt_at (t_dp T) 1 h1 (by omega) g.symm inv
      refine ⟨fun _ => ⟨t_dp T + 2, ?_⟩, fun c => absurd c (by decide)⟩
      rw [eh] at hS q1 q0
      exact r_ct_27 hl ht h1 hS (fun J mm a1 => q1 J mm ⟨hd1, by rw [eh]; exact a1⟩) (fun J mm a1 => q0 J mm (fun h => a1 (by have := h.2; rw [eh] at this; exact this))) _ j w_mo_refl hb hL (m_gp_refl _ _) (by rw [e_ls_lo (Nat.le_refl _)]; exact hx3) (Nat.le_refl _) (fun _ => rfl) (fun c => by omega) (Or.inr ⟨rfl, h2, rfl⟩) (fun i i1 i2 => by omega) (by omega)
    · intro _
      rw [hwh] at g
      refine ⟨fun c => absurd rfl c, fun _ => ?_⟩
      have jl : j < t_dp T := by
        rcases Nat.lt_or_ge j (t_dp T) with c | c
        · exact c
        · exfalso
          have := t_ab_tt ⟨t_dp T, by omega⟩ ⟨lf, by omega⟩ ⟨sd, by omega⟩ hl hsd
          have : t_ab lf (t_dp T) = t_ab sd (t_dp T) := this
          rw [show j = t_dp T by omega] at g
          exact g this.symm
      refine r_above (by omega) (by omega) ?_
      intro _
      refine r_ct_12 hl hsd ht hd1 hL hb hx3 hS q1 q0 n (j + 1) (by omega) (by omega) (by omega) (fun i i1 i2 => ?_)
      by_cases e : i = j
      · rw [e]; exact fun c => g c.symm
      · exact inv i i1 (by omega)
theorem r_climbTree (hl : lf < 2 ^ t_dp T) (hsd : sd < 2 ^ t_dp T) (ht : m_tr I mk 48 T) (hL : m_L I mk nn K tl) (hb : m_bS S mk) (hx3 : w_at mk x3 p) (hS : ∀ v, e_clS T lf p (e_h T lf sd) v → S v) (q1 : ∀ J mm, e_cl T lf sd p → w_mo S mk mm → m_bS S mm → m_L J mm nn K tl → (∀ j, e_h T lf sd ≤ j → j ≤ t_dp T → t_ky T (t_ab lf j) ≠ [] → w_at mm (J 44 (1488 + t_ab lf j)) (w_dr (e_ls T lf p (e_h T lf sd) j) 5)) → m_gp (m_pct T lf (e_h T lf sd)) I J → Q 1 J) (q0 : ∀ J mm, ¬ e_cl T lf sd p → w_mo S mk mm → m_bS S mm → m_L J mm nn K tl → m_gp (m_pct T lf (e_h T lf sd)) I J → Q 0 J) : rm_239 lf sd x3 I Q := by
  have h4 := ht.1.1
  have d16 := t_d_16 h4
  unfold rm_239
  refine ⟨by decide, ?_⟩
  intro v117 e117 _
  rw [ht.2.1] at e117
  refine ⟨fun c => ?_, fun c => q0 I mk (fun h => by have := h.1; omega) w_mo_refl hb hL (m_gp_refl _ _)⟩
  rw [sw_2k (by omega), ← t_ab_0]
  refine r_above (by omega) (by decide) ?_
  intro _
  exact ⟨t_dp T + 1, r_ct_12 hl hsd ht (by omega) hL hb hx3 hS q1 q0 _ 1 (Nat.le_refl _) (by omega) (by omega) (fun i i1 i2 => by omega)⟩
end
