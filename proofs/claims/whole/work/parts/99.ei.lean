/-! ===== isOneKey; leaves of a tree to which one is added ===== -/
noncomputable section
/-- leaf l stands in the tree -/
abbrev t_is (T : w_T) (l : Nat) : Prop := l < 2 ^ t_dp T ∧ t_ky T (2 * l) ≠ []
def t_one (T : w_T) : Prop := ∀ a b : Nat, b < a → t_is T a → t_is T b → t_ky T (2 * a) ≠ t_ky T (2 * b)
/-- how many leaves -/
def t_nl (T : w_T) : Nat := (List.range 16).countP (fun l => decide (t_is T l))
section
variable {T : w_T} {f : p_L} {l k n : Nat}
theorem t_fn_sp : ∀ (m l : Nat), (∀ j, l ≤ j → j < t_fn T m l → t_is T j) ∧ l ≤ t_fn T m l ∧ t_fn T m l ≤ l + m ∧ (t_fn T m l < l + m → ¬ t_is T (t_fn T m l))
  | 0, l => ⟨fun j h1 h2 => by have : t_fn T 0 l = l := rfl; omega, Nat.le_refl _, Nat.le_refl _, fun h => by have : t_fn T 0 l = l := rfl; omega⟩
  | m + 1, l => by
    unfold t_fn
    by_cases c : l < 2 ^ t_dp T ∧ t_ky T (2 * l) ≠ []
    · rw [if_pos c]
      obtain ⟨h1, h2, h3, h4⟩ := t_fn_sp m (l + 1)
      refine ⟨fun j g1 g2 => ?_, by omega, by omega, fun g => h4 (by omega)⟩
      rcases Nat.lt_or_ge l j with g | g
      · exact h1 j g g2
      · rw [show j = l by omega]; exact c
    · rw [if_neg c]
      exact ⟨fun j h1 h2 => by omega, Nat.le_refl _, by omega, fun _ => c⟩
theorem t_fl_sp : (∀ j, j < t_fl T → t_is T j) ∧ t_fl T ≤ 16 ∧ (t_fl T < 16 → ¬ t_is T (t_fl T)) := by
  obtain ⟨h1, h2, h3, h4⟩ := t_fn_sp (T := T) 16 0
  exact ⟨fun j hj => h1 j (by omega) hj, by unfold t_fl; omega, fun h => h4 (by unfold t_fl at h; omega)⟩
theorem t_add_dp : t_dp (t_add T f) = t_dp (t_room T (t_fl T)) := t_un_dp _
theorem t_add_ky : t_ky (t_add T f) = fu (t_ky (t_room T (t_fl T))) (2 * t_fl T) f.2.1 := t_un_ky _
theorem t_is_16 (hd : t_dp T ≤ 4) (h : t_is T l) : l < 16 := by
  have : 2 ^ t_dp T ≤ 2 ^ 4 := Nat.pow_le_pow_right (by decide) hd
  have := h.1
  omega
theorem t_add_is (hd : t_dp T ≤ 4) (hl : t_fl T < 16) (hf : f.2.1 ≠ []) : t_is (t_add T f) l ↔ l = t_fl T ∨ t_is T l := by
  have hr := t_room_dp hd hl
  have hle := t_fl_le (T := T)
  unfold t_is
  rw [t_add_dp, t_add_ky]
  by_cases c : l = t_fl T
  · subst c
    rw [fu_eq]
    exact ⟨fun _ => Or.inl rfl, fun _ => ⟨hr.2, hf⟩⟩
  · rw [fu_ne (by omega)]
    by_cases c2 : t_fl T = 2 ^ t_dp T
    · have er : t_room T (t_fl T) = t_gr T := by unfold t_room; rw [if_pos c2]
      rw [er]
      have ek : t_ky (t_gr T) (2 * l) = if 2 * l < t_w T then t_ky T (2 * l) else [] := rfl
      have ed : t_dp (t_gr T) = t_dp T + 1 := rfl
      rw [ek, ed]
      by_cases c3 : l < 2 ^ t_dp T
      · rw [if_pos ((t_lf_w T l).mpr c3)]
        exact ⟨fun g => Or.inr ⟨c3, g.2⟩, fun g => ⟨by rw [Nat.pow_succ]; omega, (g.resolve_left c).2⟩⟩
      · rw [if_neg (fun g => c3 ((t_lf_w T l).mp g))]
        exact ⟨fun g => absurd rfl g.2, fun g => absurd (g.resolve_left c).1 c3⟩
    · have er : t_room T (t_fl T) = T := by unfold t_room; rw [if_neg c2]
      rw [er]
      exact ⟨fun g => Or.inr g, fun g => g.resolve_left c⟩
theorem t_add_k (h : t_is T l) (hd : t_dp T ≤ 4) (hl : t_fl T < 16) : t_ky (t_add T f) (2 * l) = t_ky T (2 * l) := by
  have hne : l ≠ t_fl T := fun c => t_fl_sp.2.2 hl (c ▸ h)
  rw [t_add_ky, fu_ne (by omega)]
  unfold t_room
  by_cases c2 : t_fl T = 2 ^ t_dp T
  · rw [if_pos c2]
    show (if 2 * l < t_w T then t_ky T (2 * l) else []) = _
    rw [if_pos ((t_lf_w T l).mpr h.1)]
  · rw [if_neg c2]
theorem t_add_kf : t_ky (t_add T f) (2 * t_fl T) = f.2.1 := by rw [t_add_ky, fu_eq]
theorem n_cnt {p p' : Nat → Bool} {a : Nat} (ha : p a = false) (ha' : p' a = true) (h : ∀ l, l ≠ a → p' l = p l) : ∀ n, (List.range n).countP p' = (List.range n).countP p + (if a < n then 1 else 0)
  | 0 => by simp
  | n + 1 => by
    rw [List.range_succ, List.countP_append, List.countP_append, n_cnt ha ha' h n]
    by_cases c : n = a
    · subst c
      rw [if_neg (by omega), if_pos (by omega)]
      simp [List.countP_cons, ha, ha']
    · have := h n c
      have e1 : (if a < n + 1 then 1 else 0) = (if a < n then 1 else 0) := by
        by_cases d : a < n
        · rw [if_pos d, if_pos (by omega)]
        · rw [if_neg d, if_neg (by omega)]
      rw [e1]
      simp only [List.countP_cons, List.countP_nil, this]
      omega
theorem t_nl_add (hd : t_dp T ≤ 4) (hl : t_fl T < 16) (hf : f.2.1 ≠ []) : t_nl (t_add T f) = t_nl T + 1 := by
  unfold t_nl
  rw [n_cnt (a := t_fl T) (p := fun l => decide (t_is T l)) ?_ ?_ ?_ 16, if_pos hl]
  · exact decide_eq_false (t_fl_sp.2.2 hl)
  · exact decide_eq_true ((t_add_is hd hl hf).mpr (Or.inl rfl))
  · intro l hne
    have := t_add_is (l := l) hd hl hf
    by_cases c : t_is T l
    · rw [decide_eq_true c, decide_eq_true (this.mpr (Or.inr c))]
    · rw [decide_eq_false c, decide_eq_false (fun g => (this.mp g).elim hne c)]
theorem t_nl_le : t_nl T ≤ 16 := by
  unfold t_nl
  have := List.countP_le_length (p := fun l => decide (t_is T l)) (l := List.range 16)
  rw [List.length_range] at this
  exact this
theorem t_nl_fl : t_nl T < 16 ↔ t_fl T < 16 := by
  obtain ⟨h1, h2, h3⟩ := t_fl_sp (T := T)
  constructor
  · intro h
    rcases Nat.lt_or_ge (t_fl T) 16 with g | g
    · exact g
    · exfalso
      have : t_nl T = 16 := by
        unfold t_nl
        have := List.countP_eq_length (p := fun l => decide (t_is T l)) (l := List.range 16)
        rw [List.length_range] at this
        refine this.mpr (fun l hl => decide_eq_true (h1 l ?_))
        have := List.mem_range.mp hl
        omega
      omega
  · intro h
    have hle := t_nl_le (T := T)
    rcases Nat.lt_or_ge (t_nl T) 16 with g | g
    · exact g
    · exfalso
      have e : t_nl T = 16 := by omega
      unfold t_nl at e
      have := List.countP_eq_length (p := fun l => decide (t_is T l)) (l := List.range 16)
      rw [List.length_range] at this
      have := this.mp e (t_fl T) (List.mem_range.mpr h)
      exact h3 h (of_decide_eq_true this)
theorem t_one_add (hd : t_dp T ≤ 4) (hl : t_fl T < 16) (hf : f.2.1 ≠ []) : t_one (t_add T f) ↔ t_one T ∧ ∀ l, t_is T l → t_ky T (2 * l) ≠ f.2.1 := by
  have hi := fun l => t_add_is (l := l) hd hl hf
  have nf := t_fl_sp.2.2 hl
  constructor
  · intro h
    refine ⟨fun a b hab ha hb => ?_, fun l hl2 c => ?_⟩
    · have := h a b hab ((hi a).mpr (Or.inr ha)) ((hi b).mpr (Or.inr hb))
      rw [t_add_k ha hd hl, t_add_k hb hd hl] at this
      exact this
    · have ne : l ≠ t_fl T := fun c => nf (c ▸ hl2)
      rcases Nat.lt_or_ge l (t_fl T) with g | g
      · refine h (t_fl T) l g ((hi _).mpr (Or.inl rfl)) ((hi _).mpr (Or.inr hl2)) ?_
        rw [t_add_kf, t_add_k hl2 hd hl, c]
      · refine h l (t_fl T) (by omega) ((hi _).mpr (Or.inr hl2)) ((hi _).mpr (Or.inl rfl)) ?_
        rw [t_add_kf, t_add_k hl2 hd hl, c]
  · rintro ⟨h1, h2⟩ a b hab ha hb
    rcases (hi a).mp ha with rfl | ha2
    · rcases (hi b).mp hb with rfl | hb2
      · omega
      · rw [t_add_kf, t_add_k hb2 hd hl]
        exact fun c => h2 b hb2 c.symm
    · rcases (hi b).mp hb with rfl | hb2
      · rw [t_add_kf, t_add_k ha2 hd hl]
        exact h2 a ha2
      · rw [t_add_k ha2 hd hl, t_add_k hb2 hd hl]
        exact h1 a b hab ha2 hb2
end
variable {I J X : sr_V} {nn s u k h : Nat} {K K' : Wt → Prop} {tl mk mm l : List Wt} {a b c y n m : Int} {Q : Int → sr_V → Prop} {R : sr_V → Prop} {x i e : Nat} {T T' T'' : w_T}
theorem w_az_at {z : Int} {w : Wt} (h : w_az mk z w) (hw : w ≠ []) : w_at mk z w := h.resolve_left (fun c => hw c.2)
theorem m_tr_key (hT : m_tr I mk s T) (hx : x < t_w T) (hk : t_ky T x ≠ []) : w_at mk (I 37 (31 * s + x)) (t_ky T x) := w_az_at (hT.2.2.1 x hx).2.1 hk
theorem r_ok_9 {k2 : Int → Int → sr_V → Prop} (hs : s < 49) (nd : mk.Nodup) (hT : m_tr I mk s T) {a : Nat} (ha : a < 2 ^ t_dp T) (q1 : (∀ b, b < a → t_is T a → t_is T b → t_ky T (2 * a) ≠ t_ky T (2 * b)) → k2 s ((a + 1 : Nat) : Int) I) (q0 : (¬ ∀ b, b < a → t_is T a → t_is T b → t_ky T (2 * a) ≠ t_ky T (2 * b)) → Q 0 I) : ∀ (n b : Nat), b ≤ a → a - b < n → (∀ j, j < b → t_is T a → t_is T j → t_ky T (2 * a) ≠ t_ky T (2 * j)) → rl_197_9 Q k2 n s a b I
  | 0, _, _, h, _ => by omega
  | n + 1, b, hb, hn, hp => by
    have d16 := t_d_16 hT.1.1
    have w31 := t_w_4 hT.1.1
    have haw := (t_lf_w T a).mpr ha
    unfold rl_197_9
    refine ⟨fun c => ?_, fun c => ?_⟩
    · intro y ey
      rw [sw_s1 (by omega)] at ey
      subst ey
      exact q1 (fun j hj => hp j (by omega))
    · have hbw := (t_lf_w T b).mpr (by omega)
      have next : (t_is T a → t_is T b → t_ky T (2 * a) ≠ t_ky T (2 * b)) → rb_197_47 Q k2 (rl_197_9 Q k2 n) s a b I := fun hx => by
        unfold rb_197_47
        intro y ey
        rw [sw_s1 (by omega)] at ey
        subst ey
        exact r_ok_9 hs nd hT ha q1 q0 n (b + 1) (by omega) (by omega) (fun j hj => by
          rcases Nat.lt_or_ge j b with g | g
          · exact hp j g
          · rw [show j = b by omega]; exact hx)
      rw [sw_2k (by omega), sw_2k (by omega)]
      refine r_isBlankT hs hT haw (fun g => ?_) (fun g => ?_)
      · intro _
        exact ⟨fun _ => next (fun c => absurd g c.2), fun e => absurd e (by decide)⟩
      · intro _
        refine ⟨fun e => absurd rfl e, fun _ => ?_⟩
        refine r_isBlankT hs hT hbw (fun g2 => ?_) (fun g2 => ?_)
        · intro _
          exact ⟨fun _ => next (fun _ c => absurd g2 c.2), fun e => absurd e (by decide)⟩
        · intro _
          refine ⟨fun e => absurd rfl e, fun _ => ?_⟩
          refine r_spot hs (by omega) ?_
          intro _
          refine ⟨by omega, by omega, ?_⟩
          intro v ev _
          refine r_spot hs (by omega) ?_
          intro _
          refine ⟨by omega, by omega, ?_⟩
          intro w ew _
          rw [Int.toNat_natCast] at ev ew
          have ka := m_tr_key hT haw g
          have kb := m_tr_key hT hbw g2
          rw [← ev] at ka
          rw [← ew] at kb
          refine ⟨fun c4 => next (fun _ _ c => c4 (by rw [c] at ka; exact w_at_inj nd ka kb)), fun c4 => q0 (fun hh => hh b (by omega) ⟨ha, g⟩ ⟨by omega, g2⟩ (by rw [c4] at ka; exact w_at_fun ka kb))⟩
theorem r_ok_2 (hs : s < 49) (nd : mk.Nodup) (hT : m_tr I mk s T) (q1 : t_one T → Q 1 I) (q0 : ¬ t_one T → Q 0 I) : ∀ (n a : Nat), a ≤ 2 ^ t_dp T → 2 ^ t_dp T - a < n → (∀ i b, i < a → b < i → t_is T i → t_is T b → t_ky T (2 * i) ≠ t_ky T (2 * b)) → rl_197_2 Q n s a I
  | 0, _, _, h, _ => by omega
  | n + 1, a, ha, hn, hp => by
    unfold rl_197_2
    refine r_leafCount hs hT.2.1 hT.1.1 ?_
    intro _
    refine ⟨fun c => q1 (fun i b hib hi hb => hp i b (by have := hi.1; omega) hib hi hb), fun c => ?_⟩
    refine ⟨a + 1, r_ok_9 hs nd hT (a := a) (by omega) (fun h1 => ?_) (fun h1 => q0 (fun hh => h1 (fun b hb => hh a b hb))) _ 0 (by omega) (by omega) (fun j hj => by omega)⟩
    exact r_ok_2 hs nd hT q1 q0 n (a + 1) (by omega) (by omega) (fun i b hi => by
      rcases Nat.lt_or_ge i a with g | g
      · exact hp i b g
      · rw [show i = a by omega]; exact h1 b)
theorem r_isOneKey (hs : s < 49) (nd : mk.Nodup) (hT : m_tr I mk s T) (q1 : t_one T → Q 1 I) (q0 : ¬ t_one T → Q 0 I) : rm_197 s I Q := by
  have hp : 0 < 2 ^ t_dp T := Nat.two_pow_pos _
  unfold rm_197
  exact ⟨2 ^ t_dp T + 1, r_ok_2 hs nd hT q1 q0 _ 0 (by omega) (by omega) (fun i b hi => by omega)⟩
end
