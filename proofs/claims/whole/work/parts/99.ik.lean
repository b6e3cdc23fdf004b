/-! ===== trees that were read: when they are sound; the reference: isOneMember, isMergedRight, isSideSound, isSound ===== -/
noncomputable section
/-- no member has two leaves -/
def t_onm (T : w_T) : Prop := ∀ a b : Nat, b < a → t_is T a → t_is T b → t_ow T a ≠ t_ow T b
/-- the unmerged leaves of a node stand in the tree, below it, and are unmerged in between -/
def t_mg (T : w_T) (x : Nat) : Prop := ∀ b, b < 16 → w_bit (t_um T x) b = 1 → t_is T b ∧ t_ab b (w_h x) = x ∧ ∀ j, 1 ≤ j → j < w_h x → t_ky T (t_ab b j) ≠ [] → w_bit (t_um T (t_ab b j)) b = 1
/-- what a side comes down to -/
def t_kp (T : w_T) (x : Nat) (y : Nat) : Bool := decide (¬ (y % 2 = 0 ∧ w_bit (t_um T x) (y / 2) = 1))
def t_rf (T : w_T) (x c : Nat) : List Nat := (w_rs T (w_h c) c).filter (t_kp T x)
def t_ss (T : w_T) (x c o : Nat) : Prop := ∃ y, t_rf T x c = [y] ∧ t_ph T y ≠ [] ∧ t_ph T y = w_wt T x o
/-- the sides of a node -/
def t_lch (x : Nat) : Nat := x - 2 ^ (w_h x - 1)
def t_rch (x : Nat) : Nat := x + 2 ^ (w_h x - 1)
def t_snx (T : w_T) (x : Nat) : Prop := t_mg T x ∧ (t_ss T x (t_lch x) (t_rch x) ∨ t_ss T x (t_rch x) (t_lch x))
def t_snd (T : w_T) : Prop := t_one T ∧ t_onm T ∧ ∀ x, x < t_w T → x % 2 = 1 → t_ky T x ≠ [] → t_snx T x
/-- what is made to see it -/
def t_sS (T : w_T) (v : Wt) : Prop := ∃ x o, x < t_w T ∧ x % 2 = 1 ∧ t_ky T x ≠ [] ∧ (∀ x', x' < x → x' % 2 = 1 → t_ky T x' ≠ [] → t_snx T x') ∧ (o = t_rch x ∨ (o = t_lch x ∧ ¬ t_ss T x (t_lch x) (t_rch x))) ∧ (v = w_wt T x o ∨ ∃ y ∈ w_ordk (w_h o) o (w_h o + 1) 0, v = w_th T (t_um T x) y)
section
variable {T : w_T} {x y c : Nat}
theorem w_h_le : ∀ d : Fin 5, ∀ x : Fin 31, x.val < 2 ^ (d.val + 1) - 1 → w_h x.val ≤ d.val ∧ (x.val % 2 = 1 → 1 ≤ w_h x.val) := by decide +kernel
theorem t_h_le (h4 : t_dp T ≤ 4) (hx : x < t_w T) : w_h x ≤ t_dp T ∧ (x % 2 = 1 → 1 ≤ w_h x) := by
  have w31 := t_w_4 h4
  exact w_h_le ⟨t_dp T, by omega⟩ ⟨x, by omega⟩ hx
theorem t_sd_k : ∀ d : Fin 5, ∀ x : Fin 31, x.val < 2 ^ (d.val + 1) - 1 → x.val % 2 = 1 → w_h (t_lch x.val) = w_h x.val - 1 ∧ w_h (t_rch x.val) = w_h x.val - 1 ∧ 2 ^ w_h (t_lch x.val) ≤ t_lch x.val + 1 ∧ t_lch x.val + 2 ^ w_h (t_lch x.val) ≤ 2 ^ (d.val + 1) - 1 ∧ 2 ^ w_h (t_rch x.val) ≤ t_rch x.val + 1 ∧ t_rch x.val + 2 ^ w_h (t_rch x.val) ≤ 2 ^ (d.val + 1) - 1 := by decide +kernel
theorem t_sd (h4 : t_dp T ≤ 4) (hx : x < t_w T) (ho : x % 2 = 1) : w_h (t_lch x) = w_h x - 1 ∧ w_h (t_rch x) = w_h x - 1 ∧ 2 ^ w_h (t_lch x) ≤ t_lch x + 1 ∧ t_lch x + 2 ^ w_h (t_lch x) ≤ t_w T ∧ 2 ^ w_h (t_rch x) ≤ t_rch x + 1 ∧ t_rch x + 2 ^ w_h (t_rch x) ≤ t_w T := by
  have w31 := t_w_4 h4
  exact t_sd_k ⟨t_dp T, by omega⟩ ⟨x, by omega⟩ hx ho
theorem w_rs_31 (ht : t_ok T) : ∀ (h x : Nat), w_h x = h → x + 2 ^ h ≤ t_w T → ∀ y ∈ w_rs T h x, y < 31 ∧ ((y < t_w T ∧ t_ky T y ≠ []) ∨ ∃ z ∈ w_rs T h x, z % 2 = 1 ∧ z < t_w T ∧ t_ky T z ≠ []) := by
  have w31 := t_w_4 ht.1
  have full : ∀ x, x < t_w T → t_ky T x ≠ [] → ∀ y ∈ x :: w_uml (t_um T x) 16, y < 31 ∧ ((y < t_w T ∧ t_ky T y ≠ []) ∨ ∃ z ∈ x :: w_uml (t_um T x) 16, z % 2 = 1 ∧ z < t_w T ∧ t_ky T z ≠ []) := fun x hx hk y hy => by
    rcases List.mem_cons.mp hy with c | c
    · subst c; exact ⟨by omega, Or.inl ⟨hx, hk⟩⟩
    · obtain ⟨b, b1, b2, b3⟩ := w_uml_in 16 c
      refine ⟨by omega, Or.inr ⟨x, List.mem_cons_self .., ?_, hx, hk⟩⟩
      rcases Nat.mod_two_eq_zero_or_one x with g | g
      · rw [(ht.2.1 x hx).2.2.1 g] at b3
        have : w_bit 0 b = 0 := by unfold w_bit; simp
        omega
      · exact g
  intro h
  induction h with
  | zero =>
    intro x e hx y hy
    have e0 : w_rs T 0 x = if t_ky T x = [] then [] else x :: w_uml (t_um T x) 16 := rfl
    rw [e0] at hy ⊢
    by_cases c : t_ky T x = []
    · rw [if_pos c] at hy; cases hy
    · rw [if_neg c] at hy ⊢
      exact full x (by have : 2 ^ 0 = 1 := rfl; omega) c y hy
  | succ h ih =>
    intro x e hx y hy
    have hp1 : 0 < 2 ^ h := Nat.two_pow_pos _
    have hp2 : 2 ^ (h + 1) = 2 * 2 ^ h := by rw [Nat.pow_succ]; omega
    have e0 : w_rs T (h + 1) x = if t_ky T x = [] then w_rs T h (x - 2 ^ h) ++ w_rs T h (x + 2 ^ h) else x :: w_uml (t_um T x) 16 := rfl
    rw [e0] at hy ⊢
    by_cases c : t_ky T x = []
    · rw [if_pos c] at hy ⊢
      obtain ⟨k1, k2, k3⟩ := w_h_kid (by omega) e
      rcases List.mem_append.mp hy with g | g
      · obtain ⟨a1, a2⟩ := ih _ k2 (by omega) y g
        refine ⟨a1, a2.imp id (fun ⟨z, hz, h1⟩ => ⟨z, List.mem_append.mpr (Or.inl hz), h1⟩)⟩
      · obtain ⟨a1, a2⟩ := ih _ k3 (by omega) y g
        refine ⟨a1, a2.imp id (fun ⟨z, hz, h1⟩ => ⟨z, List.mem_append.mpr (Or.inr hz), h1⟩)⟩
    · rw [if_neg c] at hy ⊢
      exact full x (by omega) c y hy
/-- the one node that a side comes down to stands in the tree -/
theorem t_rf_in (ht : t_ok T) (hc : c + 2 ^ w_h c ≤ t_w T) (h : t_rf T x c = [y]) : y < t_w T ∧ t_ky T y ≠ [] := by
  have hy : y ∈ t_rf T x c := by rw [h]; exact List.mem_singleton.mpr rfl
  obtain ⟨a1, a2⟩ := w_rs_31 ht _ c rfl hc y (List.mem_filter.mp hy).1
  rcases a2 with a2 | ⟨z, hz, z1, z2, z3⟩
  · exact a2
  · have : z ∈ t_rf T x c := List.mem_filter.mpr ⟨hz, by unfold t_kp; rw [decide_eq_true_iff]; omega⟩
    rw [h, List.mem_singleton] at this
    rw [← this]
    exact ⟨z2, z3⟩
end
variable {I I0 J X : sr_V} {nn s x l c o : Nat} {K S : Wt → Prop} {tl mk m0 mm : List Wt} {Q : Int → sr_V → Prop} {T : w_T}
theorem r_om_9 {k2 : Int → Int → sr_V → Prop} (hs : s < 49) (hT : m_tr I mk s T) {a : Nat} (ha : a < 2 ^ t_dp T) (q1 : (∀ b, b < a → t_is T a → t_is T b → t_ow T a ≠ t_ow T b) → k2 s ((a + 1 : Nat) : Int) I) (q0 : (¬ ∀ b, b < a → t_is T a → t_is T b → t_ow T a ≠ t_ow T b) → Q 0 I) : ∀ (n b : Nat), b ≤ a → a - b < n → (∀ j, j < b → t_is T a → t_is T j → t_ow T a ≠ t_ow T j) → rl_329_9 Q k2 n s a b I
  | 0, _, _, h, _ => by omega
  | n + 1, b, hb, hn, hp => by
    have d16 := t_d_16 hT.1.1
    have w31 := t_w_4 hT.1.1
    have haw := (t_lf_w T a).mpr ha
    unfold rl_329_9
    refine ⟨fun c => ?_, fun c => ?_⟩
    · intro y ey
      rw [sw_s1 (by omega)] at ey
      subst ey
      exact q1 (fun j hj => hp j (by omega))
    · have hbw := (t_lf_w T b).mpr (by omega)
      have next : (t_is T a → t_is T b → t_ow T a ≠ t_ow T b) → rb_329_47 Q k2 (rl_329_9 Q k2 n) s a b I := fun hx => by
        unfold rb_329_47
        intro y ey
        rw [sw_s1 (by omega)] at ey
        subst ey
        exact r_om_9 hs hT ha q1 q0 n (b + 1) (by omega) (by omega) (fun j hj => by
          rcases Nat.lt_or_ge j b with g | g
          · exact hp j g
          · rw [show j = b by omega]; exact hx)
      rw [sw_2k (by omega), sw_2k (by omega)]
      refine r_isBlankT hs hT haw (fun g => ?_) (fun g => ?_)
      · intro _
        exact ⟨fun _ => next (fun c => absurd g c.2), fun e => absurd e (by decide)⟩
      · intro _
        refine ⟨fun e => absurd rfl e, fun _ => ?_⟩
        refine r_isBlankT hs hT hbw (fun g2 => ?_) (fun g2 => ?_)
        · intro _
          exact ⟨fun _ => next (fun _ c => absurd g2 c.2), fun e => absurd e (by decide)⟩
        · intro _
          refine ⟨fun e => absurd rfl e, fun _ => ?_⟩
          refine r_spot hs (by omega) ?_
          intro _
          refine ⟨by omega, by omega, ?_⟩
          intro v ev _
          refine r_spot hs (by omega) ?_
          intro _
          refine ⟨by omega, by omega, ?_⟩
          intro w ew _
          rw [Int.toNat_natCast, (hT.2.2.2 a haw g).1] at ev
          rw [Int.toNat_natCast, (hT.2.2.2 b hbw g2).1] at ew
          refine ⟨fun c4 => next (fun _ _ c => c4 (by rw [ev, ew]; exact c)), fun c4 => q0 (fun hh => hh b (by omega) ⟨ha, g⟩ ⟨by omega, g2⟩ (by rw [← ev, ← ew]; exact c4))⟩
theorem r_om_2 (hs : s < 49) (hT : m_tr I mk s T) (q1 : t_onm T → Q 1 I) (q0 : ¬ t_onm T → Q 0 I) : ∀ (n a : Nat), a ≤ 2 ^ t_dp T → 2 ^ t_dp T - a < n → (∀ i b, i < a → b < i → t_is T i → t_is T b → t_ow T i ≠ t_ow T b) → rl_329_2 Q n s a I
  | 0, _, _, h, _ => by omega
  | n + 1, a, ha, hn, hp => by
    unfold rl_329_2
    refine r_leafCount hs hT.2.1 hT.1.1 ?_
    intro _
    refine ⟨fun c => q1 (fun i b hib hi hb => hp i b (by have := hi.1; omega) hib hi hb), fun c => ?_⟩
    refine ⟨a + 1, r_om_9 hs hT (a := a) (by omega) (fun h1 => ?_) (fun h1 => q0 (fun hh => h1 (fun b hb => hh a b hb))) _ 0 (by omega) (by omega) (fun j hj => by omega)⟩
    exact r_om_2 hs hT q1 q0 n (a + 1) (by omega) (by omega) (fun i b hi => by
      rcases Nat.lt_or_ge i a with g | g
      · exact hp i b g
      · rw [show i = a by omega]; exact h1 b)
theorem r_isOneMember (hs : s < 49) (hT : m_tr I mk s T) (q1 : t_onm T → Q 1 I) (q0 : ¬ t_onm T → Q 0 I) : rm_329 s I Q := by
  have hp : 0 < 2 ^ t_dp T := Nat.two_pow_pos _
  unfold rm_329
  exact ⟨2 ^ t_dp T + 1, r_om_2 hs hT q1 q0 _ 0 (by omega) (by omega) (fun i b hi => by omega)⟩
theorem r_mr_42 {k2 : Int → Int → Int → sr_V → Prop} (hs : s < 49) (hT : m_tr I mk s T) (hx : x < t_w T) (hl : l < 2 ^ t_dp T) (hbe : t_ab l (w_h x) = x) (q1 : (∀ j, 1 ≤ j → j < w_h x → t_ky T (t_ab l j) ≠ [] → w_bit (t_um T (t_ab l j)) l = 1) → rb_330_68 Q k2 s x l I) (q0 : (¬ ∀ j, 1 ≤ j → j < w_h x → t_ky T (t_ab l j) ≠ [] → w_bit (t_um T (t_ab l j)) l = 1) → Q 0 I) : ∀ (n j : Nat), 1 ≤ j → j ≤ w_h x → w_h x - j < n → (∀ i, 1 ≤ i → i < j → t_ky T (t_ab l i) ≠ [] → w_bit (t_um T (t_ab l i)) l = 1) → rl_330_42 Q k2 n s x l ((t_ab l j : Nat) : Int) I
  | 0, _, _, _, h, _ => by omega
  | n + 1, j, h1, h2, hn, inv => by
    have h4 := hT.1.1
    have d16 := t_d_16 h4
    have w31 := t_w_4 h4
    have hh := (t_h_le h4 hx).1
    have jw := t_ab_w (T := T) (k := l) (h := j) h4 hl (by omega)
    unfold rl_330_42
    refine ⟨fun c => q1 (fun i i1 i2 => inv i i1 ?_), fun c => ?_⟩
    · have : t_ab l j = t_ab l (w_h x) := by rw [hbe]; omega
      have := t_ab_inj (l := l) (by omega) (by omega) (by omega) this
      omega
    have jl : j < w_h x := by
      rcases Nat.lt_or_ge j (w_h x) with g | g
      · exact g
      · exfalso
        apply c
        rw [show j = w_h x by omega, hbe]
    have nxt : (t_ky T (t_ab l j) ≠ [] → w_bit (t_um T (t_ab l j)) l = 1) → rb_330_64 Q k2 (rl_330_42 Q k2 n) s x l ((t_ab l j : Nat) : Int) I := fun hb => by
      unfold rb_330_64
      refine r_above (by omega) (by omega) ?_
      intro _
      refine r_mr_42 hs hT hx hl hbe q1 q0 n (j + 1) (by omega) (by omega) (by omega) (fun i i1 i2 => ?_)
      by_cases e : i = j
      · rw [e]; exact hb
      · exact inv i i1 (by omega)
    refine r_isBlankT hs hT jw (fun g => ?_) (fun g => ?_)
    · intro _
      exact ⟨fun _ => nxt (fun c => absurd g c), fun c => absurd c (by decide)⟩
    · intro _
      refine ⟨fun c => absurd rfl c, fun _ => ?_⟩
      refine r_spot hs (by omega) ?_
      intro _
      refine ⟨by omega, by omega, ?_⟩
      intro v ev _
      rw [Int.toNat_natCast, (hT.2.2.1 _ jw).2.2.2] at ev
      have um := hT.1.2.1 _ jw
      rw [ev, sw_bit ⟨by omega, by omega⟩ (by omega)]
      refine ⟨fun c => nxt (fun _ => (w_bit_01 _ _).resolve_left c), fun c => q0 (fun h => ?_)⟩
      have := h j h1 jl g
      omega
theorem r_mr_2 (hs : s < 49) (hT : m_tr I mk s T) (hx : x < t_w T) (ho : x % 2 = 1) (q1 : t_mg T x → Q 1 I) (q0 : ¬ t_mg T x → Q 0 I) : ∀ (n l : Nat), l ≤ 16 → 16 - l < n → (∀ b, b < l → w_bit (t_um T x) b = 1 → t_is T b ∧ t_ab b (w_h x) = x ∧ ∀ j, 1 ≤ j → j < w_h x → t_ky T (t_ab b j) ≠ [] → w_bit (t_um T (t_ab b j)) b = 1) → rl_330_2 Q n s x l I
  | 0, _, _, h, _ => by omega
  | n + 1, l, hl, hn, inv => by
    have h4 := hT.1.1
    have d16 := t_d_16 h4
    have w31 := t_w_4 h4
    obtain ⟨hh1, hh2⟩ := t_h_le h4 hx
    have hh2 := hh2 ho
    unfold rl_330_2
    refine ⟨fun c => q1 (fun b hb => inv b (by omega)), fun c => ?_⟩
    have nxt : (w_bit (t_um T x) l = 1 → t_is T l ∧ t_ab l (w_h x) = x ∧ ∀ j, 1 ≤ j → j < w_h x → t_ky T (t_ab l j) ≠ [] → w_bit (t_um T (t_ab l j)) l = 1) → rb_330_68 Q (rl_330_2 Q n) s x l I := fun hb => by
      unfold rb_330_68
      intro y ey
      rw [sw_s1 (by omega)] at ey
      rw [ey]
      refine r_mr_2 hs hT hx ho q1 q0 n (l + 1) (by omega) (by omega) (fun b hb' => ?_)
      by_cases e : b = l
      · rw [e]; exact hb
      · exact inv b (by omega)
    refine r_spot hs (by omega) ?_
    intro _
    refine ⟨by omega, by omega, ?_⟩
    intro v ev _
    rw [Int.toNat_natCast, (hT.2.2.1 _ hx).2.2.2] at ev
    have um := hT.1.2.1 _ hx
    rw [ev, sw_bit ⟨by omega, by omega⟩ (by omega)]
    refine ⟨fun c1 => ?_, fun c1 => nxt (fun h => by omega)⟩
    have b1 := (w_bit_01 _ _).resolve_left c1
    refine r_leafCount hs hT.2.1 h4 ?_
    intro _
    refine ⟨fun c2 => q0 (fun h => by have := (h l (by omega) b1).1.1; omega), fun c2 => ?_⟩
    have ll : l < 2 ^ t_dp T := by omega
    rw [sw_2k (by omega)]
    refine r_isBlankT hs hT ((t_lf_w T l).mpr ll) (fun g => ?_) (fun g => ?_)
    · intro _
      exact ⟨fun _ => q0 (fun h => (h l (by omega) b1).1.2 g), fun c => absurd c (by decide)⟩
    intro _
    refine ⟨fun c => absurd rfl c, fun _ => ?_⟩
    refine r_isBelow (by omega) (by omega) (by omega) (fun j hj => by have := t_ab_w (T := T) (k := l) (h := j) h4 ll (by omega); omega) (fun g2 => ?_) (fun g2 => ?_)
    rotate_left
    · intro _
      exact ⟨fun c => absurd rfl c, fun _ => q0 (fun h => g2 (h l (by omega) b1).2.1)⟩
    intro _
    refine ⟨fun _ => ?_, fun c => absurd c (by decide)⟩
    rw [← t_ab_0]
    refine r_above (by omega) (by decide) ?_
    intro _
    exact ⟨w_h x + 1, r_mr_42 hs hT hx ll g2 (fun h => nxt (fun _ => ⟨⟨ll, g⟩, g2, h⟩)) (fun h => q0 (fun hh => h (hh l (by omega) b1).2.2)) _ 1 (Nat.le_refl _) hh2 (by omega) (fun i i1 i2 => by omega)⟩
theorem r_isMergedRight (hs : s < 49) (hT : m_tr I mk s T) (hx : x < t_w T) (ho : x % 2 = 1) (q1 : t_mg T x → Q 1 I) (q0 : ¬ t_mg T x → Q 0 I) : rm_330 s x I Q := by
  unfold rm_330
  exact ⟨17, r_mr_2 hs hT hx ho q1 q0 _ 0 (by omega) (by omega) (fun b hb => by omega)⟩
theorem r_wantedS {x o : Nat} (hs : s < 49) (hx : x < t_w T) (hk : t_ky T x ≠ []) (ho : o + 2 ^ w_h o ≤ t_w T) (ho0 : 2 ^ w_h o ≤ o + 1) (hL : m_L I mk nn K tl) (ht : m_tr I mk s T) (hb : m_bS S mk) (hS1 : S (w_wt T x o)) (hS2 : ∀ y ∈ w_ordk (w_h o) o (w_h o + 1) 0, S (w_th T (t_um T x) y)) (q : ∀ t J mm, w_mo S mk mm → m_bS S mm → m_L J mm nn K tl → w_at mm t (w_wt T x o) → m_f2 I J → Q t J) : rm_200 s x o I Q := by
  have mo : w_mo S mk (w_tl (w_mkh T (t_um T x) o mk) (w_wt T x o)) := by
    refine w_mo_trans (w_mo_tls _ (fun v hv => ?_)) (w_mo_tl hS1)
    obtain ⟨y, hy1, rfl⟩ := List.mem_map.mp hv
    exact hS2 y hy1
  exact r_wanted hs hx hk ho ho0 hL ht (hb _ mo (w_tl_nd (w_tls_nd _ (m_L_nd hL)))) (fun t J LJ wt fJ => q t J _ mo (m_bS_mo hb mo) LJ wt fJ)
/-- what seeing a side touches -/
def m_pss (f k : Nat) : Prop := m_p2 f k ∨ m_prs f k
theorem r_ss_65 {y : Nat} (hs : s < 49) (hx : x < t_w T) (hk : t_ky T x ≠ []) (ho : o + 2 ^ w_h o ≤ t_w T) (ho0 : 2 ^ w_h o ≤ o + 1) (hL : m_L I mk nn K tl) (ht : m_tr I mk s T) (hb : m_bS S mk) (hS1 : S (w_wt T x o)) (hS2 : ∀ y ∈ w_ordk (w_h o) o (w_h o + 1) 0, S (w_th T (t_um T x) y)) (hy : y < t_w T) (q1 : ∀ J mm, t_ph T y ≠ [] → t_ph T y = w_wt T x o → w_mo S mk mm → m_bS S mm → m_L J mm nn K tl → m_gp m_p2 I J → Q 1 J) (q0 : ∀ J mm, ¬ (t_ph T y ≠ [] ∧ t_ph T y = w_wt T x o) → w_mo S mk mm → m_bS S mm → m_L J mm nn K tl → m_gp m_p2 I J → Q 0 J) : rb_331_65 Q s x o ((31 * s + y : Nat) : Int) I := by
  have w31 := t_w_4 ht.1.1
  have ph := (ht.2.2.1 y hy).2.2.1
  unfold rb_331_65
  refine ⟨by omega, by omega, ?_⟩
  intro v1 e1 _
  rw [Int.toNat_natCast] at e1
  rw [← e1] at ph
  refine ⟨fun c => ⟨by omega, by omega, ?_⟩, fun c => q0 I mk (fun h => h.1 ?_) w_mo_refl hb hL (m_gp_refl _ _)⟩
  rotate_left
  · rcases ph with ⟨_, g⟩ | g
    · exact g
    · have := (w_at_le g).1
      omega
  intro v4 e4 _
  rw [Int.toNat_natCast, ← e1] at e4
  have at1 : w_at mk v4 (t_ph T y) := by
    rw [e4]
    exact ph.resolve_left (fun h => c h.1)
  have ne := w_at_ne hL at1
  refine r_wantedS hs hx hk ho ho0 hL ht hb hS1 hS2 (fun t J mm mo bm LJ wt fJ => ?_)
  intro _
  have gJ := m_f2_gp fJ
  refine ⟨fun c1 => q0 J mm (fun h => c1 ?_) mo bm LJ gJ, fun c1 => q1 J mm ne ?_ mo bm LJ gJ⟩
  · rw [← h.2] at wt
    exact w_at_inj (m_L_nd LJ) (w_le_at mo.1 at1) wt
  · rw [← c1] at wt
    exact w_at_fun (w_le_at mo.1 at1) wt
theorem r_ss_10 (hs : s < 49) (hx : x < t_w T) (hk : t_ky T x ≠ []) (hc : c + 2 ^ w_h c ≤ t_w T) (ho : o + 2 ^ w_h o ≤ t_w T) (ho0 : 2 ^ w_h o ≤ o + 1) (hL : m_L I mk nn K tl) (ht : m_tr I mk s T) (hb : m_bS S mk) (hS1 : S (w_wt T x o)) (hS2 : ∀ y ∈ w_ordk (w_h o) o (w_h o + 1) 0, S (w_th T (t_um T x) y)) (hz : m_rz I (w_rs T (w_h c) c)) (q1 : ∀ J mm, t_ss T x c o → w_mo S mk mm → m_bS S mm → m_L J mm nn K tl → m_gp m_p2 I J → Q 1 J) (q0 : ∀ J mm, ¬ t_ss T x c o → w_mo S mk mm → m_bS S mm → m_L J mm nn K tl → m_gp m_p2 I J → Q 0 J) : ∀ (n k : Nat) {x5 x6 : Int}, k ≤ (w_rs T (w_h c) c).length → (w_rs T (w_h c) c).length - k < n → x6 = ((((w_rs T (w_h c) c).take k).filter (t_kp T x)).length : Nat) → (∀ y, (((w_rs T (w_h c) c).take k).filter (t_kp T x)).getLast? = some y → x5 = (y : Nat)) → rl_331_10 Q n s x o x5 x6 k I
  | 0, _, _, _, _, h, _, _ => by omega
  | n + 1, k, x5, x6, hkl, hn, h6, h5 => by
    have h4 := ht.1.1
    have w31 := t_w_4 h4
    have l136 := w_rs_136 ht.1 hc
    unfold rl_331_10
    intro v30 e30 _
    rw [hz.1] at e30
    refine ⟨fun c1 => ?_, fun c1 => ?_⟩
    · have et : (w_rs T (w_h c) c).take k = w_rs T (w_h c) c := List.take_of_length_le (by omega)
      rw [et] at h6 h5
      have h5 : ∀ y, (t_rf T x c).getLast? = some y → x5 = (y : Nat) := h5
      have h6 : x6 = ((t_rf T x c).length : Nat) := h6
      refine ⟨fun c2 => ?_, fun c2 => q0 I mk (fun ⟨y, hy, _⟩ => c2 ?_) w_mo_refl hb hL (m_gp_refl _ _)⟩
      rotate_left
      · rw [h6, hy]; rfl
      obtain ⟨y, hy⟩ : ∃ y, t_rf T x c = [y] := List.length_eq_one_iff.mp (by omega)
      have ey := h5 y (by rw [hy]; rfl)
      obtain ⟨y1, y2⟩ := t_rf_in ht.1 hc hy
      rw [ey]
      refine r_spot hs (by omega) ?_
      intro _
      refine ⟨by omega, by omega, ?_⟩
      intro v43 e43 _
      rw [Int.toNat_natCast, (ht.2.2.1 y y1).1, if_neg y2] at e43
      have tail : rb_331_65 Q s x o ((31 * s + y : Nat) : Int) I := r_ss_65 hs hx hk ho ho0 hL ht hb hS1 hS2 y1 (fun J mm a1 a2 => q1 J mm ⟨y, hy, a1, a2⟩) (fun J mm a1 => q0 J mm (fun ⟨y', hy', b1, b2⟩ => by
        rw [hy] at hy'
        have : y = y' := (List.cons.inj hy').1
        subst this
        exact a1 ⟨b1, b2⟩))
      refine ⟨fun _ => tail, fun c3 => ⟨by omega, by omega, ?_⟩⟩
      have ev : y % 2 = 0 := by
        by_cases g : y % 2 = 0
        · exact g
        · rw [if_neg g] at e43
          omega
      obtain ⟨kk, ek⟩ : ∃ kk, y = 2 * kk := ⟨y / 2, by omega⟩
      intro v46 e46 _
      rw [Int.toNat_natCast, ek] at e46
      rw [ek] at y1 y2
      rw [(ht.2.2.2 kk y1 y2).2.2.1] at e46
      refine ⟨fun c4 => q0 I mk (fun ⟨y', hy', b1, b2⟩ => ?_) w_mo_refl hb hL (m_gp_refl _ _), fun _ => tail⟩
      rw [hy] at hy'
      have : y = y' := (List.cons.inj hy').1
      rw [← this, ek] at b1
      exact b1 ((ht.1.2.2 kk y1 y2).2.2.2.2 (by rw [← e46]; exact c4))
    · have kl : k < (w_rs T (w_h c) c).length := by omega
      obtain ⟨y, hy⟩ : ∃ y, (w_rs T (w_h c) c)[k]? = some y := ⟨_, List.getElem?_eq_getElem kl⟩
      obtain ⟨y31, _⟩ := w_rs_31 ht.1 _ c rfl hc y (List.mem_of_getElem? hy)
      have et : (w_rs T (w_h c) c).take (k + 1) = (w_rs T (w_h c) c).take k ++ [y] := by rw [List.take_add_one, hy]; rfl
      -- one more
      have no : t_kp T x y = false → rb_331_41 Q (rl_331_10 Q n) s x o x5 x6 k I := fun h => by
        have ef : ((w_rs T (w_h c) c).take (k + 1)).filter (t_kp T x) = ((w_rs T (w_h c) c).take k).filter (t_kp T x) := by rw [et, List.filter_append, List.filter_cons_of_neg (by rw [h]; decide), List.filter_nil, List.append_nil]
        unfold rb_331_41
        intro y19 e19
        rw [sw_s1 (by omega)] at e19
        rw [e19]
        exact r_ss_10 hs hx hk hc ho ho0 hL ht hb hS1 hS2 hz q1 q0 n (k + 1) (by omega) (by omega) (by rw [ef]; exact h6) (by rw [ef]; exact h5)
      have yes : t_kp T x y = true → rb_331_38 Q (rl_331_10 Q n) s x o x6 k (y : Nat) I := fun h => by
        have ef : ((w_rs T (w_h c) c).take (k + 1)).filter (t_kp T x) = ((w_rs T (w_h c) c).take k).filter (t_kp T x) ++ [y] := by rw [et, List.filter_append, List.filter_cons_of_pos h, List.filter_nil]
        have fl : (((w_rs T (w_h c) c).take k).filter (t_kp T x)).length ≤ k := by
          have a := List.length_filter_le (t_kp T x) ((w_rs T (w_h c) c).take k)
          rw [List.length_take] at a
          omega
        unfold rb_331_38
        intro y26 e26
        rw [h6, sw_s1 (by omega)] at e26
        unfold rb_331_41
        intro y19 e19
        rw [sw_s1 (by omega)] at e19
        rw [e19]
        refine r_ss_10 hs hx hk hc ho ho0 hL ht hb hS1 hS2 hz q1 q0 n (k + 1) (by omega) (by omega) (by rw [ef, e26, List.length_append, List.length_singleton]) (fun y' h' => ?_)
        rw [ef, List.getLast?_concat] at h'
        rw [Option.some.inj h']
      refine ⟨by omega, by omega, ?_⟩
      intro v52 e52 _
      rw [Int.toNat_natCast, hz.2 k y hy] at e52
      rw [e52]
      refine r_height y31 ?_
      intro _
      refine ⟨fun c2 => yes ?_, fun c2 => ?_⟩
      · unfold t_kp
        rw [decide_eq_true_iff]
        rintro ⟨g, _⟩
        apply c2
        have : w_h y = 0 := by unfold w_h; rw [if_pos g]
        rw [this]
        rfl
      have ye : y % 2 = 0 := by
        rcases Nat.mod_two_eq_zero_or_one y with g | g
        · exact g
        · have := (w_h_le ⟨4, by decide⟩ ⟨y, y31⟩ (by show y < 31; omega)).2 g
          have : 1 ≤ w_h y := this
          omega
      refine r_spot hs (by omega) ?_
      intro _
      refine ⟨by omega, by omega, ?_⟩
      intro v72 e72 _
      rw [Int.toNat_natCast, (ht.2.2.1 _ hx).2.2.2] at e72
      have um := ht.1.2.1 _ hx
      have dv : sw_div (y : Int) 2 = ((y / 2 : Nat) : Int) := sw_div_31 ⟨y, y31⟩
      rw [e72, dv, sw_bit ⟨by omega, by omega⟩ (by omega)]
      refine ⟨fun c3 => yes ?_, fun c3 => no ?_⟩
      · unfold t_kp
        rw [decide_eq_true_iff]
        exact fun g => c3 g.2
      · unfold t_kp
        rw [decide_eq_false_iff_not]
        exact fun g => g ⟨ye, c3⟩
theorem r_isSideSound (hs : s < 49) (hx : x < t_w T) (hk : t_ky T x ≠ []) (hc : c + 2 ^ w_h c ≤ t_w T) (ho : o + 2 ^ w_h o ≤ t_w T) (ho0 : 2 ^ w_h o ≤ o + 1) (hL : m_L I mk nn K tl) (ht : m_tr I mk s T) (hb : m_bS S mk) (hS1 : S (w_wt T x o)) (hS2 : ∀ y ∈ w_ordk (w_h o) o (w_h o + 1) 0, S (w_th T (t_um T x) y)) (q1 : ∀ J mm, t_ss T x c o → w_mo S mk mm → m_bS S mm → m_L J mm nn K tl → m_gp m_pss I J → Q 1 J) (q0 : ∀ J mm, ¬ t_ss T x c o → w_mo S mk mm → m_bS S mm → m_L J mm nn K tl → m_gp m_pss I J → Q 0 J) : rm_331 s x c o I Q := by
  unfold rm_331
  refine r_resolve hs ht hc (fun J1 z1 f1 => ?_)
  intro y85 e85
  have g1 : m_gp m_prs I J1 := m_gp_sub (m_fr_gp f1) (fun f k p => by
    simp only [List.mem_cons, List.mem_nil_iff, or_false] at p
    unfold m_prs; omega)
  have L1 := m_L_gp hL g1 (fun f k p => by unfold m_prs at p; omega)
  have T1 := m_tr_gp ht g1 (fun f k p q => by unfold m_pl at p; unfold m_prs at q; omega)
  have up : ∀ {J : sr_V}, m_gp m_p2 J1 J → m_gp m_pss I J := fun {J} g => m_gp_trans (m_gp_sub g1 (fun f k p => Or.inr p)) (m_gp_sub g (fun f k p => Or.inl p))
  exact ⟨(w_rs T (w_h c) c).length + 1, r_ss_10 hs hx hk hc ho ho0 L1 T1 hb hS1 hS2 z1 (fun J mm a1 a2 a3 a4 a5 => q1 J mm a1 a2 a3 a4 (up a5)) (fun J mm a1 a2 a3 a4 a5 => q0 J mm a1 a2 a3 a4 (up a5)) _ 0 (by omega) (by omega) rfl (fun y h => by cases h)⟩
end
