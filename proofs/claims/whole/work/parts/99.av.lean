/-! ===== trees: what they are; the reference's hash of a node ===== -/
noncomputable section
/-- the height of a node -/
def w_h (x : Nat) : Nat := if x % 2 = 0 then 0 else if x % 4 = 1 then 1 else if x % 8 = 3 then 2 else if x % 16 = 7 then 3 else 4
/-- a tree: depth; key, parent hash, unmerged of a node; owner, signature key, source, signature of a leaf -/
abbrev w_T : Type := Nat × (Nat → Wt) × (Nat → Wt) × (Nat → Int) × (Nat → Int) × (Nat → Wt) × (Nat → Int) × (Nat → Wt)
def t_dp (T : w_T) : Nat := T.1
def t_ky (T : w_T) : Nat → Wt := T.2.1
def t_ph (T : w_T) : Nat → Wt := T.2.2.1
def t_um (T : w_T) : Nat → Int := T.2.2.2.1
def t_ow (T : w_T) : Nat → Int := T.2.2.2.2.1
def t_sk (T : w_T) : Nat → Wt := T.2.2.2.2.2.1
def t_so (T : w_T) : Nat → Int := T.2.2.2.2.2.2.1
def t_sg (T : w_T) : Nat → Wt := T.2.2.2.2.2.2.2
/-- how many nodes there are -/
def t_w (T : w_T) : Nat := 2 ^ (t_dp T + 1) - 1
/-- the tree's own conditions -/
def t_ok (T : w_T) : Prop := t_dp T ≤ 4 ∧ (∀ x, x < t_w T → 0 ≤ t_um T x ∧ t_um T x < 65536 ∧ (x % 2 = 0 → t_um T x = 0) ∧ (t_ky T x = [] → t_ph T x = [] ∧ t_um T x = 0)) ∧ ∀ k, 2 * k < t_w T → t_ky T (2 * k) ≠ [] → 0 ≤ t_ow T k ∧ t_ow T k < 65536 ∧ 1 ≤ t_so T k ∧ t_so T k ≤ 3 ∧ (t_so T k ≠ 3 → t_ph T (2 * k) = [])
/-- the tree of the reference's state s -/
def m_tr (I : sr_V) (mk : List Wt) (s : Nat) (T : w_T) : Prop := t_ok T ∧ I 31 s = t_dp T ∧ (∀ x, x < t_w T → I 36 (31 * s + x) = (if t_ky T x = [] then 0 else if x % 2 = 0 then 1 else 2) ∧ w_az mk (I 37 (31 * s + x)) (t_ky T x) ∧ w_az mk (I 38 (31 * s + x)) (t_ph T x) ∧ I 39 (31 * s + x) = t_um T x) ∧ ∀ k, 2 * k < t_w T → t_ky T (2 * k) ≠ [] → I 40 (31 * s + 2 * k) = t_ow T k ∧ w_at mk (I 43 (31 * s + 2 * k)) (t_sk T k) ∧ I 41 (31 * s + 2 * k) = t_so T k ∧ w_at mk (I 42 (31 * s + 2 * k)) (t_sg T k)
/-- a LEAF, as it is written -/
def w_leaf (T : w_T) (k : Nat) : List Wt := w_b16 (t_ow T k) ++ [t_ky T (2 * k), t_sk T k, w_by (t_so T k)] ++ (if t_so T k = 3 then [w_pb (t_ph T (2 * k))] else []) ++ [t_sg T k]
def w_bit (z : Int) (l : Nat) : Int := z / (2 ^ l : Nat) % 2
def w_ones (z : Int) : Int := ((List.range 16).map (w_bit z)).sum
/-- a set of leaves, as it is written -/
def w_set (z : Int) : List Wt := w_b16 (2 * w_ones z) ++ (List.range 16).flatMap (fun l => if w_bit z l = 1 then w_b16 l else [])
/-- the row of a node that is hashed -/
def w_nr (T : w_T) (wo : Int) (h x : Nat) (hl hr : Wt) : List Wt := if h = 0 then w_by 1 :: w_b16 ((x / 2 : Nat) : Int) ++ (if t_ky T x ≠ [] ∧ w_bit wo (x / 2) = 0 then w_by 1 :: w_leaf T (x / 2) else [w_by 0]) else w_by 2 :: (if t_ky T x = [] then [w_by 0] else w_by 1 :: t_ky T x :: w_pb (t_ph T x) :: w_set (sw_and (t_um T x) (sw_xor wo (-1)))) ++ [hl, hr]
def w_thh (T : w_T) (wo : Int) : Nat → Nat → Wt
  | 0, x => w_t 1 [] [] [] (w_nr T wo 0 x [] [])
  | h + 1, x => w_t 1 [] [] [] (w_nr T wo (h + 1) x (w_thh T wo h (x - 2 ^ h)) (w_thh T wo h (x + 2 ^ h)))
/-- the tree hash of node x, without the leaves wo -/
def w_th (T : w_T) (wo : Int) (x : Nat) : Wt := w_thh T wo (w_h x) x
section
variable {I J : sr_V} {nn : Nat} {K : Wt → Prop} {tl mk mm l : List Wt} {s a b c x wo : Int} {Q : Int → sr_V → Prop} {R : sr_V → Prop} {T : w_T}
theorem r_height {x : Nat} (hx : x < 31) (q : Q (w_h x) I) : rm_199 x I Q := by
  have key : ∀ x : Fin 31, ∀ k : Fin 5, (k.val < w_h x.val → sw_and (sw_shr (x.val : Int) (k.val : Int)) 1 = 1) ∧ (k.val = w_h x.val → sw_and (sw_shr (x.val : Int) (k.val : Int)) 1 ≠ 1) := by decide +kernel
  have h4 : w_h x ≤ 4 := by unfold w_h; split <;> (try split) <;> (try split) <;> (try split) <;> omega
  have lp : ∀ (n k : Nat), k ≤ w_h x → w_h x - k < n → rl_199_2 Q n x k I := by
    intro n
    induction n with
    | zero => intro k h1 h2; omega
    | succ n ih =>
      intro k h1 h2
      have kk := key ⟨x, hx⟩ ⟨k, by omega⟩
      unfold rl_199_2
      refine ⟨fun c => ?_, fun c => ?_⟩
      · have e : k = w_h x := by
          rcases Nat.lt_or_ge k (w_h x) with g | g
          · exact absurd (kk.1 g) c
          · omega
        rw [e]; exact q
      · intro y ey
        rw [sw_w_s (by omega) (by omega)] at ey
        have e : k ≠ w_h x := fun g => kk.2 g c
        rw [ey, show (k : Int) + 1 = ((k + 1 : Nat) : Int) by omega]
        exact ih (k + 1) (by omega) (by omega)
  exact ⟨_, lp (w_h x + 1) 0 (by omega) (by omega)⟩
theorem sw_bit {z : Int} (hz : sw_c z) {l : Nat} (hl : l < 31) : sw_and (sw_shr z (l : Int)) 1 = w_bit z l := by
  have key : ∀ l : Fin 31, ((Int32.ofInt (l.val : Int) &&& 31).toBitVec.smod 32).toNat = l.val := by decide +kernel
  rw [sw_and_1, sw_shr_k hz (k := l) (by omega) (key ⟨l, hl⟩)]
  rfl
theorem w_bit_01 (z : Int) (l : Nat) : w_bit z l = 0 ∨ w_bit z l = 1 := by unfold w_bit; omega
theorem r_ones {z : Int} (hz : sw_c z) (q : Q (w_ones z) I) : rm_140 z I Q := by
  have lp : ∀ (n k : Nat) (y : Int), k ≤ 16 → 16 - k < n → y = ((List.range k).map (w_bit z)).sum → 0 ≤ y → y ≤ k → rl_140_4 Q n z y k I := by
    intro n
    induction n with
    | zero => intro k y h1 h2; omega
    | succ n ih =>
      intro k y h1 h2 hy y0 y1
      unfold rl_140_4
      refine ⟨fun c => ?_, fun c => ?_⟩
      · have e : k = 16 := by omega
        rw [hy, e]; exact q
      · have b := w_bit_01 z k
        intro y1' e1 y5 e5
        rw [sw_bit hz (by omega), sw_w_s (by omega) (by omega)] at e1
        rw [sw_w_s (by omega) (by omega)] at e5
        rw [e1, e5, show (k : Int) + 1 = ((k + 1 : Nat) : Int) by omega]
        refine ih (k + 1) _ (by omega) (by omega) ?_ (by omega) (by omega)
        rw [List.range_succ, List.map_append, List.sum_append, hy]
        simp
  exact ⟨_, lp 17 0 0 (by omega) (by omega) rfl (by omega) (by omega)⟩
theorem w_ones_b (z : Int) : 0 ≤ w_ones z ∧ w_ones z ≤ 16 := by
  have key : ∀ k : Nat, 0 ≤ ((List.range k).map (w_bit z)).sum ∧ ((List.range k).map (w_bit z)).sum ≤ k := by
    intro k
    induction k with
    | zero => exact ⟨by simp, by simp⟩
    | succ k ih =>
      have b := w_bit_01 z k
      rw [List.range_succ, List.map_append, List.sum_append]
      simp
      omega
  exact key 16
theorem m_f0_L (h : m_L I mk nn K tl) (f : m_fr [55] [56] I J) : m_L J mk nn K tl := m_L_fr h f (by simp) (by simp) (by simp) (by simp) (by simp)
theorem m_tr_fr {A F : List Nat} {s : Nat} (h : m_tr I mk s T) (f : m_fr A F I J) (hA : ∀ g ∈ A, g < 31 ∨ (31 < g ∧ g < 36) ∨ 43 < g) : m_tr J mk s T := by
  have e : ∀ g, g = 31 ∨ (36 ≤ g ∧ g ≤ 43) → J g = I g := fun g hg => f.1 g (fun hm => by have := hA g hm; omega) (by omega)
  unfold m_tr at h ⊢
  rw [e 31 (by omega), e 36 (by omega), e 37 (by omega), e 38 (by omega), e 39 (by omega), e 40 (by omega), e 41 (by omega), e 42 (by omega), e 43 (by omega)]
  exact h
theorem m_tr_le {s : Nat} (h : m_tr I mk s T) (hl : w_le mk mm) : m_tr I mm s T := by
  obtain ⟨h1, h2, h3, h4⟩ := h
  refine ⟨h1, h2, fun x hx => ?_, fun k hk hn => ?_⟩
  · obtain ⟨g1, g2, g3, g4⟩ := h3 x hx
    exact ⟨g1, w_le_az hl g2, w_le_az hl g3, g4⟩
  · obtain ⟨g1, g2, g3, g4⟩ := h4 k hk hn
    exact ⟨g1, w_le_at hl g2, g3, w_le_at hl g4⟩
theorem w_az_ne {x : Int} {w : Wt} (h : w_az mk x w) (hw : w ≠ []) : w_at mk x w := by
  rcases h with ⟨_, h⟩ | h
  · exact absurd h hw
  · exact h
theorem t_w31 (h : t_dp T ≤ 4) : t_w T ≤ 31 := by
  have : t_dp T = 0 ∨ t_dp T = 1 ∨ t_dp T = 2 ∨ t_dp T = 3 ∨ t_dp T = 4 := by omega
  unfold t_w
  rcases this with e | e | e | e | e <;> rw [e] <;> decide
/-- rowLeaf -/
theorem r_rowLeaf {s k : Nat} (hs : s < 49) (hL : m_L I mk nn K tl) (hm : mk.length ≤ 44999) (ht : m_tr I mk s T) (hk : 2 * k < t_w T) (hn : t_ky T (2 * k) ≠ []) (h : m_rr I mk l) (hl : l.length < 5900) (q : ∀ J, m_rr J mk (l ++ w_leaf T k) → m_fr [55] [56] I J → R J) : rm_296 ((31 * s + 2 * k : Nat) : Int) I R := by
  have w31 := t_w31 ht.1.1
  obtain ⟨a1, a2, a3, a4⟩ := ht.2.2.1 (2 * k) hk
  obtain ⟨b1, b2, b3, b4⟩ := ht.2.2.2 k hk hn
  obtain ⟨o1, o2, o3, o4, _⟩ := ht.1.2.2 k hk hn
  have g : ∀ G, m_fr [55] [56] I G → ∀ f, f ≠ 55 → f ≠ 1000 → G f = I f := fun G fr f h1 h2 => fr.1 f (by simpa using h1) h2
  unfold rm_296
  refine ⟨by omega, by omega, ?_⟩
  intro v11 e11 _
  rw [Int.toNat_natCast, b1] at e11
  subst e11
  refine r_b16 (by unfold sw_c; omega) h (by omega) (fun J1 r1 f1 => ⟨by omega, by omega, ?_⟩)
  intro v21 e21 _
  rw [Int.toNat_natCast, g J1 f1 37 (by decide) (by decide)] at e21
  subst e21
  refine r_term r1 (by rw [List.length_append]; simp [w_b16]; omega) hm (w_az_ne a2 hn) (fun J2 r2 f2 => ⟨by omega, by omega, ?_⟩)
  have f12 := m_fr_trans f1 f2
  intro v31 e31 _
  rw [Int.toNat_natCast, g J2 f12 43 (by decide) (by decide)] at e31
  subst e31
  refine r_term r2 (by simp [w_b16]; omega) hm b2 (fun J3 r3 f3 => ⟨by omega, by omega, ?_⟩)
  have f13 := m_fr_trans f12 f3
  intro v41 e41 _
  rw [Int.toNat_natCast, g J3 f13 41 (by decide) (by decide), b3] at e41
  subst e41
  refine r_b8 r3 (by simp [w_b16]; omega) (fun J4 r4 f4 => ⟨by omega, by omega, ?_⟩)
  have f14 := m_fr_trans f13 f4
  rw [show t_so T k % 256 = t_so T k by omega] at r4
  intro v51 e51 _
  rw [Int.toNat_natCast, g J4 f14 41 (by decide) (by decide), b3] at e51
  subst e51
  have last : ∀ J5 l5, m_rr J5 mk l5 → l5.length < 6000 → m_fr [55] [56] I J5 → l5 ++ [t_sg T k] = l ++ w_leaf T k → rb_296_36 R ((31 * s + 2 * k : Nat) : Int) J5 := by
    intro J5 l5 r5 h5 f5 e5
    unfold rb_296_36
    refine ⟨by omega, by omega, ?_⟩
    intro v1 e1 _
    rw [Int.toNat_natCast, g J5 f5 42 (by decide) (by decide)] at e1
    subst e1
    refine r_term r5 h5 hm b4 (fun J6 r6 f6 => q J6 ?_ (m_fr_trans f5 f6))
    rw [← e5]
    exact r6
  refine ⟨fun c3 => last J4 _ r4 (by simp [w_b16]; omega) f14 ?_, fun c3 => ⟨by omega, by omega, ?_⟩⟩
  · unfold w_leaf
    rw [if_neg c3]
    simp
  · intro v54 e54 _
    rw [Int.toNat_natCast, g J4 f14 38 (by decide) (by decide)] at e54
    subst e54
    refine r_perhaps (m_f0_L hL f14) r4 (by simp [w_b16]; omega) hm a3 (fun J5 r5 f5 => last J5 _ r5 (by simp [w_b16]; omega) (m_fr_trans f14 f5) ?_)
    unfold w_leaf
    rw [if_pos c3]
    simp
end
end
