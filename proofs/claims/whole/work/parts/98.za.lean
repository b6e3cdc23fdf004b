/-! ===== the reference: rows ===== -/
noncomputable section
def m_rs (I : sr_V) : Int := I 1000 56
def m_row (I : sr_V) : List Int := (List.range (I 1000 56).toNat).map (I 55)
/-- all but the row is the same -/
def m_e0 (I J : sr_V) : Prop := (∀ g, g ≠ 55 → g ≠ 1000 → J g = I g) ∧ ∀ f, f ≠ 56 → J 1000 f = I 1000 f
theorem m_e0_refl (I : sr_V) : m_e0 I I := ⟨fun _ _ _ => rfl, fun _ _ => rfl⟩
theorem m_e0_trans {I J K : sr_V} (a : m_e0 I J) (b : m_e0 J K) : m_e0 I K := ⟨fun g h1 h2 => (b.1 g h1 h2).trans (a.1 g h1 h2), fun f h => (b.2 f h).trans (a.2 f h)⟩
theorem su_eq (I : sr_V) (f k : Nat) (z : Int) : su I f k z f k = z := if_pos ⟨rfl, rfl⟩
theorem su_at (I : sr_V) (f k : Nat) (z : Int) (g i : Nat) : su I f k z g i = if g = f ∧ i = k then z else I g i := rfl
theorem su_f {I : sr_V} {f k : Nat} {z : Int} {g : Nat} (h : g ≠ f) : su I f k z g = I g := by funext i; rw [su_at, if_neg (fun e => h e.1)]
theorem su_k {I : sr_V} {f k : Nat} {z : Int} {i : Nat} (h : i ≠ k) : su I f k z f i = I f i := by rw [su_at, if_neg (fun e => h e.2)]
theorem m_row_push {I : sr_V} {z : Int} (h0 : 0 ≤ I 1000 56) : m_row (su (su I 55 (I 1000 56).toNat z) 1000 56 (I 1000 56 + 1)) = m_row I ++ [z] := by
  unfold m_row
  have e1 : su (su I 55 (I 1000 56).toNat z) 1000 56 (I 1000 56 + 1) 1000 56 = I 1000 56 + 1 := su_eq _ _ _ _
  have e2 : su (su I 55 (I 1000 56).toNat z) 1000 56 (I 1000 56 + 1) 55 = su I 55 (I 1000 56).toNat z 55 := su_f (by decide)
  rw [e1, e2, show (I 1000 56 + 1).toNat = (I 1000 56).toNat + 1 by omega, List.range_succ, List.map_append]
  congr 1
  · apply List.map_congr_left
    intro k hk
    rw [List.mem_range] at hk
    exact su_k (by omega)
  · simp [su_eq]
theorem m_push_e0 (I : sr_V) (k : Nat) (z y : Int) : m_e0 I (su (su I 55 k z) 1000 56 y) := ⟨fun g h1 h2 => by rw [su_f h2, su_f h1], fun f h => by rw [su_k h, su_f (by decide)]⟩
theorem sw_w_s {z : Int} (h0 : -2147483648 ≤ z) (h1 : z ≤ 2147483647) : sw_w z = z := by unfold sw_w; omega
theorem m_b8 {x : Int} {I : sr_V} {Q : sr_V → Prop} (h0 : 0 ≤ I 1000 56) (h1 : I 1000 56 < 6000) (k : ∀ J, m_e0 I J → J 1000 56 = I 1000 56 + 1 → m_row J = m_row I ++ [sw_and x 255] → Q J) : rm_75 x I Q := by
  unfold rm_75
  intro v1 e1 _
  subst e1
  refine ⟨h0, h1, ?_⟩
  intro I5 e5 v9 e9 _ I13 e13
  subst e5
  rw [su_f (by decide)] at e9
  subst e9
  rw [sw_w_s (by omega) (by omega)] at e13
  subst e13
  exact k _ (m_push_e0 I _ _ _) (su_eq _ _ _ _) (m_row_push h0)
theorem m_bTerm {x : Int} {I : sr_V} {Q : sr_V → Prop} (h0 : 0 ≤ I 1000 56) (h1 : I 1000 56 < 6000) (hx : 0 ≤ x) (hx1 : x < 45000) (k : ∀ J, m_e0 I J → J 1000 56 = I 1000 56 + 1 → m_row J = m_row I ++ [256 + x] → Q J) : rm_76 x I Q := by
  unfold rm_76
  intro v1 e1 _
  subst e1
  refine ⟨h0, h1, ?_⟩
  intro I5 e5 v9 e9 _ I13 e13
  subst e5
  rw [su_f (by decide)] at e9
  subst e9
  rw [sw_w_s (z := I 1000 56 + 1) (by omega) (by omega), sw_w_s (z := 256 + x) (by omega) (by omega)] at e13
  subst e13
  exact k _ (m_push_e0 I _ _ _) (su_eq _ _ _ _) (m_row_push h0)
theorem m_b16 {x : Int} {I : sr_V} {Q : sr_V → Prop} (h0 : 0 ≤ I 1000 56) (h1 : I 1000 56 < 5999) (k : ∀ J, m_e0 I J → J 1000 56 = I 1000 56 + 2 → m_row J = m_row I ++ [sw_and (sw_shr x 8) 255, sw_and x 255] → Q J) : rm_87 x I Q := by
  unfold rm_87
  refine m_b8 h0 (by omega) (fun J a1 a2 a3 => ?_)
  refine m_b8 (by omega) (by omega) (fun K b1 b2 b3 => ?_)
  exact k K (m_e0_trans a1 b1) (by omega) (by rw [b3, a3]; simp)
theorem m_bPerhaps {x : Int} {I : sr_V} {Q : sr_V → Prop} (h0 : 0 ≤ I 1000 56) (h1 : I 1000 56 < 6000) (hx : 0 ≤ x) (hx1 : x < 45000) (k : ∀ J, m_e0 I J → J 1000 56 = I 1000 56 + 1 → m_row J = m_row I ++ [if x = 0 then 0 else 256 + x] → Q J) : rm_159 x I Q := by
  unfold rm_159
  refine ⟨fun c => ?_, fun c => ?_⟩
  · refine m_bTerm h0 h1 hx hx1 (fun J a1 a2 a3 => k J a1 a2 ?_)
    rw [a3, if_neg c]
  · refine m_b8 h0 h1 (fun J a1 a2 a3 => k J a1 a2 ?_)
    rw [a3, if_pos c]
    rfl
/-- signs from a place of an array on -/
def m_sl (f : Nat → Int) (a n : Nat) : List Int := (List.range n).map (fun k => f (a + k))
theorem m_sl_succ (f : Nat → Int) (a n : Nat) : m_sl f a (n + 1) = f a :: m_sl f (a + 1) n := by
  unfold m_sl
  rw [List.range_succ_eq_map]
  simp only [List.map_cons, List.map_map, Nat.add_zero, List.cons.injEq, true_and]
  apply List.map_congr_left
  intro k _
  show f (a + (k + 1)) = f (a + 1 + k)
  congr 1
  omega
theorem m_bText_l {x2 : Int} {Q : sr_V → Prop} : ∀ (n : Nat) {x3 : Int} {I : sr_V}, 0 ≤ x3 → x2 ≤ 362000 → (x2 - x3).toNat < n → 0 ≤ I 1000 56 → I 1000 56 + (x2 - x3).toNat ≤ 6000 → (∀ J, m_e0 I J → J 1000 56 = I 1000 56 + (x2 - x3).toNat → m_row J = m_row I ++ m_sl (I 26) x3.toNat (x2 - x3).toNat → Q J) → rl_88_2 Q n x2 x3 I
  | 0, _, _, _, _, h, _, _, _ => by omega
  | n + 1, x3, I, h3, h2, hn, h0, h1, k => by
    unfold rl_88_2
    refine ⟨fun c => ?_, fun c => ?_⟩
    · rw [show (x2 - x3).toNat = 0 by omega] at k
      exact k I (m_e0_refl I) (by omega) (by unfold m_sl; simp)
    · intro v1 e1 _
      subst e1
      refine ⟨h3, by omega, ?_⟩
      intro v4 e4 _
      subst e4
      refine ⟨h0, by omega, ?_⟩
      intro I8 e8 v12 e12 _ I16 e16 y20 e20
      subst e8
      rw [su_f (by decide)] at e12
      subst e12
      rw [sw_w_s (by omega) (by omega)] at e16 e20
      subst e20
      have a1 : m_e0 I I16 := by rw [e16]; exact m_push_e0 I _ _ _
      have a2 : I16 1000 56 = I 1000 56 + 1 := by rw [e16]; exact su_eq _ _ _ _
      have a3 : m_row I16 = m_row I ++ [I 26 x3.toNat] := by rw [e16]; exact m_row_push h0
      refine m_bText_l n (by omega) h2 (by omega) (by omega) (by omega) (fun J b1 b2 b3 => k J (m_e0_trans a1 b1) (by omega) ?_)
      rw [b3, a3, a1.1 26 (by decide) (by decide), show (x2 - x3).toNat = (x2 - (x3 + 1)).toNat + 1 by omega, m_sl_succ, show (x3 + 1).toNat = x3.toNat + 1 by omega]
      simp
theorem m_bText {x1 x2 : Int} {I : sr_V} {Q : sr_V → Prop} (h3 : 0 ≤ x1) (h2 : x2 ≤ 362000) (h0 : 0 ≤ I 1000 56) (h1 : I 1000 56 + (x2 - x1).toNat ≤ 6000) (k : ∀ J, m_e0 I J → J 1000 56 = I 1000 56 + (x2 - x1).toNat → m_row J = m_row I ++ m_sl (I 26) x1.toNat (x2 - x1).toNat → Q J) : rm_88 x1 x2 I Q := ⟨_, m_bText_l ((x2 - x1).toNat + 1) h3 h2 (by omega) h0 h1 k⟩
end
