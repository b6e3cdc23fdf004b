/-! ===== unmerged leaves stand in the tree ===== -/
noncomputable section
/-- unmerged leaves of a node stand in the tree, below it -/
def t_inv (T : w_T) : Prop := ∀ x, x < t_w T → t_ky T x ≠ [] → ∀ b, b < 16 → w_bit (t_um T x) b = 1 → t_is T b ∧ x = t_ab b (w_h x)
variable {T : w_T} {l k n m nn x y b : Nat} {z : Int}
theorem w_uml_in : ∀ k, y ∈ w_uml z k → ∃ b, b < k ∧ y = 2 * b ∧ w_bit z b = 1
  | 0, h => by unfold w_uml at h; simp at h
  | k + 1, h => by
    rw [w_uml_s, List.mem_append] at h
    rcases h with h | h
    · obtain ⟨b, b1, b2⟩ := w_uml_in k h
      exact ⟨b, by omega, b2⟩
    · by_cases c : w_bit z k = 1
      · rw [if_pos c, List.mem_singleton] at h
        exact ⟨k, by omega, h, c⟩
      · rw [if_neg c] at h; cases h
theorem t_pk_5 (h : t_pk T) (hx : x < t_w T) (hk : t_ky T x ≠ []) : (t_ky T x).head? = some 5 := by
  rcases h x hx with c | ⟨a, c⟩
  · exact absurd c hk
  · rw [c]; rfl
theorem w_rs_in (ok : t_ok T) (hi : t_inv T) (hp : t_pk T) : ∀ (h x : Nat), w_h x = h → x + 2 ^ h ≤ t_w T → ∀ y ∈ w_rs T h x, y < t_w T ∧ (t_ky T y).head? = some 5 := by
  have full : ∀ x, x < t_w T → t_ky T x ≠ [] → ∀ y ∈ x :: w_uml (t_um T x) 16, y < t_w T ∧ (t_ky T y).head? = some 5 := fun x hx hk y hy => by
    rcases List.mem_cons.mp hy with c | c
    · subst c; exact ⟨hx, t_pk_5 hp hx hk⟩
    · obtain ⟨b, b1, b2, b3⟩ := w_uml_in 16 c
      obtain ⟨i1, i2⟩ := (hi x hx hk b b1 b3).1
      subst b2
      have hw := (t_lf_w T b).mpr i1
      exact ⟨hw, t_pk_5 hp hw i2⟩
  intro h
  induction h with
  | zero =>
    intro x e hx y hy
    have hy : y ∈ (if t_ky T x = [] then [] else x :: w_uml (t_um T x) 16) := hy
    by_cases c : t_ky T x = []
    · rw [if_pos c] at hy; cases hy
    · rw [if_neg c] at hy
      exact full x (by have : 2 ^ 0 = 1 := rfl; omega) c y hy
  | succ h ih =>
    intro x e hx y hy
    have w31 := t_w_4 ok.1
    have hp1 : 0 < 2 ^ (h + 1) := Nat.two_pow_pos _
    have hp2 : 2 ^ (h + 1) = 2 * 2 ^ h := by rw [Nat.pow_succ]; omega
    have hy : y ∈ (if t_ky T x = [] then w_rs T h (x - 2 ^ h) ++ w_rs T h (x + 2 ^ h) else x :: w_uml (t_um T x) 16) := hy
    by_cases c : t_ky T x = []
    · rw [if_pos c] at hy
      obtain ⟨k1, k2, k3⟩ := w_h_kid (by omega) e
      rcases List.mem_append.mp hy with g | g
      · exact ih _ k2 (by omega) y g
      · exact ih _ k3 (by omega) y g
    · rw [if_neg c] at hy
      exact full x (by omega) c y hy
end
