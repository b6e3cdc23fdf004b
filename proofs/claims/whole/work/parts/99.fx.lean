/-! ===== secrets that are held behind changes, and behind a path ===== -/
noncomputable section
/-- secrets of nodes whose key is as before -/
def w_hcy (G : w_G) (T : w_T) (x : Nat) : Wt := if x < t_w (gg_T G) ∧ t_ky T x ≠ [] ∧ t_ky T x = t_ky (gg_T G) x then gg_hd G x else []
/-- and of the path -/
def w_hp (G : w_G) (T : w_T) (l nn x : Nat) : Wt := if x = 2 * l then w_nm nn else if x % 2 = 1 ∧ x = t_ab l (w_h x) ∧ w_h x ≤ t_dp T then (if t_cb T l (w_h x - 1) = 0 then [] else w_dr (t_ls T l (w_nm (nn + 1)) (w_h x)) 5) else w_hcy G T x
variable {I J : sr_V} {mk mm : List Wt} {G : w_G} {T : w_T} {l nn m : Nat}
theorem m_hc (hst : m_st I mk m G) (hA : ∀ l', l' ≠ gg_lf G → gg_hd G (2 * l') = []) (hr : m_hr (gg_lf G) I m (gg_T G) J 48 T) : ∀ x, x < t_w T → w_az mk (J 44 (31 * 48 + x)) (w_hcy G T x) := fun x hx => by
  unfold w_hcy
  rcases hr x hx with ⟨h0, hz⟩ | ⟨h1, h2, h3⟩
  · rw [h0]
    refine Or.inl ⟨rfl, ?_⟩
    by_cases c : x < t_w (gg_T G) ∧ t_ky T x ≠ [] ∧ t_ky T x = t_ky (gg_T G) x
    · rw [if_pos c]
      rcases hz with hz | ⟨z1, z2⟩
      · exact absurd hz c.2.1
      · have := hA (x / 2) (by omega)
        rw [show 2 * (x / 2) = x by omega] at this
        exact this
    · rw [if_neg c]
  · rw [h2]
    have hh := hst.2.2.2.2.2.2.2.1 x h1
    by_cases c : t_ky T x = []
    · rw [if_neg (fun cc => cc.2.1 c)]
      have := hst.1.2.2.2.2 x h1 (by rw [← h3]; exact c)
      rw [this] at hh
      exact hh
    · rw [if_pos ⟨h1, c, h3⟩]
      exact hh
theorem t_ab_far : ∀ d : Fin 5, ∀ l : Fin 16, ∀ h : Fin 5, l.val < 2 ^ d.val → d.val < h.val → 2 ^ (d.val + 1) - 1 ≤ t_ab l.val h.val := by decide +kernel
theorem m_hp (hl : l < 2 ^ t_dp T) (h4 : t_dp T ≤ 4) (hle : w_le mk mm) (hp : m_hpt I J mm T l nn) (hc : ∀ x, x < t_w T → w_az mk (I 44 (31 * 48 + x)) (w_hcy G T x)) : ∀ x, x < t_w T → w_az mm (J 44 (31 * 48 + x)) (w_hp G T l nn x) := fun x hx => by
  have d16 := t_d_16 h4
  have w31 := t_w_4 h4
  obtain ⟨h1, h2, h3, h5⟩ := hp
  unfold w_hp
  by_cases c1 : x = 2 * l
  · rw [if_pos c1, c1]
    exact Or.inr h3
  · rw [if_neg c1]
    by_cases c2 : x % 2 = 1 ∧ x = t_ab l (w_h x) ∧ w_h x ≤ t_dp T
    · rw [if_pos c2]
      obtain ⟨a, b, c⟩ := c2
      have h0 : w_h x ≠ 0 := fun e => by
        have := (w_h_0 ⟨x, by omega⟩).mp e
        have : x % 2 = 0 := this
        omega
      obtain ⟨j, ej⟩ : ∃ j, w_h x = j + 1 := ⟨w_h x - 1, by omega⟩
      rw [ej, Nat.add_sub_cancel]
      rw [ej] at b c
      by_cases c3 : t_cb T l j = 0
      · rw [if_pos c3]
        have := h2 j (by omega) c3
        rw [← b] at this
        exact Or.inl ⟨this, rfl⟩
      · rw [if_neg c3]
        have := h1 j (by omega) c3
        rw [← b] at this
        exact Or.inr this
    · rw [if_neg c2, h5 x c1 (fun j hj e => c2 ?_)]
      · exact w_le_az hle (hc x hx)
      · have e1 : w_h (t_ab l (j + 1)) = j + 1 := (w_h_ab ⟨l, by omega⟩ ⟨j + 1, by omega⟩).1
        rw [e, e1]
        refine ⟨t_ab_o (by omega) (by omega) (by omega), rfl, ?_⟩
        rcases Nat.lt_or_ge (t_dp T) (j + 1) with g | g
        · exfalso
          have k1 : 2 ^ (t_dp T + 1) - 1 ≤ t_ab l (j + 1) := t_ab_far ⟨t_dp T, by omega⟩ ⟨l, by omega⟩ ⟨j + 1, by omega⟩ hl g
          have k2 : x < 2 ^ (t_dp T + 1) - 1 := hx
          omega
        · exact g
end
