/-! ===== who is added meets the way of who commits ===== -/
noncomputable section
variable {T T0 : w_T} {l k n x p : Nat} {L : List w_Ch} {c : w_Ch}
theorem t_kid_k : ∀ p : Fin 16, ∀ h : Fin 4, (t_ab p.val (h.val + 1) - 2 ^ h.val = t_ab p.val h.val ∨ t_ab p.val (h.val + 1) + 2 ^ h.val = t_ab p.val h.val) := by decide +kernel
theorem w_rs_ne (h : t_is T p) (hp : p < 16) : ∀ n, n ≤ 4 → w_rs T n (t_ab p n) ≠ []
  | 0, _ => by
    rw [t_ab_0]
    show (if t_ky T (2 * p) = [] then [] else 2 * p :: w_uml (t_um T (2 * p)) 16) ≠ []
    rw [if_neg h.2]
    exact List.cons_ne_nil _ _
  | n + 1, hn => by
    have ih := w_rs_ne h hp n (by omega)
    show (if t_ky T (t_ab p (n + 1)) = [] then w_rs T n (t_ab p (n + 1) - 2 ^ n) ++ w_rs T n (t_ab p (n + 1) + 2 ^ n) else t_ab p (n + 1) :: w_uml (t_um T (t_ab p (n + 1))) 16) ≠ []
    by_cases c : t_ky T (t_ab p (n + 1)) = []
    · rw [if_pos c]
      intro e
      have e2 := List.append_eq_nil_iff.mp e
      have kid : t_ab p (n + 1) - 2 ^ n = t_ab p n ∨ t_ab p (n + 1) + 2 ^ n = t_ab p n := t_kid_k ⟨p, hp⟩ ⟨n, by omega⟩
      rcases kid with g | g
      · rw [g] at e2; exact ih e2.1
      · rw [g] at e2; exact ih e2.2
    · rw [if_neg c]; exact List.cons_ne_nil _ _
theorem t_meet_k : ∀ d : Fin 5, ∀ l : Fin 16, ∀ p : Fin 16, l.val < 2 ^ d.val → p.val < 2 ^ d.val → l ≠ p → ∃ k : Fin 4, k.val < d.val ∧ t_ab p.val (k.val + 1) = t_ab l.val (k.val + 1) ∧ t_ab p.val k.val = t_si l.val k.val := by decide +kernel
/-- they meet at a height that counts -/
theorem t_meet (h4 : t_dp T ≤ 4) (hl : l < 2 ^ t_dp T) (hp : t_is T p) (hne : p ≠ l) : ∃ k, k < t_dp T ∧ t_cb T l k ≠ 0 ∧ t_ab p (k + 1) = t_ab l (k + 1) := by
  have d16 := t_d_16 h4
  have p1 := hp.1
  obtain ⟨k, k1, k2, k3⟩ := t_meet_k ⟨t_dp T, by omega⟩ ⟨l, by omega⟩ ⟨p, by omega⟩ hl p1 (fun e => hne (by have := congrArg Fin.val e; exact this.symm))
  refine ⟨k.val, k1, ?_, k2⟩
  have k3 : t_ab p k.val = t_si l k.val := k3
  have := w_rs_ne hp (by omega) k.val (by omega)
  rw [k3] at this
  unfold t_cb
  rw [if_neg this]
  decide
theorem h_ads_is (h0 : t_dp T0 ≤ 4) (hok : ∀ (k : Nat) (c : w_Ch), L[k]? = some c → p_cok c.1) (hr : h_room T0 L) : ∀ k, k ≤ L.length → ∀ p j, (p, j) ∈ h_ads T0 L k → t_is (h_fd h_a1 T0 L k) p ∧ (∀ l, t_is T0 l → p ≠ l) ∧ ∃ c : w_Ch, L[j]? = some c ∧ c.1.1 = 1
  | 0, _, p, j, h => by cases h
  | k + 1, hk, p, j, h => by
    have a := (h_fa_dp h0 hok k (by omega) (fun j c _ hc => hr j c hc)).1
    obtain ⟨d, hd⟩ := h_get (L := L) (k := k) (by omega)
    have ek := h_kn_e hd
    rw [h_fd_s hd]
    unfold h_a1
    by_cases c : d.1.1 = 1
    · rw [if_pos c]
      have hf : (h_lf d).2.1 ≠ [] := ((hok k d hd).2.1 (by omega)).2.2.2.2.2
      have hl := hr k d hd c
      have hi := fun l => t_add_is (l := l) (f := h_lf d) a hl hf
      rw [h_ads_1 (by rw [ek]; exact c)] at h
      rcases List.mem_append.mp h with h | h
      · obtain ⟨b1, b2, b3⟩ := h_ads_is h0 hok hr k (by omega) p j h
        exact ⟨(hi p).mpr (Or.inr b1), b2, b3⟩
      · rw [List.mem_singleton] at h
        injection h with e1 e2
        subst e1
        subst e2
        refine ⟨(hi _).mpr (Or.inl rfl), fun l hl2 e => ?_, d, hd, c⟩
        have := h_fa_is h0 hok hl2 j (by omega) (fun j c _ hc => hr j c hc)
        rw [← e] at this
        exact t_fl_sp.2.2 hl this
    · rw [if_neg c]
      rw [h_ads_n (by rw [ek]; exact c)] at h
      exact h_ads_is h0 hok hr k (by omega) p j h
end
