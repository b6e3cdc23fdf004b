/-! ===== the reference: knowledge and numbers ===== -/
noncomputable section
section
variable {I J : sr_V} {d e : Nat → Wt} {nn : Nat} {K : Wt → Prop} {x : Int}
def m_B (I : sr_V) (d : Nat → Wt) (w : Wt) : Prop := ∃ u, m_k I u ∧ d u = w
def m_K (I : sr_V) (d : Nat → Wt) (K : Wt → Prop) : Prop := m_01 I ∧ (∀ t, m_k I t → m_R I t) ∧ (I 1000 19 = 0 ∨ I 1000 19 = 1) ∧ (I 1000 19 = 1 → m_clo I (m_k I)) ∧ ∀ w, K w ↔ w_cl (m_B I d) w
theorem m_K_clo (h : m_K I d K) : w_clo K := by
  have : K = w_cl (m_B I d) := funext fun w => propext (h.2.2.2.2 w)
  rw [this]
  exact w_cl_clo _
theorem m_clo_w (T : m_T I d nn) (hK : w_clo K) : m_clo I (fun t => m_R I t ∧ K (d t)) := by
  intro t h1 h2
  have r := T.2.2.2.2.1 t h1 h2
  have n1 := r.2.2.2.2.2.1
  refine ⟨fun hm => ⟨⟨h1, h2⟩, (hK _).1 ?_⟩, fun c6 hk hk2 => ?_⟩
  · unfold m_mk at hm
    have c8 : I 6 t ≠ 8 := by
      rcases hm with h | h | h | h
      · omega
      · have := h.1; omega
      · have := h.1; omega
      · have := h.1; omega
    refine ⟨(I 6 t).toNat, w_dz d (I 7 t), (if I 6 t = 3 then [(I 8 t).toNat] else w_dz d (I 8 t)), w_dz d (I 9 t), (m_sn I t).map (w_sg d), by rw [n1 c8]; rfl, ?_⟩
    have pos : ∀ y : Int, m_R I y.toNat ∧ K (d y.toNat) → K (w_dz d y) := fun y hy => by
      rw [w_dz_pos (by have := hy.1.1; omega)]
      exact hy.2
    rcases hm with h | ⟨h, h7⟩ | ⟨h, h7, h8⟩ | ⟨h, h7, h8, h9⟩
    · rcases h with h | h
      · exact Or.inl (by omega)
      · exact Or.inr (Or.inl (by omega))
    · exact Or.inr (Or.inr (Or.inl ⟨by omega, pos _ h7⟩))
    · exact Or.inr (Or.inr (Or.inr (Or.inl ⟨by omega, pos _ h7, by rw [if_neg (by omega)]; exact pos _ h8⟩)))
    · refine Or.inr (Or.inr (Or.inr (Or.inr ⟨by omega, pos _ h7, by rw [if_neg (by omega)]; exact pos _ h8, ?_⟩)))
      rcases h9 with h9 | h9
      · left; unfold w_dz; rw [if_pos h9]
      · exact Or.inr (pos _ h9)
  · obtain ⟨z1, z2, z3, z4, z5, z6, z7, z8, z9⟩ := m_sealed T (x := t) (by omega) h2 (by rw [Int.toNat_natCast]; exact c6)
    rw [Int.toNat_natCast] at z1 z2 z3 z4 z5 z6 z7 z8 z9
    have e6 := n1 (by omega)
    have r7 := (T.2.2.2.2.1 (I 7 t).toNat (by omega) (by omega)).2.2.2.2.2.1 (by omega)
    have op : ∀ w, (w = d (I 8 t).toNat ∨ (w = w_dz d (I 9 t) ∧ w_dz d (I 9 t) ≠ [])) → K w := by
      intro w hw
      apply (hK w).2
      have this : K (d t) := hk.2
      have hk2 : K (d (I 7 (I 7 t).toNat).toNat) := hk2.2
      rw [e6] at this
      unfold w_tm at this
      rw [c6, if_neg (by decide), w_dz_pos z1, w_dz_pos z3, r7] at this
      unfold w_tm at this
      rw [z7, w_dz_pos z8] at this
      exact ⟨_, _, _, _, _, _, this, hk2, hw, rfl⟩
    refine ⟨⟨⟨by omega, by omega⟩, op _ (Or.inl rfl)⟩, fun c9 => ⟨⟨by omega, by omega⟩, ?_⟩⟩
    have := op (w_dz d (I 9 t)) (Or.inr ⟨rfl, fun h => by
      obtain ⟨s', l', _, q⟩ := m_T_d0 T (t := (I 9 t).toNat) (by omega) (by omega)
      rw [w_dz_pos (by omega), q] at h
      cases h⟩)
    rw [w_dz_pos (by omega)] at this
    exact this
/-- behind infer -/
theorem m_K_infer (T : m_T I d nn) (h : m_K I d K) (hi : m_infd I J) : m_K J d K ∧ J 1000 19 = 1 ∧ ∀ t, m_R J t → (m_k J t ↔ K (d t)) := by
  obtain ⟨a1, a2, a3, a4, a5, a6, a7⟩ := hi
  have f4 := a2 4 (by decide)
  have hKc := m_K_clo h
  have sub : ∀ t, m_k J t → m_R I t ∧ K (d t) := a6 _ (m_clo_w T hKc) (fun t ht => ⟨h.2.1 t ht, (h.2.2.2.2 _).mpr (w_cl_base ⟨t, ht, rfl⟩)⟩)
  have TJ : m_T J d nn := by
    have e6 := a1 6 (by decide) (by decide)
    have e7 := a1 7 (by decide) (by decide)
    have e8 := a1 8 (by decide) (by decide)
    have e9 := a1 9 (by decide) (by decide)
    have e10 := a1 10 (by decide) (by decide)
    have e11 := a1 11 (by decide) (by decide)
    have e12 := a1 12 (by decide) (by decide)
    have e15 := a1 15 (by decide) (by decide)
    have e17 := a1 17 (by decide) (by decide)
    have e5 := a2 5 (by decide)
    obtain ⟨t1, t2, t3, t4, t5, t6, ch, c1, c2, c3⟩ := T
    refine ⟨by rw [f4]; exact t1, by rw [f4]; exact t2, by rw [e5]; exact t3, by rw [e5]; exact t4, ?_, ?_, ch, ?_, ?_, ?_⟩
    · rw [f4]
      intro t a b
      have := t5 t a b
      unfold m_rw m_va m_sn at this ⊢
      rw [e5, e6, e7, e8, e9, e10, e11, e17]
      exact this
    · rw [f4]; exact t6
    · intro b
      rcases c1 b with h | h
      · exact Or.inl (by rw [e15]; exact m_lk_e e12 _ _ h)
      · exact Or.inr h
    · rw [f4]; exact c2
    · rw [f4]
      intro t a b c
      have := c3 t a b (by rw [← e6]; exact c)
      unfold m_sn at this ⊢
      rw [e6, e7, e8, e9, e10, e11, e17]
      exact this
  have hR : ∀ t, m_k J t → m_R J t := fun t ht => by
    have := (sub t ht).1
    unfold m_R at this ⊢
    rw [f4]; exact this
  have hw : ∀ w, K w ↔ w_cl (m_B J d) w := fun w => ⟨fun hk => w_cl_mono (fun v ⟨u, u1, u2⟩ => ⟨u, a4 u u1, u2⟩) ((h.2.2.2.2 w).mp hk), fun hk => w_cl_le hKc (fun v ⟨u, u1, u2⟩ => by rw [← u2]; exact (sub u u1).2) hk⟩
  refine ⟨⟨a5, hR, Or.inr a3, fun _ => a7, hw⟩, a3, fun t ht => ?_⟩
  rw [w_tab_iff (m_tab TJ hR a7) ht, hw]
  rfl
/-- new terms change no knowledge -/
theorem m_K_e1 (T : m_T I d nn) (h : m_K I d K) (E : m_e1 I J) (he : ∀ u : Nat, (u : Int) ≤ I 1000 4 → e u = d u) : m_K J e K := by
  obtain ⟨h1, h2, h3, h4, h5⟩ := h
  obtain ⟨a1, a2, a3, a4, a5, a6, a7, a8⟩ := E
  have e16 : J 16 = I 16 := a1 16 (by decide) (by omega) (by decide) (by decide) (by decide)
  have hB : ∀ w, m_B J e w ↔ m_B I d w := by
    intro w
    unfold m_B m_k
    rw [e16]
    exact ⟨fun ⟨u, u1, u2⟩ => ⟨u, u1, by rw [← he u (h2 u u1).2]; exact u2⟩, fun ⟨u, u1, u2⟩ => ⟨u, u1, by rw [he u (h2 u u1).2]; exact u2⟩⟩
  refine ⟨fun t => by rw [e16]; exact h1 t, fun t ht => ?_, ?_, fun h19 => ?_, fun w => ?_⟩
  · unfold m_k at ht
    rw [e16] at ht
    have := h2 t ht
    exact ⟨this.1, by have := this.2; omega⟩
  · by_cases c : J 1000 4 = I 1000 4
    · rw [a7 c]; exact h3
    · rw [a8 (by omega)]; exact Or.inl rfl
  · by_cases c : J 1000 4 = I 1000 4
    · rw [a7 c] at h19
      have hc := h4 h19
      intro t t1 t2
      rw [c] at t2
      obtain ⟨b6, b7, b8, b9, _, _⟩ := a5 t t2
      have := hc t t1 t2
      unfold m_mk m_k at this ⊢
      rw [b6, b7, b8, b9, e16]
      refine ⟨this.1, fun c6 hk hk2 => ?_⟩
      have v := (T.2.2.2.2.1 t t1 t2).1
      have v3 := v.2.2.1
      have v4 := v.2.2.2.1
      clear v
      rw [(a5 (I 7 t).toNat (by omega)).2.1] at hk2
      exact this.2 c6 hk hk2
    · rw [a8 (by omega)] at h19; cases h19
  · rw [h5 w]
    exact ⟨w_cl_mono (fun v hv => (hB v).mpr hv), w_cl_mono (fun v hv => (hB v).mp hv)⟩
end
end
