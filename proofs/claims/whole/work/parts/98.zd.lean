/-! ===== the reference: the term of sort, parts and signs ===== -/
noncomputable section
section
variable {I J : sr_V} {d e : Nat → Wt} {nn : Nat}
theorem m_T_d0 (T : m_T I d nn) {t : Nat} (h1 : 1 ≤ t) (h2 : (t : Int) ≤ I 1000 4) : ∃ s l, s ≤ 8 ∧ d t = w_mk s l := by
  obtain ⟨v, _, _, _, _, n1, n2⟩ := T.2.2.2.2.1 t h1 h2
  by_cases c : I 6 t = 8
  · obtain ⟨i, _, e⟩ := n2 c
    exact ⟨8, [[i]], by omega, e⟩
  · exact ⟨(I 6 t).toNat, _, by have := v.1; have := v.2.1; omega, n1 c⟩
theorem m_dz_inj (T : m_T I d nn) {x y : Int} (hx : 0 ≤ x) (hx1 : x ≤ I 1000 4) (hy : 0 ≤ y) (hy1 : y ≤ I 1000 4) (h : w_dz d x = w_dz d y) : x = y := by
  unfold w_dz at h
  by_cases c : x = 0
  · by_cases c2 : y = 0
    · omega
    · rw [if_pos c, if_neg c2] at h
      obtain ⟨s, l, _, q⟩ := m_T_d0 T (t := y.toNat) (by omega) (by omega)
      rw [q] at h
      cases h
  · by_cases c2 : y = 0
    · rw [if_pos c2, if_neg c] at h
      obtain ⟨s, l, _, q⟩ := m_T_d0 T (t := x.toNat) (by omega) (by omega)
      rw [q] at h
      cases h
    · rw [if_neg c, if_neg c2] at h
      have := T.2.2.2.2.2.1 x.toNat y.toNat (by omega) (by omega) (by omega) (by omega) h
      omega
theorem m_sg_inj (T : m_T I d nn) {x y : Int} (hx : m_vs (I 1000 4) x) (hy : m_vs (I 1000 4) y) (h : w_sg d x = w_sg d y) : x = y := by
  unfold m_vs at hx hy
  unfold w_sg at h
  by_cases c : x < 256
  · by_cases c2 : y < 256
    · rw [if_pos c, if_pos c2] at h
      simp only [List.cons.injEq, and_true, true_and] at h
      omega
    · rw [if_pos c, if_neg c2] at h
      obtain ⟨s, l, hs, q⟩ := m_T_d0 T (t := (y - 256).toNat) (by omega) (by omega)
      rw [q] at h
      unfold w_mk at h
      have := (List.cons.inj h).1
      omega
  · by_cases c2 : y < 256
    · rw [if_pos c2, if_neg c] at h
      obtain ⟨s, l, hs, q⟩ := m_T_d0 T (t := (x - 256).toNat) (by omega) (by omega)
      rw [q] at h
      unfold w_mk at h
      have := (List.cons.inj h).1
      omega
    · rw [if_neg c, if_neg c2] at h
      have := T.2.2.2.2.2.1 (x - 256).toNat (y - 256).toNat (by omega) (by omega) (by omega) (by omega) h
      omega
theorem m_sgs_inj (T : m_T I d nn) : ∀ (l m : List Int), (∀ x ∈ l, m_vs (I 1000 4) x) → (∀ x ∈ m, m_vs (I 1000 4) x) → l.map (w_sg d) = m.map (w_sg d) → l = m
  | [], [], _, _, _ => rfl
  | [], _ :: _, _, _, h => by cases h
  | _ :: _, [], _, _, h => by cases h
  | x :: l, y :: m, hl, hm, h => by
    have h := List.cons.inj h
    rw [m_sg_inj T (hl x List.mem_cons_self) (hm y List.mem_cons_self) h.1, m_sgs_inj T l m (fun z hz => hl z (List.mem_cons_of_mem _ hz)) (fun z hz => hm z (List.mem_cons_of_mem _ hz)) h.2]
theorem m_tm_inj (T : m_T I d nn) {s a b c s' a' b' c' : Int} {l m : List Int} {K K' : sr_V} (v : m_va K (I 1000 4) s a b c) (v' : m_va K' (I 1000 4) s' a' b' c') (hl : ∀ x ∈ l, m_vs (I 1000 4) x) (hm : ∀ x ∈ m, m_vs (I 1000 4) x) (h : w_tm d s a b c l = w_tm d s' a' b' c' m) : s = s' ∧ a = a' ∧ b = b' ∧ c = c' ∧ l = m := by
  obtain ⟨v1, v2, v3, v4, v5, v6, v7, v8, v9, _⟩ := v
  obtain ⟨u1, u2, u3, u4, u5, u6, u7, u8, u9, _⟩ := v'
  unfold w_tm at h
  obtain ⟨h1, h2⟩ := w_mk_inj h
  have es : s = s' := by omega
  subst es
  simp only [List.cons.injEq] at h2
  obtain ⟨h3, h4, h5, h6⟩ := h2
  refine ⟨rfl, m_dz_inj T v3 v4 u3 u4 h3, ?_, m_dz_inj T v5 v6 u5 u6 h5, m_sgs_inj T l m hl hm h6⟩
  by_cases c : s = 3
  · rw [if_pos c, if_pos c] at h4
    simp only [List.cons.injEq, and_true] at h4
    omega
  · rw [if_neg c, if_neg c] at h4
    exact m_dz_inj T v7 (v9 c) u7 (u9 c) h4
theorem w_dz_e {n : Int} (h : ∀ u : Nat, (u : Int) ≤ n → e u = d u) {x : Int} (h0 : 0 ≤ x) (hx : x ≤ n) : w_dz e x = w_dz d x := by
  unfold w_dz
  by_cases c : x = 0
  · rw [if_pos c, if_pos c]
  · rw [if_neg c, if_neg c, h x.toNat (by omega)]
theorem w_tm_e {n : Int} (h : ∀ u : Nat, (u : Int) ≤ n → e u = d u) {K : sr_V} {s a b c : Int} {l : List Int} (v : m_va K n s a b c) (hl : ∀ x ∈ l, m_vs n x) : w_tm e s a b c l = w_tm d s a b c l := by
  obtain ⟨v1, v2, v3, v4, v5, v6, v7, v8, v9, _⟩ := v
  unfold w_tm
  rw [w_dz_e h v3 v4, w_dz_e h v5 v6, show l.map (w_sg e) = l.map (w_sg d) from List.map_congr_left (fun x hx => by
    have := hl x hx
    unfold m_vs at this
    unfold w_sg
    by_cases c : x < 256
    · rw [if_pos c, if_pos c]
    · rw [if_neg c, if_neg c, h _ (by omega)])]
  by_cases c : s = 3
  · rw [if_pos c, if_pos c]
  · rw [if_neg c, if_neg c, w_dz_e h v7 (v9 c)]
theorem m_va_up {n n' s a b c : Int} (h : n ≤ n') (hI : ∀ t : Nat, (t : Int) ≤ n → J 6 t = I 6 t) (v : m_va I n s a b c) : m_va J n' s a b c := by
  obtain ⟨v1, v2, v3, v4, v5, v6, v7, v8, v9, v10, v11, v12, v13, v14⟩ := v
  refine ⟨v1, v2, v3, by omega, v5, by omega, v7, v8, fun h => by have := v9 h; omega, v10, v11, v12, v13, fun h => ?_⟩
  obtain ⟨w1, w2, w3⟩ := v14 h
  exact ⟨w1, by rw [hI _ (by omega)]; exact w2, w3⟩
theorem m_vs_up {n n' x : Int} (h : n ≤ n') (v : m_vs n x) : m_vs n' x := by unfold m_vs at *; omega
theorem m_sl_e {f g : Nat → Int} {a n : Nat} {m : Int} (h : ∀ k : Nat, (k : Int) < m → g k = f k) (hn : ((a + n : Nat) : Int) ≤ m) : m_sl g a n = m_sl f a n := by
  unfold m_sl
  apply List.map_congr_left
  intro k hk
  rw [List.mem_range] at hk
  exact h _ (by omega)
/-- a term is added: what stays right -/
theorem m_T_rows (T : m_T I d nn) {s a b c : Int} (N : m_nw I J s a b c) (hr0 : 0 ≤ I 1000 56) (nn' : Nat) (hnn : nn ≤ nn') (he : ∀ u : Nat, (u : Int) ≤ I 1000 4 → e u = d u) : ∀ t : Nat, 1 ≤ t → (t : Int) ≤ I 1000 4 → m_rw J e nn' t ∧ m_sn J t = m_sn I t := by
  intro t h1 h2
  obtain ⟨v, w1, w2, w3, w4, w5, w6⟩ := T.2.2.2.2.1 t h1 h2
  obtain ⟨n1, n2, n3, n4, n5, n6, n7, n8, n9, n10, n11, n12, n13, n14⟩ := N
  obtain ⟨r6, r7, r8, r9, r10, r11⟩ := n6 t (by omega)
  have hs : m_sn J t = m_sn I t := by
    unfold m_sn
    rw [r10, r11]
    exact m_sl_e (m := I 1000 5) n13 (by omega)
  refine ⟨⟨?_, by rw [r10]; exact w1, by rw [r11]; exact w2, by rw [r10, r11, n4]; omega, by rw [hs]; exact w4, ?_, ?_⟩, hs⟩
  · rw [r6, r7, r8, r9]
    exact m_va_up (Int.le_refl _) (fun u hu => (n6 u (by omega)).1) v
  · rw [r6, r7, r8, r9, hs]
    intro c
    rw [he t h2, w5 c]
    exact (w_tm_e (n := (t : Int) - 1) (fun u hu => he u (by omega)) v w4).symm
  · rw [r6, he t h2]
    intro c
    obtain ⟨i, q1, q2⟩ := w6 c
    exact ⟨i, by omega, q2⟩
end
end
