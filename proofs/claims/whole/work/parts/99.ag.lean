/-! ===== the class: knowledge and numbers ===== -/
noncomputable section
section
variable {H G X : sw_H} {d e : Nat → Wt} {nn : Nat} {K : Wt → Prop} {tl : List Wt} {s a b c : Int} {l : List Int}
theorem c_dn (T : c_T H d nn) {t s : Nat} {a b c : Wt} {l : List Wt} (ht : c_R H t) (e : d t = w_mk s (a :: b :: c :: l)) : c_d H t 0 = s ∧ w_dz d (c_d H t 1) = a ∧ (s ≠ 3 → w_dz d (c_d H t 2) = b) ∧ w_dz d (c_d H t 3) = c ∧ (s = 0 → t = 1) := by
  have r := T.2.2.2.2.2.2.2.2.2.1 t ht
  have v1 := r.1.1
  have v2 := r.1.2.1
  have v0 := r.1.2.2.2.2.2.2.2.2.2.1
  have n1 := r.2.2.2.2.2.1
  have n2 := r.2.2.2.2.2.2
  clear r
  by_cases c0 : c_d H t 0 = 0
  · obtain ⟨z1, z2, z3⟩ := v0 (Or.inl c0)
    rcases n2 c0 with ⟨h1, q⟩ | ⟨_, i, _, q⟩
    · rw [q] at e
      obtain ⟨e1, e2⟩ := w_mk_inj e
      simp only [List.cons.injEq] at e2
      have dz : w_dz d 0 = [] := if_pos rfl
      rw [z1, z2, z3, dz]
      exact ⟨by omega, e2.1, fun _ => e2.2.1, e2.2.2.1, fun _ => h1.1⟩
    · rw [q] at e
      have := (w_mk_inj e).2
      simp at this
  · rw [(n1 c0).1] at e
    obtain ⟨e1, e2⟩ := w_mk_inj e
    simp only [List.cons.injEq] at e2
    have es : c_d H t 0 = s := by omega
    refine ⟨es, e2.1, fun h => ?_, e2.2.2.1, fun h => by omega⟩
    rw [if_neg (by omega)] at e2
    exact e2.2.1
def c_kn (H : sw_H) (t : Nat) : Prop := c_R H t ∧ c_k H t
/-- what X wants to be closed -/
def c_clo (H : sw_H) (X : Nat → Prop) : Prop := ∀ t, c_R H t → (c_mk H X t → X t) ∧ (t = 1 → X t) ∧ (c_d H t 0 = 6 → X t → X (c_d H (c_d H t 1).toNat 1).toNat → X (c_d H t 2).toNat ∧ (c_d H t 3 ≠ 0 → X (c_d H t 3).toNat))
theorem c_sealed (T : c_T H d nn) {t : Nat} (ht : c_R H t) (c6 : c_d H t 0 = 6) : 1 ≤ c_d H t 1 ∧ c_d H t 1 < t ∧ 1 ≤ c_d H t 2 ∧ c_d H t 2 < t ∧ 0 ≤ c_d H t 3 ∧ c_d H t 3 < t ∧ c_d H (c_d H t 1).toNat 0 = 5 ∧ 1 ≤ c_d H (c_d H t 1).toNat 1 ∧ c_d H (c_d H t 1).toNat 1 < c_d H t 1 := by
  have v := (T.2.2.2.2.2.2.2.2.2.1 t ht).1
  have ht1 := ht.1
  have ht2 := ht.2
  have v4 := v.2.2.2.1
  have v5 := v.2.2.2.2.1
  have v6 := v.2.2.2.2.2.1
  have v9 := v.2.2.2.2.2.2.2.2.1 (by omega)
  obtain ⟨w1, w2, w3⟩ := v.2.2.2.2.2.2.2.2.2.2.2.2.2 c6
  clear v
  have u := (T.2.2.2.2.2.2.2.2.2.1 (c_d H t 1).toNat ⟨by omega, by omega⟩).1
  have u4 := u.2.2.2.1
  have u11 := u.2.2.2.2.2.2.2.2.2.2.1 (by omega)
  clear u T
  refine ⟨w1, by omega, w3, by omega, v5, by omega, w2, u11.1, by omega⟩
theorem c_d0 (T : c_T H d nn) {t : Nat} (ht : c_R H t) : ∃ s l, s ≤ 8 ∧ d t = w_mk s l := (c_g T).2 t ht.1 ht.2
theorem c_tab {kn : Nat → Prop} (T : c_T H d nn) (h0 : ∀ t, kn t → c_R H t) (hc : c_clo H kn) : w_tab (c_R H) d kn := by
  have inj := T.2.2.2.2.2.2.2.2.2.2.1
  refine ⟨inj, h0, fun t ht hm => ?_, fun t s a b c l ht e => ?_, fun t s q b c l hk e => ?_⟩
  · obtain ⟨s, a, b, c, l, e, m⟩ := hm
    obtain ⟨es, ea, eb, ec, e0⟩ := c_dn T ht e
    have v := (T.2.2.2.2.2.2.2.2.2.1 t ht).1
    have ht2 := ht.2
    have part : ∀ (x : Int) (w : Wt), 0 ≤ x → x ≤ t - 1 → w_dz d x = w → (∃ u, kn u ∧ d u = w) → kn x.toNat := by
      intro x w x0 x1 ex hu
      obtain ⟨u, k1, k2⟩ := hu
      have hu := h0 u k1
      by_cases cx : x = 0
      · exfalso
        obtain ⟨s', l', _, q⟩ := c_d0 T hu
        unfold w_dz at ex
        rw [if_pos cx, ← k2, q] at ex
        cases ex
      · rw [w_dz_pos (by omega), ← k2] at ex
        rw [inj x.toNat u ⟨by omega, by omega⟩ hu ex]
        exact k1
    have v3 := v.2.2.1
    have v4 := v.2.2.2.1
    have v5 := v.2.2.2.2.1
    have v6 := v.2.2.2.2.2.1
    have v7 := v.2.2.2.2.2.2.1
    have v9 := v.2.2.2.2.2.2.2.2.1
    clear v
    by_cases s0 : s = 0
    · exact (hc t ht).2.1 (e0 s0)
    · apply (hc t ht).1
      unfold c_mk
      rcases m with m | m | ⟨m1, m2⟩ | ⟨m1, m2, m3⟩ | ⟨m1, m2, m3, m4⟩
      · exact absurd m s0
      · exact Or.inl (by omega)
      · exact Or.inr (Or.inl ⟨by omega, part _ _ v3 v4 ea m2⟩)
      · refine Or.inr (Or.inr ⟨by omega, part _ _ v3 v4 ea m2, part _ _ v7 (v9 (by omega)) (eb (by omega)) m3, Or.inl ?_⟩)
        have v' := (T.2.2.2.2.2.2.2.2.2.1 t ht).1.2.2.2.2.2.2.2.2.2.2.2.2.1 (by omega)
        exact v'.2.2
      · refine Or.inr (Or.inr ⟨by omega, part _ _ v3 v4 ea m2, part _ _ v7 (v9 (by omega)) (eb (by omega)) m3, ?_⟩)
        rcases m4 with m4 | m4
        · left
          by_cases c0 : c_d H t 3 = 0
          · exact c0
          · exfalso
            obtain ⟨s', l', _, q⟩ := c_d0 T (t := (c_d H t 3).toNat) ⟨by omega, by omega⟩
            rw [w_dz_pos (by omega), q, m4] at ec
            cases ec
        · exact Or.inr (part _ _ v5 v6 ec m4)
  · obtain ⟨es, ea, eb, ec, e0⟩ := c_dn T ht e
    have v := (T.2.2.2.2.2.2.2.2.2.1 t ht).1
    have v3 := v.2.2.1
    have v4 := v.2.2.2.1
    have v5 := v.2.2.2.2.1
    have v6 := v.2.2.2.2.2.1
    have v9 := v.2.2.2.2.2.2.2.2.1
    have w1 := v.2.2.2.2.2.2.2.2.2.2
    have ht2 := ht.2
    have ht1 := ht.1
    refine ⟨fun h => ?_, fun h => ?_, fun h hcn => ?_⟩
    · have : 1 ≤ c_d H t 1 := by
        rcases h with h | h | h | h | h | h
        · exact (w1.1 (by omega)).1
        · exact (w1.2.1 (by omega)).1
        · exact (w1.1 (by omega)).1
        · exact (w1.1 (by omega)).1
        · exact (w1.2.2.1 (by omega)).1
        · exact (w1.2.2.2 (by omega)).1
      exact ⟨(c_d H t 1).toNat, ⟨by omega, by omega⟩, by rw [← ea, w_dz_pos this]⟩
    · have : 1 ≤ c_d H t 2 := by
        rcases h with h | h
        · exact (w1.2.2.1 (by omega)).2.1
        · exact (w1.2.2.2 (by omega)).2.2
      have := v9 (by omega)
      exact ⟨(c_d H t 2).toNat, ⟨by omega, by omega⟩, by rw [← eb (by omega), w_dz_pos (by omega)]⟩
    · have : c_d H t 3 ≠ 0 := fun h0 => hcn (by rw [← ec]; unfold w_dz; rw [if_pos h0])
      exact ⟨(c_d H t 3).toNat, ⟨by omega, by omega⟩, by rw [← ec, w_dz_pos (by omega)]⟩
  · have ht := h0 t hk
    have ht1 := ht.1
    have ht2 := ht.2
    obtain ⟨es, ea, eb, ec, e0⟩ := c_dn T ht e
    obtain ⟨z1, z2, z3, z4, z5, z6, z7, z8, z9⟩ := c_sealed T ht (by omega)
    rw [w_dz_pos z1] at ea
    have hR7 : c_R H (c_d H t 1).toNat := ⟨by omega, by omega⟩
    have r5 := ((T.2.2.2.2.2.2.2.2.2.1 (c_d H t 1).toNat hR7).2.2.2.2.2.1 (by omega)).1
    rw [ea] at r5
    obtain ⟨_, e2⟩ := w_mk_inj r5
    simp only [List.cons.injEq] at e2
    have es7 : s = d (c_d H (c_d H t 1).toNat 1).toNat := by rw [e2.1, w_dz_pos z8]
    have hR77 : c_R H (c_d H (c_d H t 1).toNat 1).toNat := ⟨by omega, by omega⟩
    refine ⟨⟨_, hR77, es7.symm⟩, fun ⟨u, k1, k2⟩ => ?_⟩
    have hu := h0 u k1
    have eu : u = (c_d H (c_d H t 1).toNat 1).toNat := inj _ _ hu hR77 (by rw [k2, es7])
    obtain ⟨o1, o2⟩ := (hc t ht).2.2 (by omega) hk (by rw [← eu]; exact k1)
    refine ⟨⟨_, o1, by rw [← eb (by omega), w_dz_pos z3]⟩, fun hcn => ?_⟩
    have c0 : c_d H t 3 ≠ 0 := fun h0 => hcn (by rw [← ec]; unfold w_dz; rw [if_pos h0])
    exact ⟨_, o2 c0, by rw [← ec, w_dz_pos (by omega)]⟩
theorem c_made (T : c_T H d nn) {S : Nat → Prop} {t : Nat} (ht : c_R H t) (hS : ∀ u, S u → c_R H u → K (d u)) (hR : ∀ u, S u → 1 ≤ u) (hm : c_mk H S t) : w_made K (d t) := by
  have r := T.2.2.2.2.2.2.2.2.2.1 t ht
  have n1 := r.2.2.2.2.2.1
  have v := r.1
  have v4 := v.2.2.2.1
  have v6 := v.2.2.2.2.2.1
  have v9 := v.2.2.2.2.2.2.2.2.1
  have ht2 := ht.2
  unfold c_mk at hm
  have c0 : c_d H t 0 ≠ 0 := by
    rcases hm with h | ⟨h, _⟩ | ⟨h, _⟩ <;> omega
  clear v r
  refine ⟨(c_d H t 0).toNat, w_dz d (c_d H t 1), (if c_d H t 0 = 3 then [(c_d H t 2).toNat] else w_dz d (c_d H t 2)), w_dz d (c_d H t 3), (c_sn H t).map (w_sg d), by rw [(n1 c0).1]; rfl, ?_⟩
  have pos : ∀ y : Int, y ≤ t - 1 → S y.toNat → K (w_dz d y) := fun y hy hs => by
    have := hR _ hs
    rw [w_dz_pos (by omega)]
    exact hS _ hs ⟨by omega, by omega⟩
  rcases hm with h | ⟨h, h7⟩ | ⟨h, h7, h8, h9⟩
  · exact Or.inr (Or.inl (by omega))
  · exact Or.inr (Or.inr (Or.inl ⟨by omega, pos _ v4 h7⟩))
  · have k8 := pos _ (v9 (by omega)) h8
    rcases h with h | h
    · exact Or.inr (Or.inr (Or.inr (Or.inl ⟨by omega, pos _ v4 h7, by rw [if_neg (by omega)]; exact k8⟩)))
    · refine Or.inr (Or.inr (Or.inr (Or.inr ⟨by omega, pos _ v4 h7, by rw [if_neg (by omega)]; exact k8, ?_⟩)))
      rcases h9 with h9 | h9
      · left; unfold w_dz; rw [if_pos h9]
      · exact Or.inr (pos _ v6 h9)
theorem c_clo_w (T : c_T H d nn) (hK : w_clo K) : c_clo H (fun t => c_R H t ∧ K (d t)) := by
  intro t ht
  have r := T.2.2.2.2.2.2.2.2.2.1 t ht
  have n1 := r.2.2.2.2.2.1
  have n2 := r.2.2.2.2.2.2
  have ht2 := ht.2
  clear r
  refine ⟨fun hm => ⟨ht, (hK _).1 (c_made T ht (fun u hu _ => hu.2) (fun u hu => hu.1.1) hm)⟩, fun h1 => ⟨ht, ?_⟩, fun c6 hk hk2 => ?_⟩
  · by_cases c0 : c_d H t 0 = 0
    · rcases n2 c0 with ⟨_, q⟩ | ⟨h2, _⟩
      · rw [q]
        exact (hK _).1 ⟨0, [], [], [], [], rfl, Or.inl rfl⟩
      · exact absurd h1 h2.1
    · have v := (T.2.2.2.2.2.2.2.2.2.1 t ht).1
      have s0 := v.1
      have s7 := v.2.1
      have v4 := v.2.2.2.1
      have w1 := v.2.2.2.2.2.2.2.2.2.2
      have h : c_d H t 0 = 1 ∨ (c_d H t 0 = 2 ∨ c_d H t 0 = 5 ∨ c_d H t 0 = 7) ∨ c_d H t 0 = 3 ∨ c_d H t 0 = 4 ∨ c_d H t 0 = 6 := by clear w1 v n1 n2 hK T; omega
      rcases h with h | h | h | h | h
      · exact (hK _).1 (c_made (S := fun t => c_R H t ∧ K (d t)) T ht (fun u hu _ => hu.2) (fun u hu => hu.1.1) (Or.inl h))
      · have := (w1.1 h).1; omega
      · have := (w1.2.1 h).1; omega
      · have := (w1.2.2.1 h).1; omega
      · have := (w1.2.2.2 h).1; omega
  · obtain ⟨z1, z2, z3, z4, z5, z6, z7, z8, z9⟩ := c_sealed T ht c6
    have e6 := (n1 (by omega)).1
    have r7 := ((T.2.2.2.2.2.2.2.2.2.1 (c_d H t 1).toNat ⟨by omega, by omega⟩).2.2.2.2.2.1 (by omega)).1
    have op : ∀ w, (w = d (c_d H t 2).toNat ∨ (w = w_dz d (c_d H t 3) ∧ w_dz d (c_d H t 3) ≠ [])) → K w := by
      intro w hw
      apply (hK w).2
      have this : K (d t) := hk.2
      have hk2 : K (d (c_d H (c_d H t 1).toNat 1).toNat) := hk2.2
      rw [e6] at this
      unfold w_tm at this
      rw [c6, if_neg (by decide), w_dz_pos z1, w_dz_pos z3, r7] at this
      unfold w_tm at this
      rw [z7, w_dz_pos z8] at this
      exact ⟨_, _, _, _, _, _, this, hk2, hw, rfl⟩
    refine ⟨⟨⟨by omega, by omega⟩, op _ (Or.inl rfl)⟩, fun c9 => ⟨⟨by omega, by omega⟩, ?_⟩⟩
    have := op (w_dz d (c_d H t 3)) (Or.inr ⟨rfl, fun h => by
      obtain ⟨s', l', _, q⟩ := c_d0 T (t := (c_d H t 3).toNat) ⟨by omega, by omega⟩
      rw [w_dz_pos (by omega), q] at h
      cases h⟩)
    rw [w_dz_pos (by omega)] at this
    exact this
def c_B (H : sw_H) (d : Nat → Wt) (w : Wt) : Prop := ∃ u, c_kn H u ∧ d u = w
def c_K (H : sw_H) (d : Nat → Wt) (K : Wt → Prop) : Prop := c_01 H ∧ c_clo H (c_kn H) ∧ ∀ w, K w ↔ w_cl (c_B H d) w
theorem c_K_clo (h : c_K H d K) : w_clo K := by
  have : K = w_cl (c_B H d) := funext fun w => propext (h.2.2 w)
  rw [this]
  exact w_cl_clo _
theorem c_K_row (T : c_T H d nn) (h : c_K H d K) {t : Nat} (ht : c_R H t) : c_k H t ↔ K (d t) := by
  have q := w_tab_iff (c_tab T (fun _ h => h.1) h.2.1) ht
  rw [h.2.2]
  exact ⟨fun hk => q.mp ⟨ht, hk⟩, fun hk => (q.mpr hk).2⟩
/-- a new term changes no knowledge -/
theorem c_K_ad (T : c_T H d nn) {nm : Nat} (TX : c_T X e nm) (he : ∀ u : Nat, (u : Int) ≤ c_n H → e u = d u) (h : c_K H d K) (A : c_ad H X s a b c l) (h01 : c_01 X) : c_K X e K := by
  have hKc := c_K_clo h
  obtain ⟨h1, h2, h3⟩ := h
  obtain ⟨a1, a2, a3, a4, x0, x1, x2, x3, x8, x9, a5, a6, a7⟩ := A
  have t1 := T.2.2.1
  have hT : (((c_n H + 1).toNat : Nat) : Int) = c_n H + 1 := by omega
  have RT : c_R X (c_n H + 1).toNat := ⟨by omega, by omega⟩
  have old : ∀ t : Nat, (t : Int) ≤ c_n H → (c_kn X t ↔ c_kn H t) := fun t ht => by
    unfold c_kn c_R c_k
    rw [a4 t 9 ht (by omega)]
    constructor
    · rintro ⟨⟨g1, g2⟩, g3⟩; exact ⟨⟨g1, ht⟩, g3⟩
    · rintro ⟨⟨g1, g2⟩, g3⟩; exact ⟨⟨g1, by omega⟩, g3⟩
  have split : ∀ t, c_R X t → c_R H t ∨ t = (c_n H + 1).toNat := fun t ht => by
    have h1 := ht.1
    have h2 := ht.2
    by_cases ct : (t : Int) ≤ c_n H
    · exact Or.inl ⟨h1, ct⟩
    · exact Or.inr (by omega)
  have bnd : ∀ t, c_R X t → 0 ≤ c_d X t 1 ∧ c_d X t 1 < t ∧ 0 ≤ c_d X t 3 ∧ c_d X t 3 < t ∧ 0 ≤ c_d X t 2 ∧ (c_d X t 0 = 4 ∨ c_d X t 0 = 6 → c_d X t 2 < t) := fun t ht => by
    have v := (TX.2.2.2.2.2.2.2.2.2.1 t ht).1
    have v3 := v.2.2.1
    have v4 := v.2.2.2.1
    have v5 := v.2.2.2.2.1
    have v6 := v.2.2.2.2.2.1
    have v7 := v.2.2.2.2.2.2.1
    have v9 := v.2.2.2.2.2.2.2.2.1
    exact ⟨v3, by omega, v5, by omega, v7, fun h => by have := v9 (by omega); omega⟩
  refine ⟨h01, fun t ht => ?_, fun w => ?_⟩
  · obtain ⟨b1, b2, b3, b4, b5, b6⟩ := bnd t ht
    have ht2 := ht.2
    rcases split t ht with hr | hr
    · have hr2 := hr.2
      obtain ⟨q1, q2, q3⟩ := h2 t hr
      refine ⟨fun hm => ?_, fun e1 => (old t hr2).mpr (q2 e1), fun c6 k1 k2 => ?_⟩
      · refine (old t hr2).mpr (q1 ((c_mk_cg (X := X) (Y := H) (fun k hk => a4 t k hr2 (by omega)) ?_ (fun h46 => ?_) ?_).mp hm))
        · rw [← a4 t 1 hr2 (by omega)]; exact old _ (by omega)
        · rw [← a4 t 0 hr2 (by omega)] at h46
          have := b6 h46
          rw [← a4 t 2 hr2 (by omega)]; exact old _ (by omega)
        · rw [← a4 t 3 hr2 (by omega)]; exact old _ (by omega)
      · obtain ⟨z1, z2, z3, z4, z5, z6, z7, z8, z9⟩ := c_sealed TX ht c6
        have e1 := a4 t 1 hr2 (by omega)
        have e11 := a4 (c_d H t 1).toNat 1 (by omega) (by omega)
        have g := q3 (by rw [← a4 t 0 hr2 (by omega)]; exact c6) ((old t hr2).mp k1) (by
          rw [← e11, ← e1]
          exact (old _ (by omega)).mp k2)
        rw [← a4 t 2 hr2 (by omega), ← a4 t 3 hr2 (by omega)] at g
        exact ⟨(old _ (by omega)).mpr g.1, fun h => (old _ (by omega)).mpr (g.2 h)⟩
    · refine ⟨fun hm => ⟨ht, ?_⟩, fun e1 => by omega, fun c6 k1 k2 => ?_⟩
      · have hm2 : c_mk X (c_k X) t := by
          unfold c_mk at hm ⊢
          rcases hm with g | ⟨g1, g2⟩ | ⟨g1, g2, g3, g4⟩
          · exact Or.inl g
          · exact Or.inr (Or.inl ⟨g1, g2.2⟩)
          · refine Or.inr (Or.inr ⟨g1, g2.2, g3.2, ?_⟩)
            rcases g4 with g4 | g4
            · exact Or.inl g4
            · exact Or.inr g4.2
        rw [hr] at hm2 ⊢
        rcases x9 with x9 | x9
        · exact x9.1
        · exact absurd hm2 x9.2
      · have k1' := k1.2
        rw [hr] at k1'
        unfold c_k at k1'
        rcases x9 with x9 | x9
        · have hm := x9.2
          rw [← hr] at hm
          obtain ⟨z1, z2, z3, z4, z5, z6, z7, z8, z9⟩ := c_sealed TX ht c6
          unfold c_mk at hm
          rcases hm with g | ⟨g1, g2⟩ | ⟨g1, g2, g3, g4⟩
          · omega
          · omega
          · refine ⟨⟨⟨by omega, by omega⟩, g3⟩, fun h => ?_⟩
            rcases g4 with g4 | g4
            · exact absurd g4 h
            · exact ⟨⟨by omega, by omega⟩, g4⟩
        · omega
  · rw [h3]
    have fw : ∀ v, c_B H d v → c_B X e v := fun v ⟨u, u1, u2⟩ => ⟨u, (old u u1.1.2).mpr u1, by rw [he u u1.1.2]; exact u2⟩
    refine ⟨w_cl_mono fw, fun hw => (h3 w).mp (w_cl_le hKc (fun v ⟨u, u1, u2⟩ => ?_) hw)⟩
    rcases split u u1.1 with hr | hr
    · rw [← u2, he u hr.2]
      exact (h3 _).mpr (w_cl_base ⟨u, (old u hr.2).mp u1, rfl⟩)
    · have k1 := u1.2
      unfold c_k at k1
      rw [hr] at k1
      rcases x9 with x9 | x9
      · rw [← u2, hr]
        refine (hKc _).1 (c_made (S := fun u => c_k X u ∧ 1 ≤ u ∧ (u : Int) ≤ c_n H) TX RT (fun q q1 q2 => ?_) (fun q hq => hq.2.1) ?_)
        · rw [he q q1.2.2]
          exact (h3 _).mpr (w_cl_base ⟨q, (old q q1.2.2).mp ⟨q2, q1.1⟩, rfl⟩)
        · have hm := x9.2
          obtain ⟨b1, b2, b3, b4, b5, b6⟩ := bnd _ RT
          have pos : ∀ y : Int, 0 ≤ y → y < c_n H + 1 → c_k X y.toNat → y ≠ 0 → c_k X y.toNat ∧ 1 ≤ y.toNat ∧ (y.toNat : Int) ≤ c_n H := fun y y1 y2 y3 y4 => ⟨y3, by omega, by omega⟩
          have w1 := (TX.2.2.2.2.2.2.2.2.2.1 _ RT).1.2.2.2.2.2.2.2.2.2.2
          unfold c_mk at hm ⊢
          rcases hm with g | ⟨g1, g2⟩ | ⟨g1, g2, g3, g4⟩
          · exact Or.inl g
          · refine Or.inr (Or.inl ⟨g1, pos _ b1 (by omega) g2 ?_⟩)
            rcases g1 with g | g | g | g
            · have := (w1.1 (by omega)).1; omega
            · have := (w1.2.1 (by omega)).1; omega
            · have := (w1.1 (by omega)).1; omega
            · have := (w1.1 (by omega)).1; omega
          · have n12 : c_d X (c_n H + 1).toNat 1 ≠ 0 ∧ c_d X (c_n H + 1).toNat 2 ≠ 0 := by
              rcases g1 with g | g
              · have := w1.2.2.1 g; omega
              · have := w1.2.2.2 g; omega
            refine Or.inr (Or.inr ⟨g1, pos _ b1 (by omega) g2 n12.1, pos _ b5 (by have := b6 g1; omega) g3 n12.2, ?_⟩)
            by_cases c3 : c_d X (c_n H + 1).toNat 3 = 0
            · exact Or.inl c3
            · rcases g4 with g4 | g4
              · exact Or.inl g4
              · exact Or.inr (pos _ b3 (by omega) g4 c3)
      · omega
/-- the numbers of terms -/
def c_N (H : sw_H) (d : Nat → Wt) (tl : List Wt) : Prop := sw_iv H 3 7 = tl.length ∧ tl.length < sw_ln H (sw_rv H 3 6) ∧ (∀ i w, tl[i]? = some w → ∃ t : Nat, c_R H t ∧ sw_iv H (sw_rv H 3 6) (i + 1) = t ∧ d t = w) ∧ (∀ t, c_R H t → c_d H t 8 = if d t ∈ tl then (tl.idxOf (d t) : Int) + 1 else 0) ∧ tl.Nodup
theorem c_N_ad (he : ∀ u : Nat, (u : Int) ≤ c_n H → e u = d u) (hnew : e (c_n H + 1).toNat ∉ tl) (h : c_N H d tl) (A : c_ad H X s a b c l) : c_N X e tl := by
  obtain ⟨h1, h2, h3, h4, h5⟩ := h
  obtain ⟨a1, a2, a3, a4, x0, x1, x2, x3, x8, x9, a5, a6, a7⟩ := A
  refine ⟨by rw [a3 7 (by decide) (by decide)]; exact h1, by rw [a5, a7]; exact h2, fun i w hw => ?_, fun t ht => ?_, h5⟩
  · obtain ⟨t, t1, t2, t3⟩ := h3 i w hw
    exact ⟨t, ⟨t1.1, by have := t1.2; omega⟩, by rw [a5, a6]; exact t2, by rw [he t t1.2]; exact t3⟩
  · have k1 := ht.1
    have k2 := ht.2
    by_cases ct : (t : Int) ≤ c_n H
    · rw [a4 t 8 ct (by omega), he t ct]
      exact h4 t ⟨k1, ct⟩
    · have e1 : t = (c_n H + 1).toNat := by omega
      rw [e1, x8, if_neg hnew]
/-- all of Terms: d what the rows stand for, nn names, K what is known, tl what has a number -/
def c_A (H : sw_H) (d : Nat → Wt) (nn : Nat) (K : Wt → Prop) (tl : List Wt) : Prop := c_T H d nn ∧ c_Z H ∧ ¬ c_ow H 4 ∧ ¬ c_ow H 5 ∧ c_U H ∧ c_K H d K ∧ c_N H d tl ∧ sw_iv H 3 9 = 0
end
end
