/-! ===== the reference: what the intruder knows ===== -/
noncomputable section
/-- t can be made of X -/
def m_mk (I : sr_V) (X : Nat → Prop) (t : Nat) : Prop := (I 6 t = 0 ∨ I 6 t = 1) ∨ ((I 6 t = 2 ∨ I 6 t = 3 ∨ I 6 t = 5 ∨ I 6 t = 7) ∧ X (I 7 t).toNat) ∨ (I 6 t = 4 ∧ X (I 7 t).toNat ∧ X (I 8 t).toNat) ∨ (I 6 t = 6 ∧ X (I 7 t).toNat ∧ X (I 8 t).toNat ∧ (I 9 t = 0 ∨ X (I 9 t).toNat))
def m_clo (I : sr_V) (X : Nat → Prop) : Prop := ∀ t : Nat, 1 ≤ t → (t : Int) ≤ I 1000 4 → (m_mk I X t → X t) ∧ (I 6 t = 6 → X t → X (I 7 (I 7 t).toNat).toNat → X (I 8 t).toNat ∧ (I 9 t ≠ 0 → X (I 9 t).toNat))
def m_k (I : sr_V) (t : Nat) : Prop := I 16 t = 1
def m_01 (I : sr_V) : Prop := ∀ t, I 16 t = 0 ∨ I 16 t = 1
section
variable {I J K : sr_V} {d : Nat → Wt} {nn : Nat} {x : Int}
theorem m_canMake {Q : Int → sr_V → Prop} (T : m_T I d nn) (h01 : m_01 I) (h1 : 1 ≤ x) (h2 : x ≤ I 1000 4) (q1 : m_mk I (m_k I) x.toNat → Q 1 I) (q0 : ¬ m_mk I (m_k I) x.toNat → Q 0 I) : rm_175 x I Q := by
  have t2 := T.2.1
  have v := (T.2.2.2.2.1 x.toNat (by omega) (by omega)).1
  have v1 := v.1
  have v2 := v.2.1
  have v3 := v.2.2.1
  have v4 := v.2.2.2.1
  have v5 := v.2.2.2.2.1
  have v6 := v.2.2.2.2.2.1
  have v7 := v.2.2.2.2.2.2.1
  have v9 := v.2.2.2.2.2.2.2.2.1
  clear v
  have hx : 0 ≤ x ∧ x < 45000 := by omega
  unfold rm_175
  refine ⟨hx.1, hx.2, ?_⟩
  intro s es _
  rw [← es] at v9
  have single : ∀ u : Int, u = I 7 x.toNat → (s = 2 ∨ s = 3 ∨ s = 5 ∨ s = 7) → ∀ v8', v8' = I 16 u.toNat → (v8' = 0 ∨ v8' = 1) ∧ Q v8' I := by
    intro u eu hs w ew
    rcases h01 u.toNat with h | h
    · rw [ew, h]
      refine ⟨Or.inl rfl, q0 (fun m => ?_)⟩
      unfold m_mk m_k at m
      rw [← es, ← eu, h] at m
      rcases m with m | m | m | m <;> omega
    · rw [ew, h]
      refine ⟨Or.inr rfl, q1 (Or.inr (Or.inl ⟨by omega, ?_⟩))⟩
      unfold m_k
      rw [← eu]; exact h
  refine ⟨fun c => q0 (fun m => ?_), fun c => q1 (Or.inl (by omega)), fun c => q1 (Or.inl (by omega)), fun c => ⟨hx.1, hx.2, ?_⟩, fun c => ⟨hx.1, hx.2, ?_⟩, fun c => ⟨hx.1, hx.2, ?_⟩, fun c => ⟨hx.1, hx.2, ?_⟩, fun c => ⟨hx.1, hx.2, ?_⟩, fun c => ⟨hx.1, hx.2, ?_⟩⟩
  · unfold m_mk at m
    omega
  · intro u eu _
    exact ⟨by omega, by omega, fun w ew _ => single u eu (by omega) w ew⟩
  · intro u eu _
    exact ⟨by omega, by omega, fun w ew _ => single u eu (by omega) w ew⟩
  · intro u eu _
    refine ⟨by omega, by omega, fun w ew _ => ⟨fun z => q0 (fun m => ?_), fun z => ⟨hx.1, hx.2, ?_⟩⟩⟩
    · unfold m_mk m_k at m
      rw [← es, ← eu, ← ew] at m
      omega
    · intro u' eu' _
      have := v9 (by omega)
      refine ⟨by omega, by omega, fun w' ew' _ => ⟨fun z' => q0 (fun m => ?_), fun z' => q1 ?_⟩⟩
      · unfold m_mk m_k at m
        rw [← es, ← eu, ← ew, ← eu', ← ew'] at m
        omega
      · right; right; left
        unfold m_k
        rw [← es, ← eu, ← ew, ← eu', ← ew']
        have a1 := h01 u.toNat
        have a2 := h01 u'.toNat
        rw [← ew] at a1
        rw [← ew'] at a2
        omega
  · intro u eu _
    exact ⟨by omega, by omega, fun w ew _ => single u eu (by omega) w ew⟩
  · intro u eu _
    refine ⟨by omega, by omega, fun w ew _ => ⟨fun z => q0 (fun m => ?_), fun z => ⟨hx.1, hx.2, ?_⟩⟩⟩
    · unfold m_mk m_k at m
      rw [← es, ← eu, ← ew] at m
      omega
    · intro u' eu' _
      have := v9 (by omega)
      refine ⟨by omega, by omega, fun w' ew' _ => ⟨fun z' => q0 (fun m => ?_), fun z' => ⟨hx.1, hx.2, ?_⟩⟩⟩
      · unfold m_mk m_k at m
        rw [← es, ← eu, ← ew, ← eu', ← ew'] at m
        omega
      · intro u2 eu2 _
        have a1 := h01 u.toNat
        have a2 := h01 u'.toNat
        rw [← ew] at a1
        rw [← ew'] at a2
        refine ⟨fun z2 => q1 ?_, fun z2 => ⟨hx.1, hx.2, ?_⟩⟩
        · right; right; right
          unfold m_k
          rw [← es, ← eu, ← ew, ← eu', ← ew', ← eu2]
          omega
        · intro u3 eu3 _
          refine ⟨by omega, by omega, fun w3 ew3 _ => ⟨fun z3 => q0 (fun m => ?_), fun z3 => q1 ?_⟩⟩
          · unfold m_mk m_k at m
            rw [← es, ← eu, ← ew, ← eu', ← ew', ← eu3, ← ew3] at m
            omega
          · right; right; right
            unfold m_k
            have a3 := h01 u3.toNat
            rw [← ew3] at a3
            rw [← es, ← eu, ← ew, ← eu', ← ew', ← eu3, ← ew3]
            omega
  · intro u eu _
    exact ⟨by omega, by omega, fun w ew _ => single u eu (by omega) w ew⟩
/-- a step of the search: from I to J, with x1 ahead and x behind it, C if nothing came of it -/
def m_stp (I J : sr_V) (x1 x : Int) (C : Prop) : Prop := m_01 I ∧ (∀ g, g ≠ 16 → J g = I g) ∧ (∀ t, I 16 t = 1 → J 16 t = 1) ∧ m_01 J ∧ (∀ X, m_clo I X → (∀ t, I 16 t = 1 → X t) → ∀ t, J 16 t = 1 → X t) ∧ (x = 0 ∨ x = 1) ∧ (x = 0 → x1 = 0 ∧ J 16 = I 16 ∧ C) ∧ (x ≠ 0 → x1 ≠ 0 ∨ ∃ t : Nat, 1 ≤ t ∧ (t : Int) ≤ I 1000 4 ∧ I 16 t = 0 ∧ J 16 t = 1)
theorem m_clo_e {X : Nat → Prop} (h : ∀ g, g ≠ 16 → J g = I g) : m_clo J X ↔ m_clo I X := by
  unfold m_clo m_mk
  rw [h 6 (by decide), h 7 (by decide), h 8 (by decide), h 9 (by decide), h 1000 (by decide)]
theorem m_stp_refl (h01 : m_01 I) (hx : x = 0 ∨ x = 1) {C : Prop} (c : x = 0 → C) : m_stp I I x x C := ⟨h01, fun _ _ => rfl, fun _ h => h, h01, fun X _ h => h, hx, fun h => ⟨h, rfl, c h⟩, fun h => Or.inl h⟩
theorem m_stp_trans {x1 y z : Int} {C D : Prop} (a : m_stp I J x1 y C) (b : m_stp J K y z D) : m_stp I K x1 z (C ∧ D) := by
  obtain ⟨a0, a1, a2, a3, a4, a5, a6, a7⟩ := a
  obtain ⟨b0, b1, b2, b3, b4, b5, b6, b7⟩ := b
  refine ⟨a0, fun g h => (b1 g h).trans (a1 g h), fun t h => b2 t (a2 t h), b3, fun X c h => b4 X ((m_clo_e a1).mpr c) (a4 X c h), b5, fun h => ?_, fun h => ?_⟩
  · obtain ⟨p1, p2, p3⟩ := b6 h
    obtain ⟨q1, q2, q3⟩ := a6 p1
    exact ⟨q1, p2.trans q2, q3, p3⟩
  · rcases b7 h with h | ⟨t, p1, p2, p3, p4⟩
    · rcases a7 h with h | ⟨t, p1, p2, p3, p4⟩
      · exact Or.inl h
      · exact Or.inr ⟨t, p1, p2, p3, b2 t p4⟩
    · refine Or.inr ⟨t, p1, by rw [← a1 1000 (by decide)]; exact p2, ?_, p4⟩
      rcases a0 t with h | h
      · exact h
      · rw [a2 t h] at p3; cases p3
theorem m_stp_C {x1 y : Int} {C D : Prop} (a : m_stp I J x1 y C) (h : C → D) : m_stp I J x1 y D := by
  obtain ⟨a0, a1, a2, a3, a4, a5, a6, a7⟩ := a
  exact ⟨a0, a1, a2, a3, a4, a5, fun e => ⟨(a6 e).1, (a6 e).2.1, h (a6 e).2.2⟩, a7⟩
/-- a term comes to be known -/
theorem m_stp_set {u : Nat} {x1 y : Int} {C : Prop} (h01 : m_01 I) (hu : 1 ≤ u) (hn : (u : Int) ≤ I 1000 4) (hd : ∀ X, m_clo I X → (∀ t, I 16 t = 1 → X t) → X u) (hy : y = 0 ∨ y = 1) (h0 : y = 0 → x1 = 0 ∧ I 16 u = 1 ∧ C) (h1 : y ≠ 0 → x1 ≠ 0 ∨ I 16 u = 0) : m_stp I (su I 16 u 1) x1 y C := by
  refine ⟨h01, fun g h => su_f h, fun t h => ?_, fun t => ?_, fun X c h t ht => ?_, hy, fun e => ⟨(h0 e).1, ?_, (h0 e).2.2⟩, fun e => ?_⟩
  · rw [su_at]
    split
    · rfl
    · exact h
  · rw [su_at]
    split
    · exact Or.inr rfl
    · exact h01 t
  · rw [su_at] at ht
    by_cases c2 : t = u
    · rw [c2]; exact hd X c h
    · rw [if_neg (fun z => c2 z.2)] at ht
      exact h t ht
  · funext t
    rw [su_at]
    by_cases c2 : t = u
    · rw [if_pos ⟨rfl, c2⟩, c2, (h0 e).2.1]
    · rw [if_neg (fun z => c2 z.2)]
  · rcases h1 e with h | h
    · exact Or.inl h
    · exact Or.inr ⟨u, hu, hn, h, su_eq _ _ _ _⟩
/-- what a SEALED gives -/
def m_op (I : sr_V) (t : Nat) : Prop := I 6 t = 6 → m_k I t → m_k I (I 7 (I 7 t).toNat).toNat → m_k I (I 8 t).toNat ∧ (I 9 t ≠ 0 → m_k I (I 9 t).toNat)
theorem m_sealed (T : m_T I d nn) (h1 : 1 ≤ x) (h2 : x ≤ I 1000 4) (c6 : I 6 x.toNat = 6) : 1 ≤ I 7 x.toNat ∧ I 7 x.toNat < x ∧ 1 ≤ I 8 x.toNat ∧ I 8 x.toNat < x ∧ 0 ≤ I 9 x.toNat ∧ I 9 x.toNat < x ∧ I 6 (I 7 x.toNat).toNat = 5 ∧ 1 ≤ I 7 (I 7 x.toNat).toNat ∧ I 7 (I 7 x.toNat).toNat < x := by
  have v := (T.2.2.2.2.1 x.toNat (by omega) (by omega)).1
  have a := v.2.2.2.1
  have b := v.2.2.2.2.2.2.2.2.1 (by omega)
  have c0 := v.2.2.2.2.1
  have c1 := v.2.2.2.2.2.1
  obtain ⟨w1, w2, w3⟩ := v.2.2.2.2.2.2.2.2.2.2.2.2.2 c6
  have u := (T.2.2.2.2.1 (I 7 x.toNat).toNat (by omega) (by omega)).1
  have u1 := u.2.2.2.1
  have u2 := (u.2.2.2.2.2.2.2.2.2.2.1 (by omega)).1
  clear v u
  refine ⟨w1, by omega, w3, by omega, c0, by omega, w2, u2, by omega⟩
theorem m_inf82 {Q : sr_V → Prop} {k7 : Int → sr_V → Prop} {k13 : Int → Int → sr_V → Prop} {x1 y : Int} (T : m_T I d nn) (h01 : m_01 I) (h1 : 1 ≤ x) (h2 : x ≤ I 1000 4) (c6 : I 6 x.toNat = 6) (hkx : I 16 x.toNat = 1) (hk2 : I 16 (I 7 (I 7 x.toNat).toNat).toNat = 1) (hy : y = 0 ∨ y = 1) (y0 : y = 0 → x1 = 0 ∧ I 16 (I 8 x.toNat).toNat = 1 ∧ (I 9 x.toNat ≠ 0 → I 16 (I 9 x.toNat).toNat = 1)) (y1 : y ≠ 0 → x1 ≠ 0 ∨ I 16 (I 8 x.toNat).toNat = 0 ∨ (I 9 x.toNat ≠ 0 ∧ I 16 (I 9 x.toNat).toNat = 0)) (k : ∀ J y, m_stp I J x1 y (m_op I x.toNat) → k13 y (x + 1) J) : rb_83_82 Q k7 k13 x y I := by
  have t2 := T.2.1
  obtain ⟨w1, w2, w3, w4, w5, w6, _⟩ := m_sealed T h1 h2 c6
  have hob : ∀ X, m_clo I X → (∀ t, I 16 t = 1 → X t) → X (I 8 x.toNat).toNat ∧ (I 9 x.toNat ≠ 0 → X (I 9 x.toNat).toNat) := fun X cX hX => (cX x.toNat (by omega) (by omega)).2 c6 (hX _ hkx) (hX _ hk2)
  have hx : 0 ≤ x ∧ x < 45000 := by omega
  have go : ∀ (J : sr_V), m_stp I J x1 y (m_op I x.toNat) → rb_83_104 Q k7 k13 y x J := by
    intro J h
    unfold rb_83_104
    intro z e
    rw [sw_w_s (by omega) (by omega)] at e
    subst e
    exact k J y h
  clear k
  have hb : (1 ≤ (I 8 x.toNat).toNat ∧ ((I 8 x.toNat).toNat : Int) ≤ I 1000 4) ∧ 0 ≤ I 8 x.toNat ∧ I 8 x.toNat < 45000 := by omega
  have hcr : 0 ≤ I 9 x.toNat ∧ I 9 x.toNat < 45000 := by omega
  have hcn : I 9 x.toNat ≠ 0 → 1 ≤ (I 9 x.toNat).toNat ∧ ((I 9 x.toNat).toNat : Int) ≤ I 1000 4 := fun h => by omega
  unfold rb_83_82
  refine ⟨hx.1, hx.2, ?_⟩
  intro w8 e8 _
  subst e8
  refine ⟨hb.2.1, hb.2.2, ?_⟩
  intro I12 e12
  refine ⟨hx.1, hx.2, ?_⟩
  intro w16 e16 _
  have e9 : I12 9 = I 9 := by rw [e12, su_f (by decide)]
  rw [e9] at e16
  clear w1 w2 w3 w4 w5 w6 h1 h2 t2
  refine ⟨fun c3 => ?_, fun c3 => ⟨hx.1, hx.2, ?_⟩⟩
  · refine go I12 ?_
    rw [e12]
    refine m_stp_set h01 hb.1.1 hb.1.2 (fun X a b => (hob X a b).1) hy (fun h => ⟨(y0 h).1, (y0 h).2.1, fun _ _ _ => ⟨(y0 h).2.1, (y0 h).2.2⟩⟩) (fun h => ?_)
    rcases y1 h with h | h | h
    · exact Or.inl h
    · exact Or.inr h
    · exact absurd (e16.symm.trans c3) h.1
  · intro w19 e19 _
    rw [e9] at e19
    subst e19
    refine ⟨hcr.1, hcr.2, ?_⟩
    intro I23 e23
    have c9 : I 9 x.toNat ≠ 0 := fun h => c3 (e16.trans h)
    have hcn := hcn c9
    by_cases cc : x1 ≠ 0 ∨ I 16 (I 8 x.toNat).toNat = 0
    · have s1 : m_stp I I12 x1 1 True := by
        rw [e12]
        exact m_stp_set h01 hb.1.1 hb.1.2 (fun X a b => (hob X a b).1) (Or.inr rfl) (fun h => by cases h) (fun _ => cc)
      have ey : y = 1 := by
        rcases hy with h | h
        · obtain ⟨z1, z2, _⟩ := y0 h
          rcases cc with c | c
          · exact absurd z1 c
          · rw [z2] at c; cases c
        · exact h
      have s2 : m_stp I12 I23 1 y True := by
        rw [e23]
        refine m_stp_set s1.2.2.2.1 hcn.1 (by rw [s1.2.1 1000 (by decide)]; exact hcn.2) (fun X a b => ?_) hy (fun h => by rw [ey] at h; cases h) (fun _ => Or.inl (by decide))
        exact (hob X ((m_clo_e s1.2.1).mp a) (fun t ht => b t (s1.2.2.1 t ht))).2 c9
      refine go I23 ?_
      obtain ⟨a0, a1, a2, a3, a4, a5, a6, a7⟩ := m_stp_trans s1 s2
      exact ⟨a0, a1, a2, a3, a4, a5, fun h => (by rw [ey] at h; cases h), a7⟩
    · have hx0 : x1 = 0 := by
        by_cases c : x1 = 0
        · exact c
        · exact absurd (Or.inl c) cc
      have k8 : I 16 (I 8 x.toNat).toNat = 1 := by
        rcases h01 (I 8 x.toNat).toNat with h | h
        · exact absurd (Or.inr h) cc
        · exact h
      have s1 : m_stp I I12 x1 0 True := by
        rw [e12]
        exact m_stp_set h01 hb.1.1 hb.1.2 (fun X a b => (hob X a b).1) (Or.inl rfl) (fun _ => ⟨hx0, k8, trivial⟩) (fun h => absurd rfl h)
      have e16' : I12 16 = I 16 := (s1.2.2.2.2.2.2.1 rfl).2.1
      have s2 : m_stp I12 I23 0 y True := by
        rw [e23]
        refine m_stp_set s1.2.2.2.1 hcn.1 (by rw [s1.2.1 1000 (by decide)]; exact hcn.2) (fun X a b => ?_) hy (fun h => ⟨rfl, by rw [e16']; exact (y0 h).2.2 c9, trivial⟩) (fun h => Or.inr ?_)
        · exact (hob X ((m_clo_e s1.2.1).mp a) (fun t ht => b t (s1.2.2.1 t ht))).2 c9
        · rw [e16']
          rcases y1 h with h | h | h
          · exact absurd hx0 h
          · rw [k8] at h; cases h
          · exact h.2
      refine go I23 ?_
      obtain ⟨a0, a1, a2, a3, a4, a5, a6, a7⟩ := m_stp_trans s1 s2
      exact ⟨a0, a1, a2, a3, a4, a5, fun h => ⟨(a6 h).1, (a6 h).2.1, fun _ _ _ => ⟨(y0 h).2.1, (y0 h).2.2⟩⟩, a7⟩
theorem m_inf33 {Q : sr_V → Prop} {k7 : Int → sr_V → Prop} {k13 : Int → Int → sr_V → Prop} {x1 : Int} (T : m_T I d nn) (h01 : m_01 I) (h1 : 1 ≤ x) (h2 : x ≤ I 1000 4) (hx1 : x1 = 0 ∨ x1 = 1) (k : ∀ J y, m_stp I J x1 y (m_op I x.toNat) → k13 y (x + 1) J) : rb_83_33 Q k7 k13 x1 x I := by
  have t2 := T.2.1
  have hx : 0 ≤ x ∧ x < 45000 := by omega
  have go : m_stp I I x1 x1 (m_op I x.toNat) → rb_83_104 Q k7 k13 x1 x I := by
    intro h
    unfold rb_83_104
    intro z e
    rw [sw_w_s (by omega) (by omega)] at e
    subst e
    exact k I x1 h
  unfold rb_83_33
  refine ⟨hx.1, hx.2, ?_⟩
  intro s es _
  refine ⟨fun c => go (m_stp_refl h01 hx1 (fun _ h => absurd (es.trans h) c)), fun c => ⟨hx.1, hx.2, ?_⟩⟩
  have c6 : I 6 x.toNat = 6 := es.symm.trans c
  obtain ⟨w1, w2, w3, w4, w5, w6, w7, w8, w9⟩ := m_sealed T h1 h2 c6
  have b7 : 0 ≤ I 7 x.toNat ∧ I 7 x.toNat < 45000 := by omega
  have b77 : 0 ≤ I 7 (I 7 x.toNat).toNat ∧ I 7 (I 7 x.toNat).toNat < 45000 := by omega
  have b8 : 0 ≤ I 8 x.toNat ∧ I 8 x.toNat < 45000 := by omega
  have b9 : 0 ≤ I 9 x.toNat ∧ I 9 x.toNat < 45000 := by omega
  intro w31 e31 _
  refine ⟨fun c1 => go (m_stp_refl h01 hx1 (fun _ _ h => ?_)), fun c1 => ⟨hx.1, hx.2, ?_⟩⟩
  · have h : I 16 x.toNat = 1 := h
    rw [← e31, c1] at h; cases h
  have hkx : I 16 x.toNat = 1 := by
    rcases h01 x.toNat with h | h
    · exact absurd (e31.trans h) c1
    · exact h
  intro w34 e34 _
  subst e34
  refine ⟨b7.1, b7.2, ?_⟩
  intro w37 e37 _
  subst e37
  refine ⟨b77.1, b77.2, ?_⟩
  intro w40 e40 _
  refine ⟨fun c2 => ?_, fun c2 => go (m_stp_refl h01 hx1 (fun _ _ _ h => ?_))⟩
  · have hk2 : I 16 (I 7 (I 7 x.toNat).toNat).toNat = 1 := by
      rcases h01 (I 7 (I 7 x.toNat).toNat).toNat with h | h
      · exact absurd (e40.trans h) c2
      · exact h
    refine ⟨fun c3 => m_inf82 T h01 h1 h2 c6 hkx hk2 (Or.inr rfl) (fun h => by cases h) (fun _ => Or.inl c3) k, fun c3 => ⟨hx.1, hx.2, ?_⟩⟩
    intro w43 e43 _
    subst e43
    refine ⟨b8.1, b8.2, ?_⟩
    intro w46 e46 _
    refine ⟨fun c4 => m_inf82 T h01 h1 h2 c6 hkx hk2 (Or.inr rfl) (fun h => by cases h) (fun _ => Or.inr (Or.inl (e46.symm.trans c4))) k, fun c4 => ⟨hx.1, hx.2, ?_⟩⟩
    have k8 : I 16 (I 8 x.toNat).toNat = 1 := by
      rcases h01 (I 8 x.toNat).toNat with h | h
      · exact absurd (e46.trans h) c4
      · exact h
    intro w49 e49 _
    refine ⟨fun c5 => m_inf82 T h01 h1 h2 c6 hkx hk2 (Or.inl rfl) (fun _ => ⟨c3, k8, fun h => absurd (e49.symm.trans c5) h⟩) (fun h => absurd rfl h) k, fun c5 => ⟨hx.1, hx.2, ?_⟩⟩
    intro w52 e52 _
    subst e52
    refine ⟨b9.1, b9.2, ?_⟩
    intro w55 e55 _
    refine ⟨fun c7 => m_inf82 T h01 h1 h2 c6 hkx hk2 (Or.inl rfl) (fun _ => ⟨c3, k8, fun _ => ?_⟩) (fun h => absurd rfl h) k, fun c7 => m_inf82 T h01 h1 h2 c6 hkx hk2 (Or.inr rfl) (fun h => by cases h) (fun _ => Or.inr (Or.inr ⟨fun h => c5 (e49.trans h), e55.symm.trans c7⟩)) k⟩
    rcases h01 (I 9 x.toNat).toNat with h | h
    · exact absurd (e55.trans h) c7
    · exact h
  · have h : I 16 (I 7 (I 7 x.toNat).toNat).toNat = 1 := h
    rw [← e40, c2] at h; cases h
end
end
