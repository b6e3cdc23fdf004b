/-! ===== what can be had of what: free ===== -/
noncomputable section
/-- w can be made of K -/
def w_made (K : Wt → Prop) (w : Wt) : Prop := ∃ s a b c l, w = w_mk s (a :: b :: c :: l) ∧ (s = 0 ∨ s = 1 ∨ ((s = 2 ∨ s = 3 ∨ s = 5 ∨ s = 7) ∧ K a) ∨ (s = 4 ∧ K a ∧ K b) ∨ (s = 6 ∧ K a ∧ K b ∧ (c = [] ∨ K c)))
/-- w comes out of what K opens -/
def w_opened (K : Wt → Prop) (w : Wt) : Prop := ∃ s q b c l m, K (w_mk 6 (w_mk 5 (s :: q) :: b :: c :: l)) ∧ K s ∧ (w = b ∨ (w = c ∧ c ≠ [])) ∧ m = l
def w_clo (K : Wt → Prop) : Prop := ∀ w, (w_made K w → K w) ∧ (w_opened K w → K w)
/-- all that can be had of B -/
def w_cl (B : Wt → Prop) (w : Wt) : Prop := ∀ K, w_clo K → (∀ v, B v → K v) → K w
/-- all that can be made of B -/
def w_sy (B : Wt → Prop) (w : Wt) : Prop := ∀ K : Wt → Prop, (∀ v, w_made K v → K v) → (∀ v, B v → K v) → K w
theorem w_made_mono {K L : Wt → Prop} (h : ∀ w, K w → L w) {w : Wt} (m : w_made K w) : w_made L w := by
  obtain ⟨s, a, b, c, l, e, m⟩ := m
  refine ⟨s, a, b, c, l, e, ?_⟩
  rcases m with m | m | ⟨m1, m2⟩ | ⟨m1, m2, m3⟩ | ⟨m1, m2, m3, m4⟩
  · exact Or.inl m
  · exact Or.inr (Or.inl m)
  · exact Or.inr (Or.inr (Or.inl ⟨m1, h _ m2⟩))
  · exact Or.inr (Or.inr (Or.inr (Or.inl ⟨m1, h _ m2, h _ m3⟩)))
  · refine Or.inr (Or.inr (Or.inr (Or.inr ⟨m1, h _ m2, h _ m3, ?_⟩)))
    rcases m4 with m4 | m4
    · exact Or.inl m4
    · exact Or.inr (h _ m4)
theorem w_opened_mono {K L : Wt → Prop} (h : ∀ w, K w → L w) {w : Wt} (m : w_opened K w) : w_opened L w := by
  obtain ⟨s, q, b, c, l, m, h1, h2, h3⟩ := m
  exact ⟨s, q, b, c, l, m, h _ h1, h _ h2, h3⟩
section
variable {B C : Wt → Prop} {w : Wt}
theorem w_sy_base (h : B w) : w_sy B w := fun _ _ b => b w h
theorem w_sy_made (h : w_made (w_sy B) w) : w_sy B w := fun K c b => c w (w_made_mono (fun _ hv => hv K c b) h)
theorem w_sy_inv (h : w_sy B w) : B w ∨ w_made (w_sy B) w := h (fun v => B v ∨ w_made (w_sy B) v) (fun v hv => Or.inr (w_made_mono (fun u hu => by
  rcases hu with hu | hu
  · exact w_sy_base hu
  · exact w_sy_made hu) hv)) (fun v hv => Or.inl hv)
theorem w_cl_base (h : B w) : w_cl B w := fun _ _ b => b w h
theorem w_cl_clo (B : Wt → Prop) : w_clo (w_cl B) := fun w => ⟨fun h K c b => (c w).1 (w_made_mono (fun _ hv => hv K c b) h), fun h K c b => (c w).2 (w_opened_mono (fun _ hv => hv K c b) h)⟩
theorem w_cl_mono (h : ∀ v, B v → C v) (hw : w_cl B w) : w_cl C w := fun K c b => hw K c (fun v hv => b v (h v hv))
theorem w_cl_le {K : Wt → Prop} (c : w_clo K) (h : ∀ v, B v → K v) (hw : w_cl B w) : K w := hw K c h
end
/-- a table: R its rows, d what they stand for, kn which are known. All parts are rows, and what can be had of rows is known -/
def w_tab (R : Nat → Prop) (d : Nat → Wt) (kn : Nat → Prop) : Prop := (∀ t u, R t → R u → d t = d u → t = u) ∧ (∀ t, kn t → R t) ∧ (∀ t, R t → w_made (fun w => ∃ u, kn u ∧ d u = w) (d t) → kn t) ∧ (∀ t s a b c l, R t → d t = w_mk s (a :: b :: c :: l) → ((s = 2 ∨ s = 3 ∨ s = 5 ∨ s = 7 ∨ s = 4 ∨ s = 6) → ∃ u, R u ∧ d u = a) ∧ (s = 4 ∨ s = 6 → ∃ u, R u ∧ d u = b) ∧ (s = 6 → c ≠ [] → ∃ u, R u ∧ d u = c)) ∧ (∀ t s q b c l, kn t → d t = w_mk 6 (w_mk 5 (s :: q) :: b :: c :: l) → (∃ u, R u ∧ d u = s) ∧ ((∃ u, kn u ∧ d u = s) → (∃ u, kn u ∧ d u = b) ∧ (c ≠ [] → ∃ u, kn u ∧ d u = c)))
section
variable {R : Nat → Prop} {d : Nat → Wt} {kn : Nat → Prop}
theorem w_tab_sy (T : w_tab R d kn) {w : Wt} (h : w_sy (fun w => ∃ u, kn u ∧ d u = w) w) : ∀ t, R t → d t = w → kn t := by
  obtain ⟨t1, t2, t3, t4, t5⟩ := T
  have key : w_sy (fun w => ∃ u, kn u ∧ d u = w) w ∧ ∀ t, R t → d t = w → kn t := by
    refine h (fun w => w_sy (fun w => ∃ u, kn u ∧ d u = w) w ∧ ∀ t, R t → d t = w → kn t) (fun v hv => ⟨w_sy_made (w_made_mono (fun _ h => h.1) hv), fun t ht e => ?_⟩) (fun v hv => ⟨w_sy_base hv, fun t ht e => ?_⟩)
    · obtain ⟨s, a, b, c, l, ev, m⟩ := hv
      rw [ev] at e
      obtain ⟨p1, p2, p3⟩ := t4 t s a b c l ht e
      apply t3 t ht
      refine ⟨s, a, b, c, l, e, ?_⟩
      rcases m with m | m | ⟨m1, m2⟩ | ⟨m1, m2, m3⟩ | ⟨m1, m2, m3, m4⟩
      · exact Or.inl m
      · exact Or.inr (Or.inl m)
      · obtain ⟨u, r1, r2⟩ := p1 (by omega)
        exact Or.inr (Or.inr (Or.inl ⟨m1, u, m2.2 u r1 r2, r2⟩))
      · obtain ⟨u, r1, r2⟩ := p1 (by omega)
        obtain ⟨u', r1', r2'⟩ := p2 (by omega)
        exact Or.inr (Or.inr (Or.inr (Or.inl ⟨m1, ⟨u, m2.2 u r1 r2, r2⟩, ⟨u', m3.2 u' r1' r2', r2'⟩⟩)))
      · obtain ⟨u, r1, r2⟩ := p1 (by omega)
        obtain ⟨u', r1', r2'⟩ := p2 (by omega)
        refine Or.inr (Or.inr (Or.inr (Or.inr ⟨m1, ⟨u, m2.2 u r1 r2, r2⟩, ⟨u', m3.2 u' r1' r2', r2'⟩, ?_⟩)))
        by_cases hc : c = []
        · exact Or.inl hc
        · obtain ⟨u2, q1, q2⟩ := p3 m1 hc
          rcases m4 with m4 | m4
          · exact Or.inl m4
          · exact Or.inr ⟨u2, m4.2 u2 q1 q2, q2⟩
    · obtain ⟨u, k1, k2⟩ := hv
      rw [t1 t u ht (t2 u k1) (e.trans k2.symm)]
      exact k1
  exact key.2
theorem w_tab_cl (T : w_tab R d kn) {w : Wt} (h : w_cl (fun w => ∃ u, kn u ∧ d u = w) w) : w_sy (fun w => ∃ u, kn u ∧ d u = w) w := by
  refine h _ (fun v => ⟨w_sy_made, fun ho => ?_⟩) (fun v hv => w_sy_base hv)
  obtain ⟨s, q, b, c, l, m, h1, h2, h3, _⟩ := ho
  rcases w_sy_inv h1 with ⟨t, k1, k2⟩ | hm
  · obtain ⟨⟨u, r1, r2⟩, p⟩ := T.2.2.2.2 t s q b c l k1 k2
    obtain ⟨⟨u', q1, q2⟩, p2⟩ := p ⟨u, w_tab_sy T h2 u r1 r2, r2⟩
    rcases h3 with h3 | ⟨h3, h4⟩
    · rw [h3]; exact w_sy_base ⟨u', q1, q2⟩
    · rw [h3]; exact w_sy_base (p2 h4)
  · obtain ⟨s', a', b', c', l', e, m⟩ := hm
    obtain ⟨e1, e2⟩ := w_mk_inj e
    simp only [List.cons.injEq] at e2
    obtain ⟨ea, eb, ec, _⟩ := e2
    rcases m with m | m | ⟨m1, _⟩ | ⟨m1, _⟩ | ⟨m1, m2, m3, m4⟩
    · omega
    · omega
    · omega
    · omega
    · rcases h3 with h3 | ⟨h3, h4⟩
      · rw [h3, eb]; exact m3
      · rw [h3]
        rcases m4 with m4 | m4
        · rw [ec] at h4; exact absurd m4 h4
        · rw [ec]; exact m4
/-- a row is known just if it can be had of those that are -/
theorem w_tab_iff (T : w_tab R d kn) {t : Nat} (ht : R t) : kn t ↔ w_cl (fun w => ∃ u, kn u ∧ d u = w) (d t) := ⟨fun h => w_cl_base ⟨t, h, rfl⟩, fun h => w_tab_sy T (w_tab_cl T h) t ht rfl⟩
end
/-! the reference's table is one -/
section
variable {I : sr_V} {d : Nat → Wt} {nn : Nat}
def m_R (I : sr_V) (t : Nat) : Prop := 1 ≤ t ∧ (t : Int) ≤ I 1000 4
theorem w_dz_pos {d : Nat → Wt} {x : Int} (h : 1 ≤ x) : w_dz d x = d x.toNat := by
  unfold w_dz
  rw [if_neg (by omega)]
theorem m_dn (T : m_T I d nn) {t s : Nat} {a b c : Wt} {l : List Wt} (ht : m_R I t) (e : d t = w_mk s (a :: b :: c :: l)) : I 6 t = s ∧ s ≠ 8 ∧ w_dz d (I 7 t) = a ∧ (s ≠ 3 → w_dz d (I 8 t) = b) ∧ w_dz d (I 9 t) = c := by
  have r := T.2.2.2.2.1 t ht.1 ht.2
  have v1 := r.1.1
  have n1 := r.2.2.2.2.2.1
  have n2 := r.2.2.2.2.2.2
  by_cases c8 : I 6 t = 8
  · obtain ⟨i, _, q⟩ := n2 c8
    rw [q] at e
    have := (w_mk_inj e).2
    simp at this
  · rw [n1 c8] at e
    obtain ⟨e1, e2⟩ := w_mk_inj e
    simp only [List.cons.injEq] at e2
    have es : I 6 t = s := by omega
    refine ⟨es, by omega, e2.1, fun h => ?_, e2.2.2.1⟩
    rw [if_neg (by omega)] at e2
    exact e2.2.1
theorem m_tab (T : m_T I d nn) (h0 : ∀ t, m_k I t → m_R I t) (hc : m_clo I (m_k I)) : w_tab (m_R I) d (m_k I) := by
  refine ⟨fun t u ht hu e => T.2.2.2.2.2.1 t u ht.1 ht.2 hu.1 hu.2 e, h0, fun t ht hm => ?_, fun t s a b c l ht e => ?_, fun t s q b c l hk e => ?_⟩
  · obtain ⟨s, a, b, c, l, e, m⟩ := hm
    obtain ⟨es, e8, ea, eb, ec⟩ := m_dn T ht e
    have v := (T.2.2.2.2.1 t ht.1 ht.2).1
    have inj := T.2.2.2.2.2.1
    have part : ∀ (x : Int) (w : Wt), 0 ≤ x → x ≤ t - 1 → w_dz d x = w → (∃ u, m_k I u ∧ d u = w) → m_k I x.toNat := by
      intro x w x0 x1 ex hu
      obtain ⟨u, k1, k2⟩ := hu
      have hu := h0 u k1
      have ht2 := ht.2
      by_cases cx : x = 0
      · exfalso
        obtain ⟨s', l', _, q⟩ := m_T_d0 T hu.1 hu.2
        unfold w_dz at ex
        rw [if_pos cx, ← k2, q] at ex
        cases ex
      · rw [w_dz_pos (by omega), ← k2] at ex
        rw [inj x.toNat u (by omega) (by omega) hu.1 hu.2 ex]
        exact k1
    apply (hc t ht.1 ht.2).1
    have v3 := v.2.2.1
    have v4 := v.2.2.2.1
    have v5 := v.2.2.2.2.1
    have v6 := v.2.2.2.2.2.1
    have v7 := v.2.2.2.2.2.2.1
    have v9 := v.2.2.2.2.2.2.2.2.1
    clear v
    unfold m_mk
    rcases m with m | m | ⟨m1, m2⟩ | ⟨m1, m2, m3⟩ | ⟨m1, m2, m3, m4⟩
    · exact Or.inl (by omega)
    · exact Or.inl (by omega)
    · exact Or.inr (Or.inl ⟨by omega, part _ _ v3 v4 ea m2⟩)
    · exact Or.inr (Or.inr (Or.inl ⟨by omega, part _ _ v3 v4 ea m2, part _ _ v7 (v9 (by omega)) (eb (by omega)) m3⟩))
    · refine Or.inr (Or.inr (Or.inr ⟨by omega, part _ _ v3 v4 ea m2, part _ _ v7 (v9 (by omega)) (eb (by omega)) m3, ?_⟩))
      rcases m4 with m4 | m4
      · left
        by_cases c0 : I 9 t = 0
        · exact c0
        · exfalso
          have ht2 := ht.2
          obtain ⟨s', l', _, q⟩ := m_T_d0 T (t := (I 9 t).toNat) (by omega) (by omega)
          rw [w_dz_pos (by omega), q, m4] at ec
          cases ec
      · exact Or.inr (part _ _ v5 v6 ec m4)
  · obtain ⟨es, e8, ea, eb, ec⟩ := m_dn T ht e
    have v := (T.2.2.2.2.1 t ht.1 ht.2).1
    have v3 := v.2.2.1
    have v4 := v.2.2.2.1
    have v5 := v.2.2.2.2.1
    have v6 := v.2.2.2.2.2.1
    have v9 := v.2.2.2.2.2.2.2.2.1
    have w1 := v.2.2.2.2.2.2.2.2.2.2
    have ht2 := ht.2
    have ht1 := ht.1
    refine ⟨fun h => ?_, fun h => ?_, fun h hcn => ?_⟩
    · have : 1 ≤ I 7 t := by
        rcases h with h | h | h | h | h | h
        · exact (w1.1 (by omega)).1
        · exact (w1.2.1 (by omega)).1
        · exact (w1.1 (by omega)).1
        · exact (w1.1 (by omega)).1
        · exact (w1.2.2.1 (by omega)).1
        · exact (w1.2.2.2 (by omega)).1
      exact ⟨(I 7 t).toNat, ⟨by omega, by omega⟩, by rw [← ea, w_dz_pos this]⟩
    · have : 1 ≤ I 8 t := by
        rcases h with h | h
        · exact (w1.2.2.1 (by omega)).2.1
        · exact (w1.2.2.2 (by omega)).2.2
      have := v9 (by omega)
      exact ⟨(I 8 t).toNat, ⟨by omega, by omega⟩, by rw [← eb (by omega), w_dz_pos (by omega)]⟩
    · have : I 9 t ≠ 0 := fun h0 => hcn (by rw [← ec]; unfold w_dz; rw [if_pos h0])
      exact ⟨(I 9 t).toNat, ⟨by omega, by omega⟩, by rw [← ec, w_dz_pos (by omega)]⟩
  · have ht := h0 t hk
    have ht1 := ht.1
    have ht2 := ht.2
    obtain ⟨es, e8, ea, eb, ec⟩ := m_dn T ht e
    obtain ⟨z1, z2, z3, z4, z5, z6, z7, z8, z9⟩ := m_sealed T (x := t) (by omega) ht2 (by rw [Int.toNat_natCast]; omega)
    rw [Int.toNat_natCast] at z1 z2 z3 z4 z5 z6 z7 z8 z9
    rw [w_dz_pos z1] at ea
    have hR7 : m_R I (I 7 t).toNat := ⟨by omega, by omega⟩
    have r5 := (T.2.2.2.2.1 (I 7 t).toNat hR7.1 hR7.2).2.2.2.2.2.1 (by omega)
    rw [ea] at r5
    obtain ⟨_, e2⟩ := w_mk_inj r5
    simp only [List.cons.injEq] at e2
    have es7 : s = d (I 7 (I 7 t).toNat).toNat := by rw [e2.1, w_dz_pos z8]
    have hR77 : m_R I (I 7 (I 7 t).toNat).toNat := ⟨by omega, by omega⟩
    refine ⟨⟨_, hR77, es7.symm⟩, fun ⟨u, k1, k2⟩ => ?_⟩
    have hu := h0 u k1
    have eu : u = (I 7 (I 7 t).toNat).toNat := T.2.2.2.2.2.1 _ _ hu.1 hu.2 hR77.1 hR77.2 (by rw [k2, es7])
    obtain ⟨o1, o2⟩ := (hc t ht1 ht2).2 (by omega) hk (by rw [← eu]; exact k1)
    refine ⟨⟨_, o1, by rw [← eb (by omega), w_dz_pos z3]⟩, fun hcn => ?_⟩
    have c0 : I 9 t ≠ 0 := fun h0 => hcn (by rw [← ec]; unfold w_dz; rw [if_pos h0])
    exact ⟨_, o2 c0, by rw [← ec, w_dz_pos (by omega)]⟩
end
end
