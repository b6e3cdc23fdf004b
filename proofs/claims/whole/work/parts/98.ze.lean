/-! ===== the reference: names, terms ===== -/
noncomputable section
section
variable {I J K : sr_V} {d : Nat → Wt} {nn : Nat}
/-- d, with w at n -/
def w_up (d : Nat → Wt) (n : Nat) (w : Wt) : Nat → Wt := fun u => if u = n then w else d u
theorem w_up_ne {d : Nat → Wt} {n u : Nat} {w : Wt} (h : u ≠ n) : w_up d n w u = d u := if_neg h
theorem w_up_eq {d : Nat → Wt} {n : Nat} {w : Wt} : w_up d n w n = w := if_pos rfl
theorem m_rw_e {d : Nat → Wt} {t : Nat} (h : ∀ g, 6 ≤ g → g ≤ 11 → K g = J g) (h17 : K 17 = J 17) (h5 : K 1000 5 = J 1000 5) (r : m_rw J d nn t) : m_rw K d nn t := by
  have e6 := h 6 (by decide) (by decide)
  have e7 := h 7 (by decide) (by decide)
  have e8 := h 8 (by decide) (by decide)
  have e9 := h 9 (by decide) (by decide)
  have e10 := h 10 (by decide) (by decide)
  have e11 := h 11 (by decide) (by decide)
  unfold m_rw m_va m_sn at r ⊢
  rw [h5, e6, e7, e8, e9, e10, e11, h17]
  exact r
theorem m_lk_ne : ∀ (l : List Nat) (x : Int), (∀ t ∈ l, K 12 t = I 12 t) → m_lk I x l → m_lk K x l
  | [], _, _, e => e
  | t :: r, x, h, e => ⟨e.1, by rw [h t List.mem_cons_self]; exact m_lk_ne r _ (fun u hu => h u (List.mem_cons_of_mem _ hu)) e.2⟩
theorem m_nw_e1 (hr0 : 0 ≤ I 1000 56) {s a b c : Int} (N : m_nw I J s a b c) (hK : ∀ g, g ≠ 12 → g ≠ 15 → g ≠ 1000 → K g = J g) (hf : ∀ f, f ≠ 56 → K 1000 f = J 1000 f) (h4 : 0 ≤ I 1000 4) : m_e1 I K := by
  obtain ⟨n1, n2, n3, n4, n5, n6, n7, n8, n9, n10, n11, n12, n13, n14⟩ := N
  refine ⟨fun g g1 g2 g3 g4 g5 => ?_, fun f f1 f2 f3 f4 => ?_, ?_, ?_, fun t ht => ?_, fun k hk => ?_, fun h => ?_, fun h => ?_⟩
  · rw [hK g (by omega) g3 g5, n1 g g4 (by omega) g5]
  · rw [hf f f1, n2 f f2 f3 f4]
  · rw [hf 4 (by decide), n3]; omega
  · rw [hf 5 (by decide), n4]; omega
  · rw [hK 6 (by decide) (by decide) (by decide), hK 7 (by decide) (by decide) (by decide), hK 8 (by decide) (by decide) (by decide), hK 9 (by decide) (by decide) (by decide), hK 10 (by decide) (by decide) (by decide), hK 11 (by decide) (by decide) (by decide)]
    exact n6 t (by omega)
  · rw [hK 17 (by decide) (by decide) (by decide)]
    exact n13 k hk
  · rw [hf 4 (by decide), n3] at h; omega
  · rw [hf 19 (by decide)]; exact n5
theorem m_T_name (T : m_T I d nn) (N : m_nw I J 8 0 0 0) (hr : I 1000 56 = 0) (hn : I 1000 4 + 1 ≤ 44999) : m_T J (w_up d (I 1000 4 + 1).toNat (w_nm nn)) (nn + 1) := by
  have T' := T
  obtain ⟨t1, t2, t3, t4, t5, t6, ch, c1, c2, c3⟩ := T'
  have N' := N
  obtain ⟨n1, n2, n3, n4, n5, n6, n7, n8, n9, n10, n11, n12, n13, n14⟩ := N'
  have he : ∀ u : Nat, (u : Int) ≤ I 1000 4 → w_up d (I 1000 4 + 1).toNat (w_nm nn) u = d u := fun u hu => w_up_ne (by omega)
  have rows := m_T_rows T N (by omega) (nn + 1) (by omega) he
  have hnm : ∀ t : Nat, 1 ≤ t → (t : Int) ≤ I 1000 4 → d t ≠ w_nm nn := by
    intro t h1 h2 e
    obtain ⟨v, _, _, _, _, w5, w6⟩ := t5 t h1 h2
    by_cases c : I 6 t = 8
    · obtain ⟨i, q1, q2⟩ := w6 c
      rw [q2] at e
      have := (w_mk_inj e).2
      simp at this
      omega
    · rw [w5 c] at e
      have := (w_mk_inj e).1
      have := v.1
      omega
  refine ⟨by omega, by omega, by omega, by omega, fun t h1 h2 => ?_, fun t u a1 a2 b1 b2 e => ?_, ch, fun b => ?_, fun b t h => ?_, fun t h1 h2 h3 => ?_⟩
  · by_cases c : (t : Int) ≤ I 1000 4
    · exact (rows t h1 c).1
    · have et : t = (I 1000 4 + 1).toNat := by omega
      rw [← et] at n7 n8 n9 n10 n11 n12
      refine ⟨?_, by omega, by omega, by omega, fun x hx => ?_, fun h => absurd n7 h, fun _ => ⟨nn, by omega, ?_⟩⟩
      · rw [n7, n8, n9, n10]
        unfold m_va
        omega
      · unfold m_sn m_sl at hx
        rw [n12, hr] at hx
        simp at hx
      · rw [et]; exact w_up_eq
  · by_cases c : (t : Int) ≤ I 1000 4
    · by_cases c' : (u : Int) ≤ I 1000 4
      · rw [he t c, he u c'] at e
        exact t6 t u a1 c b1 c' e
      · have eu : u = (I 1000 4 + 1).toNat := by omega
        rw [he t c, eu, w_up_eq] at e
        exact absurd e (hnm t a1 c)
    · have et : t = (I 1000 4 + 1).toNat := by omega
      by_cases c' : (u : Int) ≤ I 1000 4
      · rw [he u c', et, w_up_eq] at e
        exact absurd e.symm (hnm u b1 c')
      · omega
  · rcases c1 b with h | h
    · exact Or.inl (by rw [n1 15 (by decide) (by omega) (by decide)]; exact m_lk_e (n1 12 (by decide) (by omega) (by decide)) _ _ h)
    · exact Or.inr h
  · have := c2 b t h
    omega
  · by_cases c : (t : Int) ≤ I 1000 4
    · obtain ⟨r6, r7, r8, r9, _, _⟩ := n6 t (by omega)
      rw [r6, r7, r8, r9, (rows t h1 c).2]
      exact c3 t h1 c (by rw [← r6]; exact h3)
    · have et : t = (I 1000 4 + 1).toNat := by omega
      rw [et] at h3
      exact absurd n7 h3
theorem m_T_term (T : m_T I d nn) {s a b c : Int} (N : m_nw I J s a b c) (v : m_va I (I 1000 4) s a b c) (h8 : s ≠ 8) (hr0 : 0 ≤ I 1000 56) (hv : ∀ x ∈ m_row I, m_vs (I 1000 4) x) (hn : I 1000 4 + 1 ≤ 44999) (hsg : I 1000 5 + I 1000 56 ≤ 1400000) (hK : ∀ g, g ≠ 12 → g ≠ 15 → g ≠ 1000 → K g = J g) (hf : ∀ f, f ≠ 56 → K 1000 f = J 1000 f) (h12 : ∀ t, K 12 t = if t = (I 1000 4 + 1).toNat then I 15 (m_h s a b c (m_row I)).toNat else I 12 t) (h15 : ∀ x, K 15 x = if x = (m_h s a b c (m_row I)).toNat then I 1000 4 + 1 else I 15 x) (no : ∀ t : Nat, 1 ≤ t → (t : Int) ≤ I 1000 4 → ¬ (I 6 t = s ∧ I 7 t = a ∧ I 8 t = b ∧ I 9 t = c ∧ m_sn I t = m_row I)) : m_T K (w_up d (I 1000 4 + 1).toNat (w_tm d s a b c (m_row I))) nn := by
  have T' := T
  obtain ⟨t1, t2, t3, t4, t5, t6, ch, c1, c2, c3⟩ := T'
  have N' := N
  obtain ⟨n1, n2, n3, n4, n5, n6, n7, n8, n9, n10, n11, n12, n13, n14⟩ := N'
  have k4 := hf 4 (by decide)
  have k5 := hf 5 (by decide)
  have hg : ∀ g, 6 ≤ g → g ≤ 11 → K g = J g := fun g g1 g2 => hK g (by omega) (by omega) (by omega)
  have h17 : K 17 = J 17 := hK 17 (by decide) (by decide) (by decide)
  have he : ∀ u : Nat, (u : Int) ≤ I 1000 4 → w_up d (I 1000 4 + 1).toNat (w_tm d s a b c (m_row I)) u = d u := fun u hu => w_up_ne (by omega)
  have rows := m_T_rows T N hr0 nn (by omega) he
  have snK : ∀ t, m_sn K t = m_sn J t := fun t => by unfold m_sn; rw [hg 10 (by decide) (by decide), hg 11 (by decide) (by decide), h17]
  have snN : m_sn J (I 1000 4 + 1).toNat = m_row I := by unfold m_sn; rw [n11, n12]; exact n14
  have hnm : ∀ t : Nat, 1 ≤ t → (t : Int) ≤ I 1000 4 → d t ≠ w_tm d s a b c (m_row I) := by
    intro t h1 h2 e
    obtain ⟨v', _, _, _, w4, w5, w6⟩ := t5 t h1 h2
    by_cases c8 : I 6 t = 8
    · obtain ⟨i, q1, q2⟩ := w6 c8
      rw [q2] at e
      have := (w_mk_inj e).1
      have := v.1
      have := v.2.1
      omega
    · rw [w5 c8] at e
      obtain ⟨x1, x2, x3, x4, x5⟩ := m_tm_inj T (m_va_up (J := I) (n' := I 1000 4) (by omega) (fun _ _ => rfl) v') v (fun x hx => m_vs_up (by omega) (w4 x hx)) hv e
      exact no t h1 h2 ⟨x1, x2, x3, x4, x5⟩
  have hb := m_h_b s a b c (m_row I)
  refine ⟨by omega, by omega, by omega, by omega, fun t h1 h2 => ?_, fun t u a1 a2 b1 b2 e => ?_, fun x => if x = (m_h s a b c (m_row I)).toNat then (I 1000 4 + 1).toNat :: ch x else ch x, fun x => ?_, fun x t h => ?_, fun t h1 h2 h3 => ?_⟩
  · by_cases ct : (t : Int) ≤ I 1000 4
    · exact m_rw_e hg h17 k5 (rows t h1 ct).1
    · have et : t = (I 1000 4 + 1).toNat := by omega
      apply m_rw_e hg h17 k5
      rw [et]
      refine ⟨?_, by omega, by omega, by omega, fun x hx => ?_, fun _ => ?_, fun h => absurd (n7.symm.trans h) h8⟩
      · rw [n7, n8, n9, n10]
        exact m_va_up (n := I 1000 4) (by omega) (fun u hu => (n6 u (by omega)).1) v
      · rw [snN] at hx
        exact m_vs_up (by omega) (hv x hx)
      · rw [w_up_eq, snN, n7, n8, n9, n10]
        exact (w_tm_e he v hv).symm
  · by_cases ct : (t : Int) ≤ I 1000 4
    · by_cases cu : (u : Int) ≤ I 1000 4
      · rw [he t ct, he u cu] at e
        exact t6 t u a1 ct b1 cu e
      · have eu : u = (I 1000 4 + 1).toNat := by omega
        rw [he t ct, eu, w_up_eq] at e
        exact absurd e (hnm t a1 ct)
    · have et : t = (I 1000 4 + 1).toNat := by omega
      by_cases cu : (u : Int) ≤ I 1000 4
      · rw [he u cu, et, w_up_eq] at e
        exact absurd e.symm (hnm u b1 cu)
      · omega
  · dsimp only
    rcases c1 x with h | h
    · have hne : ∀ t ∈ ch x, K 12 t = I 12 t := fun t ht => by
        have := c2 x t ht
        rw [h12, if_neg (by omega)]
      left
      by_cases cx : x = (m_h s a b c (m_row I)).toNat
      · rw [if_pos cx, h15, if_pos cx]
        refine ⟨by omega, ?_⟩
        rw [h12, if_pos rfl, ← cx]
        exact m_lk_ne _ _ hne h
      · rw [if_neg cx, h15, if_neg cx]
        exact m_lk_ne _ _ hne h
    · exact Or.inr h
  · dsimp only at h
    by_cases cx : x = (m_h s a b c (m_row I)).toNat
    · rw [if_pos cx] at h
      rcases List.mem_cons.mp h with e | h
      · omega
      · have := c2 x t h; omega
    · rw [if_neg cx] at h
      have := c2 x t h
      omega
  · dsimp only
    rw [snK t, hg 6 (by decide) (by decide), hg 7 (by decide) (by decide), hg 8 (by decide) (by decide), hg 9 (by decide) (by decide)]
    rw [hg 6 (by decide) (by decide)] at h3
    by_cases ct : (t : Int) ≤ I 1000 4
    · obtain ⟨r6, r7, r8, r9, _, _⟩ := n6 t (by omega)
      rw [r6, r7, r8, r9, (rows t h1 ct).2]
      have := c3 t h1 ct (by rw [← r6]; exact h3)
      split
      · exact List.mem_cons_of_mem _ this
      · exact this
    · have et : t = (I 1000 4 + 1).toNat := by omega
      rw [et, n7, n8, n9, n10, snN, if_pos rfl]
      exact List.mem_cons_self
end
section
variable {I : sr_V} {d : Nat → Wt} {nn : Nat} {s a b c : Int} {Q : Int → sr_V → Prop}
def m_ct (I : sr_V) (s a b c : Int) (t : Nat) : Prop := I 6 t = s ∧ I 7 t = a ∧ I 8 t = b ∧ I 9 t = c ∧ m_sn I t = m_row I
theorem m_find_l (hr0 : 0 ≤ I 1000 56) (hr : I 1000 56 ≤ 6000) {h : Int} (T : m_T I d nn) : ∀ (l : List Nat) (n : Nat) (x : Int), l.length < n → m_lk I x l → (∀ t ∈ l, 1 ≤ t ∧ (t : Int) ≤ I 1000 4) → (∀ t ∈ l, m_ct I s a b c t → rb_53_49 Q s a b c h t I) → ((∀ t ∈ l, ¬ m_ct I s a b c t) → rb_53_49 Q s a b c h (-1) I) → rl_53_12 Q n s a b c h x I
  | l, 0, _, hl, _, _, _, _ => by omega
  | [], n + 1, x, _, e, _, _, q0 => by
    have e : x = -1 := e
    subst e
    unfold rl_53_12
    exact ⟨fun _ => q0 (fun _ h => by cases h), fun h => absurd rfl h⟩
  | t :: r, n + 1, x, hl, e, hm, q1, q0 => by
    obtain ⟨e1, e2⟩ := e
    have ht := hm t List.mem_cons_self
    have T' := T
    obtain ⟨t1, t2, t3, t4, t5, _⟩ := T'
    obtain ⟨_, w1, w2, w3, _⟩ := t5 t ht.1 ht.2
    unfold rl_53_12
    subst e1
    have tn : ((t : Int)).toNat = t := by omega
    have rest : ¬ m_ct I s a b c t → rb_53_43 Q (rl_53_12 Q n) s a b c h t I := by
      intro hc
      unfold rb_53_43
      refine ⟨by omega, by omega, ?_⟩
      intro v30 e30 _
      rw [tn] at e30
      subst e30
      refine m_find_l hr0 hr T r n _ (by simp at hl; omega) e2 (fun u hu => hm u (List.mem_cons_of_mem _ hu)) (fun u hu => q1 u (List.mem_cons_of_mem _ hu)) (fun hno => q0 (fun u hu => ?_))
      rcases List.mem_cons.mp hu with e | hu
      · rw [e]; exact hc
      · exact hno u hu
    refine ⟨fun c => by omega, fun _ => ⟨by omega, by omega, ?_⟩⟩
    intro v36 e36 _
    rw [tn] at e36
    refine ⟨fun hne => rest (fun x => hne (e36.trans x.1)), fun c6 => ⟨by omega, by omega, ?_⟩⟩
    intro v39 e39 _
    rw [tn] at e39
    refine ⟨fun hne => rest (fun x => hne (e39.trans x.2.1)), fun c7 => ⟨by omega, by omega, ?_⟩⟩
    intro v42 e42 _
    rw [tn] at e42
    refine ⟨fun hne => rest (fun x => hne (e42.trans x.2.2.1)), fun c8 => ⟨by omega, by omega, ?_⟩⟩
    intro v45 e45 _
    rw [tn] at e45
    refine ⟨fun hne => rest (fun x => hne (e45.trans x.2.2.2.1)), fun c9 => ?_⟩
    refine m_isRow (by omega) (by omega) hr0 hr (by rw [tn]; exact w1) (by rw [tn]; exact w2) (by rw [tn]; omega) (fun hs _ => ⟨fun _ => ?_, fun h => by omega⟩) (fun hs _ => ⟨fun h => by omega, fun _ => ?_⟩)
    · rw [tn] at hs
      exact q1 t List.mem_cons_self ⟨by omega, by omega, by omega, by omega, hs⟩
    · rw [tn] at hs
      exact rest (fun x => hs x.2.2.2.2)
theorem m_e0_56 (I : sr_V) (z : Int) : m_e0 I (su I 1000 56 z) := ⟨fun g _ h2 => su_f h2, fun f h => su_k h⟩
theorem m_theTerm (T : m_T I d nn) (v : m_va I (I 1000 4) s a b c) (h8 : s ≠ 8) (hr0 : 0 ≤ I 1000 56) (hr : I 1000 56 ≤ 6000) (hv : ∀ x ∈ m_row I, m_vs (I 1000 4) x) (hn : I 1000 4 + 1 ≤ 44999) (hsg : I 1000 5 + I 1000 56 ≤ 1400000) (k : ∀ (t : Int) (J : sr_V) (e : Nat → Wt), m_T J e nn → m_e1 I J → (∀ u : Nat, (u : Int) ≤ I 1000 4 → e u = d u) → 1 ≤ t → t ≤ J 1000 4 → e t.toNat = w_tm d s a b c (m_row I) → J 6 t.toNat = s ∧ J 7 t.toNat = a ∧ J 8 t.toNat = b ∧ J 9 t.toNat = c → J 1000 56 = 0 → J 1000 4 ≤ I 1000 4 + 1 → J 1000 5 ≤ I 1000 5 + I 1000 56 → Q t J) : rm_53 s a b c I Q := by
  unfold rm_53
  refine m_chain hr (fun _ => ?_)
  have hb := m_h_b s a b c (m_row I)
  refine ⟨hb.1, hb.2, ?_⟩
  intro v71 e71 _
  have T' := T
  obtain ⟨t1, t2, t3, t4, t5, t6, ch, c1, c2, c3⟩ := T'
  have hlk : m_lk I v71 (ch (m_h s a b c (m_row I)).toNat) := by
    rcases c1 (m_h s a b c (m_row I)).toNat with h | h
    · rw [e71]; exact h
    · omega
  refine ⟨_, m_find_l hr0 hr T _ ((ch (m_h s a b c (m_row I)).toNat).length + 1) _ (by omega) hlk (c2 _) (fun t ht hc => ?_) (fun hno => ?_)⟩
  · have hrng := c2 _ t ht
    obtain ⟨w0, w1, w2, w3, w4, w5, w6⟩ := t5 t hrng.1 hrng.2
    obtain ⟨x1, x2, x3, x4, x5⟩ := hc
    unfold rb_53_49
    refine ⟨fun _ => ?_, fun h => by omega⟩
    unfold rb_53_72
    intro I2 e2
    subst e2
    have f4 : su I 1000 56 0 1000 4 = I 1000 4 := su_k (by decide)
    have f5 : su I 1000 56 0 1000 5 = I 1000 5 := su_k (by decide)
    refine k t _ d (m_T_e0 (m_e0_56 I 0) T) (m_e0_e1 (m_e0_56 I 0)) (fun _ _ => rfl) (by omega) (by omega) ?_ ⟨?_, ?_, ?_, ?_⟩ (su_eq _ _ _ _) (by omega) (by omega)
    · rw [Int.toNat_natCast, w5 (by omega), x1, x2, x3, x4, x5]
    · rw [Int.toNat_natCast, su_f (by decide)]; exact x1
    · rw [Int.toNat_natCast, su_f (by decide)]; exact x2
    · rw [Int.toNat_natCast, su_f (by decide)]; exact x3
    · rw [Int.toNat_natCast, su_f (by decide)]; exact x4
  · unfold rb_53_49
    refine ⟨fun h => absurd rfl h, fun _ => ?_⟩
    refine m_newTerm t1 (by omega) hr0 hr t3 hsg (fun J N _ => ⟨hb.1, hb.2, ?_⟩)
    have N' := N
    obtain ⟨n1, n2, n3, n4, n5, n6, n7, n8, n9, n10, n11, n12, n13, n14⟩ := N'
    intro v16 e16 _
    refine ⟨by omega, by omega, ?_⟩
    intro I20 e20
    refine ⟨hb.1, hb.2, ?_⟩
    intro I25 e25
    unfold rb_53_72
    intro I2 e2
    have hK : ∀ g, g ≠ 12 → g ≠ 15 → g ≠ 1000 → I2 g = J g := fun g g1 g2 g3 => by rw [e2, su_f g3, e25, su_f g2, e20, su_f g1]
    have hf : ∀ f, f ≠ 56 → I2 1000 f = J 1000 f := fun f h => by rw [e2, su_k h, e25, su_f (by decide), e20, su_f (by decide)]
    have j15 : J 15 = I 15 := n1 15 (by decide) (by omega) (by decide)
    have j12 : J 12 = I 12 := n1 12 (by decide) (by omega) (by decide)
    have h12 : ∀ t, I2 12 t = if t = (I 1000 4 + 1).toNat then I 15 (m_h s a b c (m_row I)).toNat else I 12 t := fun t => by
      rw [e2, su_f (by decide), e25, su_f (by decide), e20, su_at, e16, j15, j12]
      by_cases c : t = (I 1000 4 + 1).toNat
      · rw [if_pos ⟨rfl, c⟩, if_pos c]
      · rw [if_neg (fun x => c x.2), if_neg c]
    have h15 : ∀ x, I2 15 x = if x = (m_h s a b c (m_row I)).toNat then I 1000 4 + 1 else I 15 x := fun x => by
      rw [e2, su_f (by decide), e25, su_at, e20, su_f (by decide), j15]
      by_cases c : x = (m_h s a b c (m_row I)).toNat
      · rw [if_pos ⟨rfl, c⟩, if_pos c]
      · rw [if_neg (fun x => c x.2), if_neg c]
    have no : ∀ t : Nat, 1 ≤ t → (t : Int) ≤ I 1000 4 → ¬ (I 6 t = s ∧ I 7 t = a ∧ I 8 t = b ∧ I 9 t = c ∧ m_sn I t = m_row I) := by
      intro t a1 a2 hc
      have := c3 t a1 a2 (by rw [hc.1]; exact h8)
      rw [hc.1, hc.2.1, hc.2.2.1, hc.2.2.2.1, hc.2.2.2.2] at this
      exact hno t this hc
    have f4 := hf 4 (by decide)
    have f5 := hf 5 (by decide)
    refine k _ _ _ (m_T_term T N v h8 hr0 hv (by omega) hsg hK hf h12 h15 no) (m_nw_e1 hr0 N hK hf t1) (fun u hu => w_up_ne (by omega)) (by omega) (by omega) w_up_eq ⟨?_, ?_, ?_, ?_⟩ (by rw [e2, su_eq]) (by omega) (by omega)
    · rw [hK 6 (by decide) (by decide) (by decide)]; exact n7
    · rw [hK 7 (by decide) (by decide) (by decide)]; exact n8
    · rw [hK 8 (by decide) (by decide) (by decide)]; exact n9
    · rw [hK 9 (by decide) (by decide) (by decide)]; exact n10
theorem m_name (T : m_T I d nn) (hn : I 1000 4 + 1 ≤ 44999) (k : ∀ (J : sr_V) (e : Nat → Wt), m_T J e (nn + 1) → m_e1 I J → (∀ u : Nat, (u : Int) ≤ I 1000 4 → e u = d u) → e (I 1000 4 + 1).toNat = w_nm nn → J 6 (I 1000 4 + 1).toNat = 8 → J 1000 56 = 0 → J 1000 4 = I 1000 4 + 1 → J 1000 5 = I 1000 5 → Q (I 1000 4 + 1) J) : rm_55 I Q := by
  unfold rm_55
  intro I2 e2
  have E := m_e0_56 I 0
  rw [← e2] at E
  have T2 := m_T_e0 E T
  have f4 : I2 1000 4 = I 1000 4 := E.2 4 (by decide)
  have f5 : I2 1000 5 = I 1000 5 := E.2 5 (by decide)
  have f56 : I2 1000 56 = 0 := by rw [e2, su_eq]
  have T2' := T2
  obtain ⟨t1, t2, t3, t4, _⟩ := T2'
  refine m_newTerm t1 (by omega) (by omega) (by omega) t3 (by omega) (fun J N _ => ?_)
  have N' := N
  obtain ⟨n1, n2, n3, n4, n5, n6, n7, n8, n9, n10, n11, n12, n13, n14⟩ := N'
  rw [f4]
  rw [f4] at n7 n3
  refine k J _ (m_T_name T2 N f56 (by omega)) (m_e1_trans (m_e0_e1 E) (m_nw_e1 (by omega) N (fun _ _ _ _ => rfl) (fun _ _ => rfl) t1)) (fun u hu => w_up_ne (by omega)) (by rw [f4]; exact w_up_eq) n7 (by rw [n2 56 (by decide) (by decide) (by decide), f56]) n3 (by omega)
theorem m_derived {x l : Int} (T : m_T I d nn) (h1 : 1 ≤ x) (h2 : x ≤ I 1000 4) (l0 : 0 ≤ l) (l9 : l ≤ 9) (hn : I 1000 4 + 1 ≤ 44999) (k : ∀ (t : Int) (J : sr_V) (e : Nat → Wt), m_T J e nn → m_e1 I J → (∀ u : Nat, (u : Int) ≤ I 1000 4 → e u = d u) → 1 ≤ t → t ≤ J 1000 4 → e t.toNat = w_tm d 3 x l 0 [] → J 1000 56 = 0 → J 1000 4 ≤ I 1000 4 + 1 → J 1000 5 = I 1000 5 → Q t J) : rm_158 x l I Q := by
  unfold rm_158
  intro I2 e2
  have E := m_e0_56 I 0
  rw [← e2] at E
  have f4 : I2 1000 4 = I 1000 4 := E.2 4 (by decide)
  have f5 : I2 1000 5 = I 1000 5 := E.2 5 (by decide)
  have f56 : I2 1000 56 = 0 := by rw [e2, su_eq]
  have fr : m_row I2 = [] := by unfold m_row; rw [f56]; rfl
  have T2 := m_T_e0 E T
  have t4 := T2.2.2.2.1
  refine m_theTerm T2 (by unfold m_va; omega) (by decide) (by omega) (by omega) (by rw [fr]; intro x hx; cases hx) (by omega) (by omega) (fun t J e a1 a2 a3 a4 a5 a6 a7 a8 a9 a10 _ => ?_)
  rw [fr] at a6
  have b5 := (m_e1_trans (m_e0_e1 E) a2).2.2.2.1
  exact k t J e a1 (m_e1_trans (m_e0_e1 E) a2) (fun u hu => a3 u (by omega)) a4 a5 a6 a8 (by omega) (by omega)
theorem m_publicOf {x : Int} (T : m_T I d nn) (h1 : 1 ≤ x) (h2 : x ≤ I 1000 4) (hn : I 1000 4 + 1 ≤ 44999) (k : ∀ (t : Int) (J : sr_V) (e : Nat → Wt), m_T J e nn → m_e1 I J → (∀ u : Nat, (u : Int) ≤ I 1000 4 → e u = d u) → 1 ≤ t → t ≤ J 1000 4 → e t.toNat = w_tm d 5 x 0 0 [] → J 6 t.toNat = 5 → J 1000 56 = 0 → J 1000 4 ≤ I 1000 4 + 1 → J 1000 5 = I 1000 5 → Q t J) : rm_66 x I Q := by
  unfold rm_66
  intro I2 e2
  have E := m_e0_56 I 0
  rw [← e2] at E
  have f4 : I2 1000 4 = I 1000 4 := E.2 4 (by decide)
  have f5 : I2 1000 5 = I 1000 5 := E.2 5 (by decide)
  have f56 : I2 1000 56 = 0 := by rw [e2, su_eq]
  have fr : m_row I2 = [] := by unfold m_row; rw [f56]; rfl
  have T2 := m_T_e0 E T
  have t4 := T2.2.2.2.1
  refine m_theTerm T2 (by unfold m_va; omega) (by decide) (by omega) (by omega) (by rw [fr]; intro x hx; cases hx) (by omega) (by omega) (fun t J e a1 a2 a3 a4 a5 a6 a7 a8 a9 a10 _ => ?_)
  rw [fr] at a6
  have b5 := (m_e1_trans (m_e0_e1 E) a2).2.2.2.1
  exact k t J e a1 (m_e1_trans (m_e0_e1 E) a2) (fun u hu => a3 u (by omega)) a4 a5 a6 a7.1 a8 (by omega) (by omega)
end
end
