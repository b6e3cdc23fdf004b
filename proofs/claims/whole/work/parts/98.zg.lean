/-! ===== the reference: infer ===== -/
noncomputable section
section
variable {I J K : sr_V} {d : Nat → Wt} {nn : Nat} {x : Int}
def m_cl1 (I : sr_V) (t : Nat) : Prop := (m_mk I (m_k I) t → m_k I t) ∧ m_op I t
theorem m_T_16 (h : ∀ g, g ≠ 16 → J g = I g) (T : m_T I d nn) : m_T J d nn := by
  have e6 := h 6 (by decide)
  have e7 := h 7 (by decide)
  have e8 := h 8 (by decide)
  have e9 := h 9 (by decide)
  have e10 := h 10 (by decide)
  have e11 := h 11 (by decide)
  have e12 := h 12 (by decide)
  have e15 := h 15 (by decide)
  have e17 := h 17 (by decide)
  have e1 := h 1000 (by decide)
  obtain ⟨t1, t2, t3, t4, t5, t6, ch, c1, c2, c3⟩ := T
  refine ⟨by rw [e1]; exact t1, by rw [e1]; exact t2, by rw [e1]; exact t3, by rw [e1]; exact t4, ?_, ?_, ch, ?_, ?_, ?_⟩
  · rw [e1]
    intro t a b
    have := t5 t a b
    unfold m_rw m_va m_sn at this ⊢
    rw [e1, e6, e7, e8, e9, e10, e11, e17]
    exact this
  · rw [e1]; exact t6
  · intro b
    rcases c1 b with h | h
    · exact Or.inl (by rw [e15]; exact m_lk_e e12 _ _ h)
    · exact Or.inr h
  · rw [e1]; exact c2
  · rw [e1]
    intro t a b c
    have := c3 t a b (by rw [← e6]; exact c)
    unfold m_sn at this ⊢
    rw [e6, e7, e8, e9, e10, e11, e17]
    exact this
theorem m_cl1_e (h : ∀ g, J g = I g) (t : Nat) : m_cl1 J t ↔ m_cl1 I t := by
  have : J = I := funext h
  rw [this]
theorem m_inf13 {Q : sr_V → Prop} {k7 : Int → sr_V → Prop} : ∀ (n : Nat) {x1 x : Int} {I : sr_V}, m_T I d nn → m_01 I → 1 ≤ x → x ≤ I 1000 4 + 1 → (x1 = 0 ∨ x1 = 1) → (I 1000 4 + 1 - x).toNat < n → (∀ J y, m_stp I J x1 y (∀ t : Nat, x ≤ t → (t : Int) ≤ I 1000 4 → m_cl1 I t) → k7 y J) → rl_83_13 Q k7 n x1 x I
  | 0, _, _, _, _, _, _, _, _, h, _ => by omega
  | n + 1, x1, x, I, T, h01, h1, h2, hx1, hn, k => by
    have t2 := T.2.1
    unfold rl_83_13
    intro v65 e65 _
    subst e65
    refine ⟨fun c => k I x1 (m_stp_refl h01 hx1 (fun _ t a b => by omega)), fun c => ⟨by omega, by omega, ?_⟩⟩
    intro v68 e68 _
    have rest : ∀ (J : sr_V) (y : Int) (C : Prop), m_stp I J x1 y C → (C → J 16 = I 16 → m_mk I (m_k I) x.toNat → m_k I x.toNat) → rb_83_33 Q k7 (rl_83_13 Q k7 n) y x J := by
      intro J y C hs hC
      have fr := hs.2.1
      have f1 := fr 1000 (by decide)
      have TJ := m_T_16 fr T
      refine m_inf33 TJ hs.2.2.2.1 h1 (by rw [f1]; omega) hs.2.2.2.2.2.1 (fun K z hz => ?_)
      have f2 := hz.2.1 1000 (by decide)
      refine m_inf13 n (m_T_16 hz.2.1 TJ) hz.2.2.2.1 (by omega) (by rw [f2, f1]; omega) hz.2.2.2.2.2.1 (by rw [f2, f1]; omega) (fun L w hw => ?_)
      have h3 := m_stp_trans (m_stp_trans hs hz) hw
      refine k L w ?_
      obtain ⟨a0, a1, a2, a3, a4, a5, a6, a7⟩ := h3
      refine ⟨a0, a1, a2, a3, a4, a5, fun e => ?_, a7⟩
      obtain ⟨b1, b2, ⟨c1, c2⟩, c3⟩ := a6 e
      refine ⟨b1, b2, fun t ht1 ht2 => ?_⟩
      have ez := (hw.2.2.2.2.2.2.1 e).1
      have ey := (hz.2.2.2.2.2.2.1 ez).1
      have j16 : J 16 = I 16 := (hs.2.2.2.2.2.2.1 ey).2.1
      have k16 : K 16 = J 16 := (hz.2.2.2.2.2.2.1 ez).2.1
      have eJ : ∀ g, J g = I g := fun g => by
        by_cases cg : g = 16
        · rw [cg, j16]
        · exact fr g cg
      have eK : ∀ g, K g = J g := fun g => by
        by_cases cg : g = 16
        · rw [cg, k16]
        · exact hz.2.1 g cg
      by_cases ct : (t : Int) = x
      · have et : x.toNat = t := by omega
        rw [et] at c2 hC
        have c2 : m_op J t := c2
        rw [funext eJ] at c2
        exact ⟨hC c1 j16, c2⟩
      · have := c3 t (by omega) (by rw [f2, f1]; exact ht2)
        exact (m_cl1_e eJ t).mp ((m_cl1_e eK t).mp this)
    refine ⟨fun c1 => ?_, fun c1 => ?_⟩
    · refine rest I x1 True (m_stp_refl h01 hx1 (fun _ => trivial)) (fun _ _ _ => ?_)
      rcases h01 x.toNat with h | h
      · exact absurd (e68.trans h) c1
      · exact h
    · refine m_canMake T h01 h1 c (fun hm _ => ⟨fun h => absurd h (by decide), fun _ => ⟨by omega, by omega, ?_⟩⟩) (fun hm _ => ⟨fun _ => ?_, fun h => absurd rfl h⟩)
      · intro I79 e79
        rw [e79]
        refine rest _ 1 False (m_stp_set h01 (by omega) (by omega) (fun X cX hX => (cX x.toNat (by omega) (by omega)).1 ?_) (Or.inr rfl) (fun h => by cases h) (fun _ => Or.inr (e68.symm.trans c1))) (fun h => h.elim)
        unfold m_mk m_k at hm
        unfold m_mk
        rcases hm with h | h | h | h
        · exact Or.inl h
        · exact Or.inr (Or.inl ⟨h.1, hX _ h.2⟩)
        · exact Or.inr (Or.inr (Or.inl ⟨h.1, hX _ h.2.1, hX _ h.2.2⟩))
        · refine Or.inr (Or.inr (Or.inr ⟨h.1, hX _ h.2.1, hX _ h.2.2.1, ?_⟩))
          rcases h.2.2.2 with h | h
          · exact Or.inl h
          · exact Or.inr (hX _ h)
      · exact rest I x1 True (m_stp_refl h01 hx1 (fun _ => trivial)) (fun _ _ h => absurd h hm)
/-- how many are not known -/
def m_un (I : sr_V) : Nat := (List.range (I 1000 4).toNat).countP (fun t => decide (I 16 (t + 1) = 0))
theorem m_cnt {p q : Nat → Bool} : ∀ (l : List Nat), (∀ t ∈ l, q t = true → p t = true) → l.countP q ≤ l.countP p ∧ ((∃ t ∈ l, p t = true ∧ q t = false) → l.countP q < l.countP p)
  | [], _ => ⟨by simp, fun ⟨t, h, _⟩ => by cases h⟩
  | a :: l, h => by
    obtain ⟨i1, i2⟩ := m_cnt l (fun t ht => h t (List.mem_cons_of_mem _ ht))
    have ha := h a List.mem_cons_self
    rw [List.countP_cons, List.countP_cons]
    refine ⟨?_, fun ⟨t, ht, h1, h2⟩ => ?_⟩
    · cases hq : q a with
      | false => simp; omega
      | true => rw [ha hq]; simp; omega
    · rcases List.mem_cons.mp ht with e | ht
      · rw [← e, h1, h2]; simp; omega
      · have := i2 ⟨t, ht, h1, h2⟩
        cases hq : q a with
        | false => simp; omega
        | true => rw [ha hq]; simp; omega
theorem m_un_stp {x1 y : Int} {C : Prop} (h : m_stp I J x1 y C) : m_un J ≤ m_un I ∧ ((∃ t : Nat, 1 ≤ t ∧ (t : Int) ≤ I 1000 4 ∧ I 16 t = 0 ∧ J 16 t = 1) → m_un J < m_un I) := by
  unfold m_un
  rw [h.2.1 1000 (by decide)]
  obtain ⟨i1, i2⟩ := m_cnt (p := fun t => decide (I 16 (t + 1) = 0)) (q := fun t => decide (J 16 (t + 1) = 0)) (List.range (I 1000 4).toNat) (fun t _ ht => by
    rw [decide_eq_true_iff] at ht ⊢
    rcases h.1 (t + 1) with e | e
    · exact e
    · rw [h.2.2.1 _ e] at ht; cases ht)
  refine ⟨i1, fun ⟨t, h1, h2, h3, h4⟩ => i2 ⟨t - 1, by rw [List.mem_range]; omega, ?_, ?_⟩⟩
  · rw [decide_eq_true_iff, show t - 1 + 1 = t by omega]; exact h3
  · rw [decide_eq_false_iff_not, show t - 1 + 1 = t by omega, h4]; decide
/-- what infer does -/
def m_infd (I J : sr_V) : Prop := (∀ g, g ≠ 16 → g ≠ 1000 → J g = I g) ∧ (∀ f, f ≠ 19 → J 1000 f = I 1000 f) ∧ J 1000 19 = 1 ∧ (∀ t, I 16 t = 1 → J 16 t = 1) ∧ m_01 J ∧ (∀ X, m_clo I X → (∀ t, I 16 t = 1 → X t) → ∀ t, J 16 t = 1 → X t) ∧ m_clo J (m_k J)
theorem m_inf7 {Q : sr_V → Prop} : ∀ (n : Nat) {x1 : Int} {I : sr_V}, m_T I d nn → m_01 I → (x1 = 0 → m_clo I (m_k I)) → (x1 = 0 ∨ m_un I + 1 < n) → 0 < n → (∀ J, m_infd I J → Q J) → rl_83_7 Q n x1 I
  | 0, _, _, _, _, _, _, h, _ => by omega
  | n + 1, x1, I, T, h01, hc, hn, _, k => by
    have t1 := T.1
    unfold rl_83_7
    refine ⟨fun c => ?_, fun c => ?_⟩
    · intro I90 e90
      refine k I90 ⟨fun g g1 g2 => by rw [e90, su_f g2], fun f hf => by rw [e90, su_k hf], by rw [e90, su_eq], fun t h => by rw [e90, su_f (by decide)]; exact h, fun t => by rw [e90, su_f (by decide)]; exact h01 t, fun X _ hX t ht => hX t (by rw [e90, su_f (by decide)] at ht; exact ht), ?_⟩
      have := hc c
      unfold m_clo m_mk m_k at this ⊢
      have e4 : I90 1000 4 = I 1000 4 := by rw [e90, su_k (by decide)]
      rw [e4]
      rw [e90, su_f (by decide), su_f (by decide), su_f (by decide), su_f (by decide), su_f (by decide)]
      exact this
    · have hn : m_un I + 1 < n + 1 := by
        rcases hn with h | h
        · exact absurd h c
        · exact h
      refine ⟨_, m_inf13 ((I 1000 4).toNat + 1) T h01 (by omega) (by omega) (Or.inl rfl) (by omega) (fun J y hs => ?_)⟩
      have hu := m_un_stp hs
      have fr := hs.2.1
      refine m_inf7 n (m_T_16 fr T) hs.2.2.2.1 (fun e => ?_) ?_ (by omega) (fun K hK => k K ?_)
      · obtain ⟨_, j16, hcl⟩ := hs.2.2.2.2.2.2.1 e
        have eJ : J = I := funext fun g => by
          by_cases cg : g = 16
          · rw [cg, j16]
          · exact fr g cg
        rw [eJ]
        intro t h1 h2
        exact hcl t (by omega) h2
      · rcases hs.2.2.2.2.2.1 with e | e
        · exact Or.inl e
        · right
          rcases hs.2.2.2.2.2.2.2 (by rw [e]; decide) with h | h
          · exact absurd rfl h
          · have := hu.2 h
            omega
      · obtain ⟨b1, b2, b3, b4, b5, b6, b7⟩ := hK
        refine ⟨fun g g1 g2 => (b1 g g1 g2).trans (fr g g1), fun f hf => (b2 f hf).trans (by rw [fr 1000 (by decide)]), b3, fun t h => b4 t (hs.2.2.1 t h), b5, fun X cX hX => b6 X ((m_clo_e fr).mpr cX) (hs.2.2.2.2.1 X cX hX), b7⟩
theorem m_infer {Q : sr_V → Prop} (T : m_T I d nn) (h01 : m_01 I) (hf : I 1000 19 = 0 ∨ I 1000 19 = 1) (hc : I 1000 19 = 1 → m_clo I (m_k I)) (k : ∀ J, m_infd I J → Q J) : rm_83 I Q := by
  unfold rm_83
  intro v e _
  refine ⟨fun c => ?_, fun c => ?_⟩
  · exact ⟨_, m_inf7 1 T h01 (fun _ => hc (by omega)) (Or.inl rfl) (by omega) k⟩
  · exact ⟨_, m_inf7 (m_un I + 2) T h01 (fun h => by cases h) (Or.inr (by omega)) (by omega) k⟩
end
end
