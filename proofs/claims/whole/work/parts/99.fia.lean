/-! ===== the reference: close tells more: what was known stays known, where the text ends ===== -/
noncomputable section
variable {I I0 : sr_V} {Q Q2 : Int → sr_V → Prop} {x1 x2 E : Int}
theorem r_cl_27 (hq : ∀ z G, Q z G → (∀ t, I0 16 t = 1 → G 16 t = 1) → G 1000 23 = E → Q2 z G) : ∀ (n : Nat) {x3 : Int} {I : sr_V}, (∀ t, I0 16 t = 1 → I 16 t = 1) → I 1000 110 = E → rl_81_27 Q n x1 x2 x3 I → rl_81_27 Q2 n x1 x2 x3 I
  | 0, _, _, _, _, h => h
  | n + 1, x3, I, h16, h110, h => by
    unfold rl_81_27 at h ⊢
    intro v5 e5 s5
    obtain ⟨h1, h2⟩ := h v5 e5 s5
    have next : ∀ {A : sr_V}, (∀ t, I0 16 t = 1 → A 16 t = 1) → A 1000 110 = E → rb_81_47 Q (rl_81_27 Q n) x1 x2 x3 A → rb_81_47 Q2 (rl_81_27 Q2 n) x1 x2 x3 A := fun {A} a1 a2 hA => by
      unfold rb_81_47 at hA ⊢
      intro y1 e1
      exact r_cl_27 hq n a1 a2 (hA y1 e1)
    refine ⟨fun c => ?_, fun c => ⟨fun c1 => next h16 h110 ((h2 c).1 c1), fun c1 => ?_⟩⟩
    · intro v8 e8 s8 I12 e12
      refine hq _ _ (h1 c v8 e8 s8 I12 e12) (fun t ht => ?_) ?_
      · rw [e12, su_f (by decide)]; exact h16 t ht
      · rw [e12, su_eq, e8]; exact h110
    · obtain ⟨a1, a2, a3⟩ := (h2 c).2 c1
      refine ⟨a1, a2, ?_⟩
      intro v16 e16 s16
      obtain ⟨b1, b2⟩ := a3 v16 e16 s16
      refine ⟨fun c2 => next h16 h110 (b1 c2), fun c2 => ?_⟩
      obtain ⟨d1, d2, d3⟩ := b2 c2
      refine ⟨d1, d2, ?_⟩
      intro v19 e19 s19
      have hl := d3 v19 e19 s19
      unfold rm_56 at hl ⊢
      refine ⟨fun c3 => next h16 h110 (hl.1 c3), fun c3 => ?_⟩
      obtain ⟨f1, f2, f3⟩ := hl.2 c3
      refine ⟨f1, f2, ?_⟩
      intro v1 e1 s1
      obtain ⟨g1, g2⟩ := f3 v1 e1 s1
      refine ⟨fun c4 => ?_, fun c4 => next h16 h110 (g2 c4)⟩
      obtain ⟨k1, k2, k3⟩ := g1 c4
      refine ⟨k1, k2, ?_⟩
      intro I5 e5' I10 e10
      refine next (fun t ht => ?_) ?_ (k3 I5 e5' I10 e10)
      · rw [e10, su_f (by decide), e5', su_at]
        split
        · rfl
        · exact h16 t ht
      · rw [e10, su_k (by decide), e5', su_f (by decide)]; exact h110
theorem r_close_more (hq : ∀ z G, Q z G → (∀ t, I 16 t = 1 → G 16 t = 1) → G 1000 23 = I 1000 110 → Q2 z G) (h : rm_81 x1 I Q) : rm_81 x1 I Q2 := by
  unfold rm_81 at h ⊢
  intro v32 e32 s32 v38 e38 s38 I42 e42 v46 e46 s46
  obtain ⟨a1, a2, a3⟩ := h v32 e32 s32 v38 e38 s38 I42 e42 v46 e46 s46
  refine ⟨a1, a2, ?_⟩
  intro I50 e50 v54 e54 s54 v57 e57 s57
  obtain ⟨b1, b2, b3⟩ := a3 I50 e50 v54 e54 s54 v57 e57 s57
  refine ⟨b1, b2, ?_⟩
  intro I61 e61 v65 e65 s65
  obtain ⟨n27, hn⟩ := b3 I61 e61 v65 e65 s65
  refine ⟨n27, r_cl_27 hq n27 (fun t ht => ?_) ?_ hn⟩
  · rw [e61, su_f (by decide), e50, su_f (by decide), e42, su_f (by decide)]; exact ht
  · rw [e61, su_f (by decide), e50, su_f (by decide), e42, su_k (by decide)]
end
