/-! ===== the class: learn, tell ===== -/
noncomputable section
section
variable {H G X Y Z : sw_H} {d : Nat → Wt} {nn : Nat} {K : Wt → Prop} {tl : List Wt} {g t w : Nat} {wl wm wn : List Nat} {x cn cs : Int} {Q : sw_H → Prop} {P : Int → sw_H → Prop}
theorem c_A_sh (A : c_A H d nn K tl) : c_sh H := by
  obtain ⟨T, Z, n4, n5, U, hK, hN, h9⟩ := A
  obtain ⟨S, D, t1, t2, t3, t4, t5, t6, t7, _⟩ := T
  exact ⟨S, D, n4, n5, t2, t1, by omega, Z 9 (by omega) (Or.inr (by decide))⟩
theorem c_A_cx (A : c_A H d nn K tl) : c_cx H d nn [] := by
  refine ⟨c_A_sh A, A.1, A.2.2.2.2.2.1.1, ⟨A.2.2.2.2.2.2.2, by simp, by simp⟩, ?_⟩
  have t1 := A.1.2.2.1
  have h1 : c_un H ≤ (c_n H).toNat := by
    unfold c_un
    have := List.countP_le_length (p := fun t => decide (c_d H (t + 1) 9 = 0)) (l := List.range (c_n H).toNat)
    rw [List.length_range] at this
    exact this
  simp
  omega
theorem c_lr_ft (h : c_lr X Y) : c_ft X Y := c_fr_ft h.1 (fun a ha => by
  simp at ha
  unfold c_ow
  rcases ha with e | e | e
  · exact Or.inl e
  · exact Or.inr (Or.inl e)
  · exact Or.inr (Or.inr (Or.inr (Or.inr (Or.inr e)))))
theorem c_lr_q (h : c_lr X Y) (q : c_q X cn cs) : c_q Y cn cs := by
  unfold c_q c_qb at q ⊢
  rw [c_lr_n h, h.2.1 4 (by decide), h.2.1 7 (by decide)]
  simp only [h.1.2.2.2.2.1, h.1.2.2.2.1, h.1.1, h.1.2.1]
  exact q
theorem c_lr_N (s : c_sh X) (h : c_lr X Y) (N : c_N X d tl) : c_N Y d tl := by
  obtain ⟨n1, n2, n3, n4, n5⟩ := N
  obtain ⟨d1, d2, d3, d4, d5, d6, d7, d8, d9, d10⟩ := s.2.1
  have n36 : sw_rv X 3 6 ≠ 3 := fun e => by
    have h1 := s.1.1
    have h2 := s.1.2.2.2.2.1
    rw [e, h1] at h2
    cases h2
  have rv := h.1.2.2.2.2.1
  have ln := h.1.2.2.2.1
  have iv := h.1.2.2.2.2.2 (sw_rv X 3 6) (by simp; exact ⟨n36, fun e => d3 e.symm, d10⟩)
  refine ⟨by rw [h.2.1 7 (by decide)]; exact n1, by rw [rv, ln]; exact n2, fun i w hw => ?_, fun t ht => ?_, n5⟩
  · obtain ⟨t, t1, t2, t3⟩ := n3 i w hw
    exact ⟨t, (c_lr_R h t).mpr t1, by rw [rv, iv]; exact t2, t3⟩
  · rw [c_lr_d h (by decide) (Or.inl (by decide))]
    exact n4 t ((c_lr_R h t).mp ht)
theorem c_lr_Z (h : c_lr X Y) (Z : c_Z X) : c_Z Y := fun j hj hz => by
  rw [h.1.2.2.2.2.1, h.1.2.2.2.1] at hj
  rw [c_lr_n h] at hz
  rw [h.1.2.2.2.2.1, h.2.2 j (by omega)]
  exact Z j hj hz
theorem c_J_new (c : c_cx X d nn []) (hc : c_clo X (c_kn X)) (sp : c_sp g X [] Y wm) : c_J Y wm := by
  have lr := sp.1
  have mono : ∀ t, c_kn X t → c_kn Y t := fun t ht => c_sp_mono sp ht
  obtain ⟨_, _, _, ⟨nw, e1, e2⟩, _, _⟩ := sp
  rw [List.nil_append] at e1
  intro t ht
  have htX := (c_lr_R lr t).mp ht
  have inw : ∀ p, c_kn Y p → ¬ c_kn X p → p ∈ wm := fun p p1 p2 => by
    rw [e1]
    rcases (e2 p).mp p1 with q | q
    · exact absurd q p2
    · exact q
  obtain ⟨h1, h2, h3⟩ := hc t htX
  refine ⟨fun hm => ?_, fun e => mono _ (h2 e), fun s6 k1 k2 => ?_⟩
  · have hm := (c_lr_mk lr _ _).mp hm
    by_cases hx : c_mk X (c_kn X) t
    · exact Or.inl (mono _ (h1 hx))
    · obtain ⟨p, p1, p2, p3⟩ := c_mk_us c htX hm hx
      exact Or.inr ⟨p, inw p p1 p2, (c_lr_us lr _ _).mpr p3⟩
  · have dd : ∀ u k, k ≤ 3 → c_d Y u k = c_d X u k := fun u k hk => c_lr_d lr (by omega) (Or.inl (by omega))
    rw [dd t 0 (by decide)] at s6
    rw [dd t 1 (by decide), dd _ 1 (by decide)] at k2 ⊢
    rw [dd t 2 (by decide), dd t 3 (by decide)]
    by_cases x1 : c_kn X t
    · by_cases x2 : c_kn X (c_d X (c_d X t 1).toNat 1).toNat
      · have q := h3 s6 x1 x2
        exact Or.inl ⟨mono _ q.1, fun hh => mono _ (q.2 hh)⟩
      · exact Or.inr (Or.inr (inw _ k2 x2))
    · exact Or.inr (Or.inl (inw _ k1 x1))
theorem c_learn (A : c_A H d nn K tl) (F : c_F H) (q : c_q H cn cs) (h0 : 0 ≤ x) (h1 : x ≤ c_n H) (k : ∀ Y, c_A Y d nn (w_lrn d K x) tl → c_F Y → c_q Y cn cs → c_ft H Y → c_n Y = c_n H → sw_iv Y 3 4 = sw_iv H 3 4 → Q Y) : wm_144 3 x H Q := by
  have c := c_A_cx A
  have A' := A
  obtain ⟨T, Z, n4, n5, U, hK, hN, h9⟩ := A'
  have s := c.1
  have dl := s.1.2.2.2.2.2.2.1
  have l1 := s.2.2.2.2.1
  unfold wm_144
  refine c_reveal (g := x.toNat) s c.2.2.1 c.2.2.2.1 c.2.2.2.2 h0 h1 (fun _ S _ b _ => b) (fun Y wm sp kx _ => ?_)
  intro v35 e35 _
  have lr := sp.1
  have e35 : v35 = c_n H := by
    rw [e35]
    exact c_lr_n lr
  subst e35
  have cY := c_cx_sp c sp
  have unY := cY.2.2.2.2
  have enY := c_lr_n lr
  refine ⟨c_un Y + wm.length + 1, c_lrn_l (g := x.toNat) _ cY (c_lr_U lr U) (c_J_new c hK.2.1 sp) (by omega) (by omega) (by omega) (fun Z' z1 z2 z3 z4 z5 z6 => ?_)⟩
  have lr2 := c_lr_trans lr z1
  have ft := c_lr_ft lr2
  have sZ := c_lr_sh lr2 s
  refine k Z' ⟨c_lr_T lr2 s T, c_lr_Z lr2 Z, sZ.2.2.1, sZ.2.2.2.1, c_lr_U lr2 U, ⟨z2, z6, fun w => ?_⟩, c_lr_N s lr2 hN, z3⟩ (c_fr_F lr2.1 F) (c_lr_q lr2 q) ft (c_lr_n lr2) (lr2.2.1 4 (by decide))
  have hKc := c_K_clo hK
  have mono : ∀ t, c_kn H t → c_kn Z' t := fun t ht => z4 t (c_sp_mono sp ht)
  have snd : ∀ S, c_clo H S → S x.toNat → (∀ t, c_kn H t → S t) → ∀ t, c_kn Z' t → S t := fun S a b e t ht => z5 S ((c_lr_clo lr S).mpr a) b (fun t ht => sp.2.2.2.2.1 S a b e t ht) t ht
  by_cases cx : x = 0
  · have ew : w_lrn d K x = K := if_pos cx
    rw [ew, hK.2.2]
    refine ⟨w_cl_mono (fun v ⟨u, u1, u2⟩ => ⟨u, mono u u1, u2⟩), fun hw => (hK.2.2 w).mp (w_cl_le hKc (fun v ⟨u, u1, u2⟩ => ?_) hw)⟩
    have cl := c_clo_w T hKc
    have := snd (fun t => t = 0 ∨ (c_R H t ∧ K (d t))) (fun t ht => ?_) (Or.inl (by omega)) (fun t ht => Or.inr ⟨ht.1, (hK.2.2 _).mpr (w_cl_base ⟨t, ht, rfl⟩)⟩) u u1
    · rcases this with e | e
      · have := u1.1.1
        omega
      · rw [← u2]; exact e.2
    · obtain ⟨q1, q2, q3⟩ := cl t ht
      have v := (T.2.2.2.2.2.2.2.2.2.1 t ht).1
      have v3 := v.2.2.1
      have w1 := v.2.2.2.2.2.2.2.2.2.2
      have ht1 := ht.1
      refine ⟨fun hm => Or.inr (q1 ?_), fun e => Or.inr (q2 e), fun s6 b1 b2 => ?_⟩
      · unfold c_mk at hm ⊢
        rcases hm with a | ⟨a1, a2⟩ | ⟨a1, a2, a3, a4⟩
        · exact Or.inl a
        · have p1 : 1 ≤ c_d H t 1 := by
            rcases a1 with a | a | a | a
            · exact (w1.1 (Or.inl a)).1
            · exact (w1.2.1 a).1
            · exact (w1.1 (Or.inr (Or.inl a))).1
            · exact (w1.1 (Or.inr (Or.inr a))).1
          rcases a2 with a2 | a2
          · omega
          · exact Or.inr (Or.inl ⟨a1, a2⟩)
        · have p12 : 1 ≤ c_d H t 1 ∧ 1 ≤ c_d H t 2 := by
            rcases a1 with a | a
            · have := w1.2.2.1 a; exact ⟨this.1, this.2.1⟩
            · have := w1.2.2.2 a; exact ⟨this.1, this.2.2⟩
          have v5 := v.2.2.2.2.1
          clear w1 v
          rcases a2 with a2 | a2
          · omega
          · rcases a3 with a3 | a3
            · omega
            · refine Or.inr (Or.inr ⟨a1, a2, a3, ?_⟩)
              rcases a4 with a4 | a4 | a4
              · exact Or.inl a4
              · exact Or.inl (by omega)
              · exact Or.inr a4
      · obtain ⟨y1, y2, y3, y4, y5, y6, y7, y8, y9⟩ := c_sealed T ht s6
        clear w1 v
        rcases b1 with b1 | b1
        · omega
        · rcases b2 with b2 | b2
          · omega
          · obtain ⟨r1, r2⟩ := q3 s6 b1 b2
            exact ⟨Or.inr r1, fun h => Or.inr (r2 h)⟩
  · have ew : w_lrn d K x = w_add K (d x.toNat) := if_neg cx
    rw [ew]
    have hcl : w_clo (w_add K (d x.toNat)) := w_cl_clo _
    constructor
    · intro hw
      refine w_cl_le (w_cl_clo _) (fun v hv => ?_) hw
      rcases hv with hv | hv
      · exact w_cl_mono (fun v ⟨u, u1, u2⟩ => ⟨u, mono u u1, u2⟩) ((hK.2.2 v).mp hv)
      · exact w_cl_base ⟨x.toNat, z4 _ (kx cx), hv.symm⟩
    · intro hw
      refine w_cl_le hcl (fun v ⟨u, u1, u2⟩ => ?_) hw
      rw [← u2]
      exact (snd (fun t => c_R H t ∧ w_add K (d x.toNat) (d t)) (c_clo_w T hcl) ⟨⟨by omega, by omega⟩, w_cl_base (Or.inr rfl)⟩ (fun t ht => ⟨ht.1, w_cl_base (Or.inl ((hK.2.2 _).mpr (w_cl_base ⟨t, ht, rfl⟩)))⟩) u u1).2
end
end
