/-! ===== the reference: what it answers of terms and messages ===== -/
noncomputable section
section
variable {I J : sr_V} {d e : Nat → Wt} {nn : Nat} {K : Wt → Prop} {x : Int} {tl tp : List Wt} {ms : List (List Wt)} {rd : Nat → Int}
/-- signs that stand at a place -/
def m_at (n : Int) (d : Nat → Wt) (f : Nat → Int) (a : Nat) (l : List Wt) : Prop := ∀ k w, l[k]? = some w → m_vs n (f (a + k)) ∧ w_sg d (f (a + k)) = w
def m_P (I : sr_V) (d : Nat → Wt) (tp : List Wt) : Prop := I 1000 3 = tp.length ∧ tp.length ≤ 1200 ∧ m_at (I 1000 4) d (I 2) 0 tp
def m_Y (I : sr_V) (rd : Nat → Int) : Prop := ∀ k, k < 20 → I 1 k % 256 = rd k ∧ 0 ≤ rd k ∧ rd k < 256
def m_M (I : sr_V) (d : Nat → Wt) (ms : List (List Wt)) : Prop := I 1000 22 = ms.length ∧ ms.length ≤ 300 ∧ 0 ≤ I 1000 23 ∧ I 1000 23 ≤ 1200 * ms.length ∧ ∀ i l, ms[i]? = some l → 0 ≤ I 24 i ∧ I 25 i = l.length ∧ l.length ≤ 1200 ∧ I 24 i + l.length ≤ I 1000 23 ∧ m_at (I 1000 4) d (I 26) (I 24 i).toNat l
theorem w_sg_e {n s : Int} (he : ∀ u : Nat, (u : Int) ≤ n → e u = d u) (h : m_vs n s) : w_sg e s = w_sg d s := by
  unfold m_vs at h
  unfold w_sg
  by_cases c : s < 256
  · rw [if_pos c, if_pos c]
  · rw [if_neg c, if_neg c, he _ (by omega)]
theorem m_at_e {n n' : Int} {f : Nat → Int} {a : Nat} {l : List Wt} (hn : n ≤ n') (he : ∀ u : Nat, (u : Int) ≤ n → e u = d u) (h : m_at n d f a l) : m_at n' e f a l := fun k w hk => by
  obtain ⟨h1, h2⟩ := h k w hk
  exact ⟨m_vs_up hn h1, by rw [w_sg_e he h1]; exact h2⟩
theorem m_P_e (h2 : J 2 = I 2) (h3 : J 1000 3 = I 1000 3) (h4 : I 1000 4 ≤ J 1000 4) (he : ∀ u : Nat, (u : Int) ≤ I 1000 4 → e u = d u) (h : m_P I d tp) : m_P J e tp := by
  unfold m_P at h ⊢
  rw [h2, h3]
  exact ⟨h.1, h.2.1, m_at_e h4 he h.2.2⟩
theorem m_M_e (h24 : J 24 = I 24) (h25 : J 25 = I 25) (h26 : J 26 = I 26) (h22 : J 1000 22 = I 1000 22) (h23 : J 1000 23 = I 1000 23) (h4 : I 1000 4 ≤ J 1000 4) (he : ∀ u : Nat, (u : Int) ≤ I 1000 4 → e u = d u) (h : m_M I d ms) : m_M J e ms := by
  unfold m_M at h ⊢
  rw [h24, h25, h26, h22, h23]
  refine ⟨h.1, h.2.1, h.2.2.1, h.2.2.2.1, fun i l hi => ?_⟩
  obtain ⟨a, b, c, d', f⟩ := h.2.2.2.2 i l hi
  exact ⟨a, b, c, d', m_at_e h4 he f⟩
theorem m_N_e (T : m_T J e nn) (h13 : J 13 = I 13) (h14 : J 14 = I 14) (h18 : J 1000 18 = I 1000 18) (h4 : I 1000 4 ≤ J 1000 4) (he : ∀ u : Nat, (u : Int) ≤ I 1000 4 → e u = d u) (h : m_N I d tl) : m_N J e tl := by
  obtain ⟨n1, n2, n3, n4, n5⟩ := h
  refine ⟨by rw [h18]; exact n1, fun i w hi => ?_, fun t ht => ?_, fun t ht => by rw [h13]; exact n4 t (by omega), n5⟩
  · obtain ⟨t, r1, r2, r3⟩ := n2 i w hi
    exact ⟨t, ⟨r1.1, by have := r1.2; omega⟩, by rw [h14]; exact r2, by rw [he t r1.2]; exact r3⟩
  · rw [h13]
    by_cases c : (t : Int) ≤ I 1000 4
    · rw [he t c]; exact n3 t ⟨ht.1, c⟩
    · rw [n4 t (by omega), if_neg]
      intro hm
      obtain ⟨i, hi, ei⟩ := List.getElem_of_mem hm
      obtain ⟨u, r1, r2, r3⟩ := n2 i _ (List.getElem?_eq_getElem hi)
      have r12 := r1.2
      have := T.2.2.2.2.2.1 t u ht.1 ht.2 r1.1 (by omega) (by rw [he u r1.2, r3, ei])
      omega
theorem m_N_same (h13 : J 13 = I 13) (h14 : J 14 = I 14) (h18 : J 1000 18 = I 1000 18) (h4 : J 1000 4 = I 1000 4) (h : m_N I d tl) : m_N J d tl := by
  unfold m_N m_R at h ⊢
  rw [h13, h14, h18, h4]
  exact h
/-- the term with a number -/
def w_no (tl : List Wt) (x : Int) : Option Wt := if 1 ≤ x then tl[(x - 1).toNat]? else none
theorem w_no_some (hN : m_N I d tl) (h1 : 1 ≤ x) (h2 : x ≤ I 1000 18) : ∃ (w : Wt) (t : Nat), w_no tl x = some w ∧ m_R I t ∧ I 14 x.toNat = t ∧ d t = w := by
  obtain ⟨n1, n2, _⟩ := hN
  have hl : (x - 1).toNat < tl.length := by omega
  obtain ⟨t, r1, r2, r3⟩ := n2 (x - 1).toNat _ (List.getElem?_eq_getElem hl)
  refine ⟨_, t, ?_, r1, ?_, r3⟩
  · unfold w_no
    rw [if_pos h1]
    exact List.getElem?_eq_getElem hl
  · rw [← r2]
    congr 1
    omega
theorem w_no_none (hN : m_N I d tl) (h : x < 1 ∨ I 1000 18 < x) : w_no tl x = none := by
  have n1 := hN.1
  unfold w_no
  split
  · rw [List.getElem?_eq_none_iff]
    omega
  · rfl
theorem m_isTold {Q : Int → sr_V → Prop} (hN : m_N I d tl) (q0 : w_no tl x = none → Q 0 I) (q1 : ∀ w t, w_no tl x = some w → m_R I t → I 14 x.toNat = t → d t = w → 1 ≤ x → x ≤ tl.length → Q 1 I) : rm_61 x I Q := by
  have n1 := hN.1
  unfold rm_61
  refine ⟨fun c => q0 (w_no_none hN (Or.inl c)), fun c => ?_⟩
  intro v e _
  refine ⟨fun c1 => q0 (w_no_none hN (Or.inr (by omega))), fun c1 => ?_⟩
  obtain ⟨w, t, a1, a2, a3, a4⟩ := w_no_some hN c (by omega)
  exact q1 w t a1 a2 a3 a4 c (by omega)
/-- the intruder knows the term with this number -/
def w_has (tl : List Wt) (K : Wt → Prop) (x : Int) : Prop := ∃ w, w_no tl x = some w ∧ K w
theorem m_has {Q : Int → sr_V → Prop} (hn : I 1000 4 ≤ 44999) (hb : tl.length < 44999) (hN : m_N I d tl) (h01 : m_01 I) (hk : ∀ t, m_R I t → (m_k I t ↔ K (d t))) (q0 : ¬ w_has tl K x → Q 0 I) (q1 : w_has tl K x → Q 1 I) : rm_115 x I Q := by
  have n1 := hN.1
  unfold rm_115
  have none0 : w_no tl x = none → ¬ w_has tl K x := fun h ⟨w, a, _⟩ => by rw [h] at a; cases a
  refine ⟨fun c => q0 (none0 (w_no_none hN (Or.inl c))), fun c => ?_⟩
  intro v e _
  refine ⟨fun c1 => q0 (none0 (w_no_none hN (Or.inr (by omega)))), fun c1 => ⟨by omega, by omega, ?_⟩⟩
  obtain ⟨w, t, a1, a2, a3, a4⟩ := w_no_some hN c (by omega)
  intro v4 e4 _
  rw [a3] at e4
  subst e4
  have a22 := a2.2
  refine ⟨by omega, by omega, ?_⟩
  intro v7 e7 _
  rw [Int.toNat_natCast] at e7
  refine ⟨fun c2 => q0 (fun ⟨w', b1, b2⟩ => ?_), fun c2 => q1 ⟨w, a1, ?_⟩⟩
  · rw [a1] at b1
    have b1 := Option.some.inj b1
    subst b1
    rw [← a4] at b2
    have := (hk t a2).mpr b2
    unfold m_k at this
    rw [← e7, c2] at this
    cases this
  · rw [← a4]
    apply (hk t a2).mp
    rcases h01 t with h | h
    · exact absurd (e7.trans h) c2
    · exact h
def w_cnt (K : Wt → Prop) (tl : List Wt) : Nat := tl.countP (fun w => @decide (K w) (Classical.propDecidable (K w)))
theorem m_kt_l {Q : Int → sr_V → Prop} (hn : I 1000 4 ≤ 44999) (hb : tl.length < 44999) (hN : m_N I d tl) (h01 : m_01 I) (hk : ∀ t, m_R I t → (m_k I t ↔ K (d t))) (q : Q (w_cnt K tl) I) : ∀ (n : Nat) {x1 x2 : Int}, 1 ≤ x2 → (tl.length + 1 - x2).toNat < n → x2 ≤ tl.length + 1 → x1 + w_cnt K (tl.drop (x2 - 1).toNat) = w_cnt K tl → 0 ≤ x1 → rl_118_6 Q n x1 x2 I
  | 0, _, _, _, h, _, _, _ => by omega
  | n + 1, x1, x2, h2, hn1, hle, hs, h1 => by
    have n1 := hN.1
    have hcl : w_cnt K tl ≤ tl.length := List.countP_le_length
    unfold rl_118_6
    intro v9 e9 _
    refine ⟨fun c => ?_, fun c => ⟨by omega, by omega, ?_⟩⟩
    · have : tl.drop (x2 - 1).toNat = [] := List.drop_eq_nil_of_le (by omega)
      rw [this] at hs
      have hz : w_cnt K [] = 0 := rfl
      rw [hz] at hs
      have : x1 = w_cnt K tl := by omega
      rw [this]
      exact q
    · obtain ⟨w, t, a1, a2, a3, a4⟩ := w_no_some hN h2 (by omega)
      have hl : (x2 - 1).toNat < tl.length := by omega
      have hw : tl[(x2 - 1).toNat]? = some w := by
        unfold w_no at a1
        rw [if_pos h2] at a1
        exact a1
      have hd : tl.drop (x2 - 1).toNat = w :: tl.drop (x2 + 1 - 1).toNat := by
        rw [List.drop_eq_getElem_cons hl, show (x2 + 1 - 1).toNat = (x2 - 1).toNat + 1 by omega]
        congr 1
        rw [List.getElem?_eq_getElem hl] at hw
        exact Option.some.inj hw
      have hcons : w_cnt K (w :: tl.drop (x2 + 1 - 1).toNat) = w_cnt K (tl.drop (x2 + 1 - 1).toNat) + (if @decide (K w) (Classical.propDecidable (K w)) = true then 1 else 0) := List.countP_cons
      rw [hd, hcons] at hs
      intro v12 e12 _
      rw [a3] at e12
      subst e12
      have a22 := a2.2
      refine ⟨by omega, by omega, ?_⟩
      intro v15 e15 _
      rw [Int.toNat_natCast] at e15
      have go : ∀ y : Int, y = (if @decide (K w) (Classical.propDecidable (K w)) = true then (1 : Nat) else 0 : Nat) → rb_118_22 Q (rl_118_6 Q n) x2 y x1 I := by
        intro y ey
        unfold rb_118_22
        intro z1 ez1 z2 ez2
        have hy : y = 0 ∨ y = 1 := by
          rw [ey]
          split
          · exact Or.inr rfl
          · exact Or.inl rfl
        rw [sw_w_s (by omega) (by omega)] at ez1 ez2
        subst ez1 ez2
        refine m_kt_l hn hb hN h01 hk q n (by omega) (by omega) (by omega) ?_ (by omega)
        rw [Int.natCast_add, ← ey] at hs
        omega
      refine ⟨fun c2 => go 0 ?_, fun c2 => go 1 ?_⟩
      · rw [if_neg]
        · rfl
        · intro h
          have h := @of_decide_eq_true (K w) (Classical.propDecidable (K w)) h
          rw [← a4] at h
          have := (hk t a2).mpr h
          unfold m_k at this
          rw [← e15, c2] at this
          cases this
      · rw [if_pos]
        · rfl
        · apply @decide_eq_true (K w) (Classical.propDecidable (K w))
          rw [← a4]
          apply (hk t a2).mp
          rcases h01 t with h | h
          · exact absurd (e15.trans h) c2
          · exact h
theorem m_infd_fr (h : m_infd I J) : m_fr [16] [19] I J := ⟨fun g a b => h.1 g (by simpa using a) b, fun f a => h.2.1 f (by simpa using a)⟩
theorem m_T_fr {A F : List Nat} (h : m_fr A F I J) (hA : ∀ g ∈ A, ¬ (6 ≤ g ∧ g ≤ 12 ∨ g = 15 ∨ g = 17)) (h4 : 4 ∉ F) (h5 : 5 ∉ F) (T : m_T I d nn) : m_T J d nn := m_T_same (fun g hg => h.1 g (fun hm => hA g hm hg) (by omega)) (h.2 4 h4) (h.2 5 h5) T
theorem m_knownTold {Q : Int → sr_V → Prop} (T : m_T I d nn) (hK : m_K I d K) (hb : tl.length < 44999) (hN : m_N I d tl) (q : ∀ J, m_K J d K → J 1000 19 = 1 → m_fr [16] [19] I J → Q (w_cnt K tl) J) : rm_118 I Q := by
  have hn := T.2.1
  unfold rm_118
  refine m_infer T hK.1 hK.2.2.1 hK.2.2.2.1 (fun J hi => ?_)
  obtain ⟨k1, k2, k3⟩ := m_K_infer T hK hi
  have fr := m_infd_fr hi
  have f4 := fr.2 4 (by decide)
  refine ⟨_, m_kt_l (by omega) hb (m_N_same (fr.1 13 (by decide) (by decide)) (fr.1 14 (by decide) (by decide)) (fr.2 18 (by decide)) f4 hN) k1.1 k3 (q J k1 k2 fr) (tl.length + 1) (x1 := 0) (x2 := 1) (by omega) (by omega) (by omega) (by simp) (by omega)⟩
theorem m_message {Q : Int → sr_V → Prop} (hM : m_M I d ms) (q0 : (x < 0 ∨ (ms.length : Int) ≤ x) → Q (-1) (su I 1000 0 0)) (q1 : ∀ l, 0 ≤ x → ms[x.toNat]? = some l → Q l.length (su I 1000 0 0)) : rm_35 x I Q := by
  obtain ⟨m1, m2, m3, m4, m5⟩ := hM
  unfold rm_35
  intro I2 e2
  have f22 : I2 1000 22 = I 1000 22 := by rw [e2, su_k (by decide)]
  have f25 : I2 25 = I 25 := by rw [e2, su_f (by decide)]
  rw [← e2] at q0 q1
  refine ⟨fun c => q0 (Or.inl c), fun c => ?_⟩
  intro v e _
  rw [f22] at e
  refine ⟨fun c1 => ⟨c, by omega, ?_⟩, fun c1 => q0 (Or.inr (by omega))⟩
  intro v9 e9 _
  rw [f25] at e9
  have hl : x.toNat < ms.length := by omega
  obtain ⟨_, b, _⟩ := m5 x.toNat _ (List.getElem?_eq_getElem hl)
  rw [e9, b]
  exact q1 _ c (List.getElem?_eq_getElem hl)
end
end
