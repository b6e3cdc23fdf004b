/-! ===== the reference: learn, tell ===== -/
noncomputable section
section
variable {I J : sr_V} {d e : Nat → Wt} {nn : Nat} {K : Wt → Prop} {x : Int} {tl : List Wt}
/-- what is the same but for arrays A and fields F -/
def m_fr (A F : List Nat) (I J : sr_V) : Prop := (∀ g, g ∉ A → g ≠ 1000 → J g = I g) ∧ ∀ f, f ∉ F → J 1000 f = I 1000 f
theorem m_fr_refl (A F : List Nat) (I : sr_V) : m_fr A F I I := ⟨fun _ _ _ => rfl, fun _ _ => rfl⟩
theorem m_fr_trans {A F : List Nat} {I J K : sr_V} (a : m_fr A F I J) (b : m_fr A F J K) : m_fr A F I K := ⟨fun g h1 h2 => (b.1 g h1 h2).trans (a.1 g h1 h2), fun f h => (b.2 f h).trans (a.2 f h)⟩
theorem m_fr_sub {A F A' F' : List Nat} {I J : sr_V} (h : m_fr A F I J) (hA : ∀ g ∈ A, g ∈ A') (hF : ∀ g ∈ F, g ∈ F') : m_fr A' F' I J := ⟨fun g h1 h2 => h.1 g (fun h3 => h1 (hA g h3)) h2, fun f h1 => h.2 f (fun h3 => h1 (hF f h3))⟩
theorem m_T_same (h : ∀ g, (6 ≤ g ∧ g ≤ 12 ∨ g = 15 ∨ g = 17) → J g = I g) (f4 : J 1000 4 = I 1000 4) (e5 : J 1000 5 = I 1000 5) (T : m_T I d nn) : m_T J d nn := by
  have e6 := h 6 (by decide)
  have e7 := h 7 (by decide)
  have e8 := h 8 (by decide)
  have e9 := h 9 (by decide)
  have e10 := h 10 (by decide)
  have e11 := h 11 (by decide)
  have e12 := h 12 (by decide)
  have e15 := h 15 (by decide)
  have e17 := h 17 (by decide)
  obtain ⟨t1, t2, t3, t4, t5, t6, ch, c1, c2, c3⟩ := T
  refine ⟨by rw [f4]; exact t1, by rw [f4]; exact t2, by rw [e5]; exact t3, by rw [e5]; exact t4, ?_, ?_, ch, ?_, ?_, ?_⟩
  · rw [f4]
    intro t a b
    have := t5 t a b
    unfold m_rw m_va m_sn at this ⊢
    rw [e5, e6, e7, e8, e9, e10, e11, e17]
    exact this
  · rw [f4]; exact t6
  · intro b
    rcases c1 b with h | h
    · exact Or.inl (by rw [e15]; exact m_lk_e e12 _ _ h)
    · exact Or.inr h
  · rw [f4]; exact c2
  · rw [f4]
    intro t a b c
    have := c3 t a b (by rw [← e6]; exact c)
    unfold m_sn at this ⊢
    rw [e6, e7, e8, e9, e10, e11, e17]
    exact this
theorem m_K_same (h : ∀ g, (6 ≤ g ∧ g ≤ 9 ∨ g = 16) → J g = I g) (f4 : J 1000 4 = I 1000 4) (f19 : J 1000 19 = I 1000 19) (k : m_K I d K) : m_K J d K := by
  have e6 := h 6 (by decide)
  have e7 := h 7 (by decide)
  have e8 := h 8 (by decide)
  have e9 := h 9 (by decide)
  have e16 := h 16 (by decide)
  unfold m_K m_B m_clo m_mk m_01 m_R m_k at k ⊢
  rw [e6, e7, e8, e9, e16, f4, f19]
  exact k
/-- K, and w with it -/
def w_add (K : Wt → Prop) (w : Wt) : Wt → Prop := w_cl (fun v => K v ∨ v = w)
theorem w_add_in {K : Wt → Prop} (c : w_clo K) {w : Wt} (h : K w) : w_add K w = K := funext fun v => propext ⟨fun hv => w_cl_le c (fun u hu => by
  rcases hu with hu | hu
  · exact hu
  · rw [hu]; exact h) hv, fun hv => w_cl_base (Or.inl hv)⟩
/-- what learning a term (0: none) makes of K -/
def w_lrn (d : Nat → Wt) (K : Wt → Prop) (x : Int) : Wt → Prop := if x = 0 then K else w_add K (d x.toNat)
theorem m_learn {Q : sr_V → Prop} (hn : I 1000 4 ≤ 44999) (h : m_K I d K) (h0 : 0 ≤ x) (h1 : x ≤ I 1000 4) (k : ∀ J, m_K J d (w_lrn d K x) → m_fr [16] [19] I J → Q J) : rm_56 x I Q := by
  have hc := m_K_clo h
  obtain ⟨a1, a2, a3, a4, a5⟩ := h
  unfold rm_56
  refine ⟨fun c => ?_, fun c => ⟨h0, by omega, ?_⟩⟩
  · refine k I ?_ (m_fr_refl _ _ _)
    unfold w_lrn
    rw [if_pos c]
    exact ⟨a1, a2, a3, a4, a5⟩
  · intro v1 e1 _
    refine ⟨fun c1 => ⟨h0, by omega, ?_⟩, fun c1 => ?_⟩
    · intro I5 e5 I10 e10
      refine k I10 ?_ ⟨fun g g1 g2 => by rw [e10, su_f g2, e5, su_f (by simpa using g1)], fun f f1 => by rw [e10, su_k (by simpa using f1), e5, su_f (by decide)]⟩
      have f4 : I10 1000 4 = I 1000 4 := by rw [e10, su_k (by decide), e5, su_f (by decide)]
      have f19 : I10 1000 19 = 0 := by rw [e10, su_eq]
      have f16 : ∀ t, I10 16 t = if t = x.toNat then 1 else I 16 t := fun t => by
        rw [e10, su_f (by decide), e5, su_at]
        by_cases ct : t = x.toNat
        · rw [if_pos ⟨rfl, ct⟩, if_pos ct]
        · rw [if_neg (fun z => ct z.2), if_neg ct]
      unfold w_lrn
      rw [if_neg c]
      refine ⟨fun t => ?_, fun t ht => ?_, Or.inl f19, fun hh => (by rw [f19] at hh; cases hh), fun w => ?_⟩
      · rw [f16]
        split
        · exact Or.inr rfl
        · exact a1 t
      · unfold m_k at ht
        rw [f16] at ht
        unfold m_R
        rw [f4]
        by_cases ct : t = x.toNat
        · omega
        · rw [if_neg ct] at ht
          exact a2 t ht
      · unfold w_add
        constructor
        · intro hw
          refine w_cl_le (w_cl_clo _) (fun v hv => ?_) hw
          rcases hv with hv | hv
          · refine w_cl_mono (fun u hu => ?_) ((a5 v).mp hv)
            obtain ⟨t, t1, t2⟩ := hu
            refine ⟨t, ?_, t2⟩
            unfold m_k at t1 ⊢
            rw [f16]
            split
            · rfl
            · exact t1
          · rw [hv]
            exact w_cl_base ⟨x.toNat, by unfold m_k; rw [f16, if_pos rfl], rfl⟩
        · intro hw
          refine w_cl_mono (fun u hu => ?_) hw
          obtain ⟨t, t1, t2⟩ := hu
          unfold m_k at t1
          rw [f16] at t1
          by_cases ct : t = x.toNat
          · exact Or.inr (by rw [← t2, ct])
          · rw [if_neg ct] at t1
            exact Or.inl ((a5 u).mpr (w_cl_base ⟨t, t1, t2⟩))
    · refine k I ?_ (m_fr_refl _ _ _)
      unfold w_lrn
      rw [if_neg c, w_add_in hc]
      · exact ⟨a1, a2, a3, a4, a5⟩
      · refine (a5 _).mpr (w_cl_base ⟨x.toNat, ?_, rfl⟩)
        rcases a1 x.toNat with hh | hh
        · exact absurd (e1.trans hh) c1
        · exact hh
/-- the numbers of terms -/
def m_N (I : sr_V) (d : Nat → Wt) (tl : List Wt) : Prop := I 1000 18 = tl.length ∧ (∀ i w, tl[i]? = some w → ∃ t : Nat, m_R I t ∧ I 14 (i + 1) = t ∧ d t = w) ∧ (∀ t, m_R I t → I 13 t = if d t ∈ tl then (tl.idxOf (d t) : Int) + 1 else 0) ∧ (∀ t : Nat, I 1000 4 < t → I 13 t = 0) ∧ tl.Nodup
def w_tl (tl : List Wt) (w : Wt) : List Wt := if w ∈ tl then tl else tl ++ [w]
theorem m_tell {Q : Int → sr_V → Prop} (T : m_T I d nn) (hN : m_N I d tl) (hb : tl.length < 44998) (h0 : 1 ≤ x) (h1 : x ≤ I 1000 4) (k : ∀ J, m_N J d (w_tl tl (d x.toNat)) → m_fr [13, 14] [18] I J → Q ((w_tl tl (d x.toNat)).idxOf (d x.toNat) + 1) J) : rm_54 x I Q := by
  have hn := T.2.1
  obtain ⟨n1, n2, n3, n4, n5⟩ := hN
  have hx := n3 x.toNat ⟨by omega, by omega⟩
  unfold rm_54
  refine ⟨fun _ => ⟨by omega, by omega, ?_⟩, fun h => by omega⟩
  intro v4 e4 _
  rw [hx] at e4
  refine ⟨fun c => ?_, fun c => ?_⟩
  · by_cases cm : d x.toNat ∈ tl
    · unfold rb_54_27
      refine ⟨by omega, by omega, ?_⟩
      intro v1 e1 _
      rw [hx, if_pos cm] at e1
      have := k I
      unfold w_tl at this
      rw [if_pos cm] at this
      rw [e1]
      exact this ⟨n1, n2, n3, n4, n5⟩ (m_fr_refl _ _ _)
    · rw [if_neg cm] at e4
      exact absurd e4 c
  · have cm : d x.toNat ∉ tl := fun cm => by
      rw [if_pos cm] at e4
      omega
    intro v7 e7 _ I11 e11 v15 e15 _
    subst e7
    rw [sw_w_s (by omega) (by omega)] at e11
    rw [e11, su_eq] at e15
    subst e15
    refine ⟨by omega, by omega, ?_⟩
    intro I19 e19 v23 e23 _
    rw [e19, su_f (by decide), e11, su_eq] at e23
    subst e23
    refine ⟨by omega, by omega, ?_⟩
    intro I27 e27
    have g13 : ∀ t, I27 13 t = if t = x.toNat then I 1000 18 + 1 else I 13 t := fun t => by
      rw [e27, su_f (by decide), e19, su_at, e11, su_f (by decide)]
      by_cases ct : t = x.toNat
      · rw [if_pos ⟨rfl, ct⟩, if_pos ct]
      · rw [if_neg (fun z => ct z.2), if_neg ct]
    have g14 : ∀ t, I27 14 t = if t = tl.length + 1 then x else I 14 t := fun t => by
      rw [e27, su_at, e19, su_f (by decide), e11, su_f (by decide)]
      by_cases ct : t = tl.length + 1
      · rw [if_pos ⟨rfl, by omega⟩, if_pos ct]
      · rw [if_neg (fun z => ct (by omega)), if_neg ct]
    have g18 : I27 1000 18 = I 1000 18 + 1 := by rw [e27, su_f (by decide), e19, su_f (by decide), e11, su_eq]
    have g4 : I27 1000 4 = I 1000 4 := by rw [e27, su_f (by decide), e19, su_f (by decide), e11, su_k (by decide)]
    have inj := T.2.2.2.2.2.1
    unfold rb_54_27
    refine ⟨by omega, by omega, ?_⟩
    intro v1 e1 _
    rw [g13, if_pos rfl] at e1
    have k := k I27
    unfold w_tl at k
    rw [if_neg cm] at k
    have hidx : (tl ++ [d x.toNat]).idxOf (d x.toNat) = tl.length := by
      rw [List.idxOf_append, if_neg cm]
      simp
    rw [hidx] at k
    rw [e1, n1]
    refine k ⟨?_, fun i w hi => ?_, fun t ht => ?_, fun t ht => ?_, ?_⟩ ⟨fun g a b => ?_, fun f a => ?_⟩
    · rw [g18, n1]; simp
    · by_cases ci : i = tl.length
      · rw [ci, List.getElem?_append_right (Nat.le_refl _), Nat.sub_self] at hi
        have hi : d x.toNat = w := Option.some.inj hi
        refine ⟨x.toNat, ⟨by omega, by rw [g4]; omega⟩, ?_, hi⟩
        rw [g14, if_pos (by omega)]
        omega
      · have il : i < (tl ++ [d x.toNat]).length := (List.getElem?_eq_some_iff.mp hi).1
        rw [List.length_append] at il
        simp at il
        rw [List.getElem?_append_left (by omega)] at hi
        obtain ⟨t, r1, r2, r3⟩ := n2 i w hi
        refine ⟨t, ⟨r1.1, by rw [g4]; exact r1.2⟩, ?_, r3⟩
        rw [g14, if_neg (by omega)]
        exact r2
    · have ht' : m_R I t := ⟨ht.1, by have := ht.2; omega⟩
      rw [g13]
      by_cases ct : t = x.toNat
      · rw [if_pos ct, ct, if_pos (by simp), hidx, n1]
      · have hne : d t ≠ d x.toNat := fun hh => ct (inj t x.toNat ht'.1 ht'.2 (by omega) (by omega) hh)
        rw [if_neg ct, n3 t ht']
        by_cases cd : d t ∈ tl
        · rw [if_pos cd, if_pos (by simp [cd]), List.idxOf_append, if_pos cd]
        · rw [if_neg cd, if_neg (by simp [cd, hne])]
    · rw [g13, if_neg (by omega)]
      exact n4 t (by omega)
    · rw [List.nodup_append]
      refine ⟨n5, by simp, fun a ha b hb => ?_⟩
      simp at hb
      rw [hb]
      exact fun hh => cm (by rw [← hh]; exact ha)
    · simp at a
      rw [e27, su_f (by omega), e19, su_f (by omega), e11, su_f b]
    · simp at a
      rw [e27, su_f (by decide), e19, su_f (by decide), e11, su_k a]
end
end
