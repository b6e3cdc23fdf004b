/-! ===== terms, free: a row of numbers each ===== -/
noncomputable section
abbrev Wt : Type := List Nat
def w_mk (s : Nat) (l : List Wt) : Wt := s :: l.flatMap (fun w => w.length :: w)
theorem w_fl_inj : ∀ (l m : List Wt), l.flatMap (fun w => w.length :: w) = m.flatMap (fun w => w.length :: w) → l = m
  | [], [], _ => rfl
  | [], _ :: _, h => by simp at h
  | _ :: _, [], h => by simp at h
  | a :: l, b :: m, h => by
    simp only [List.flatMap_cons, List.cons_append, List.cons.injEq] at h
    obtain ⟨h1, h2⟩ := h
    obtain ⟨h3, h4⟩ := List.append_inj h2 h1
    rw [h3, w_fl_inj l m h4]
theorem w_mk_inj {s t : Nat} {l m : List Wt} (h : w_mk s l = w_mk t m) : s = t ∧ l = m := by
  unfold w_mk at h
  simp only [List.cons.injEq] at h
  exact ⟨h.1, w_fl_inj l m h.2⟩
/-- a sign, by what its terms are -/
def w_sg (d : Nat → Wt) (s : Int) : Wt := if s < 256 then [1000, s.toNat] else d (s - 256).toNat
def w_dz (d : Nat → Wt) (x : Int) : Wt := if x = 0 then [] else d x.toNat
/-- a term, by its sort, its parts and its signs -/
def w_tm (d : Nat → Wt) (s a b c : Int) (l : List Int) : Wt := w_mk s.toNat (w_dz d a :: (if s = 3 then [b.toNat] else w_dz d b) :: w_dz d c :: l.map (w_sg d))
def w_nm (i : Nat) : Wt := w_mk 8 [[i]]
/-! ===== the reference: terms ===== -/
def m_vs (n : Int) (s : Int) : Prop := 0 ≤ s ∧ (s < 256 ∨ 256 < s ∧ s ≤ 256 + n)
def m_va (I : sr_V) (n s a b c : Int) : Prop := 0 ≤ s ∧ s ≤ 8 ∧ 0 ≤ a ∧ a ≤ n ∧ 0 ≤ c ∧ c ≤ n ∧ 0 ≤ b ∧ (s = 3 → b ≤ 9) ∧ (s ≠ 3 → b ≤ n) ∧ (s = 0 ∨ s = 1 ∨ s = 8 → a = 0 ∧ b = 0 ∧ c = 0) ∧ (s = 2 ∨ s = 5 ∨ s = 7 → 1 ≤ a ∧ b = 0 ∧ c = 0) ∧ (s = 3 → 1 ≤ a ∧ c = 0) ∧ (s = 4 → 1 ≤ a ∧ 1 ≤ b ∧ c = 0) ∧ (s = 6 → 1 ≤ a ∧ I 6 a.toNat = 5 ∧ 1 ≤ b)
/-- the signs of a term -/
def m_sn (I : sr_V) (t : Nat) : List Int := m_sl (I 17) (I 10 t).toNat (I 11 t).toNat
/-- a term's row in the table -/
def m_rw (I : sr_V) (d : Nat → Wt) (nn : Nat) (t : Nat) : Prop := m_va I (t - 1) (I 6 t) (I 7 t) (I 8 t) (I 9 t) ∧ 0 ≤ I 10 t ∧ 0 ≤ I 11 t ∧ I 10 t + I 11 t ≤ I 1000 5 ∧ (∀ x ∈ m_sn I t, m_vs (t - 1) x) ∧ (I 6 t ≠ 8 → d t = w_tm d (I 6 t) (I 7 t) (I 8 t) (I 9 t) (m_sn I t)) ∧ (I 6 t = 8 → ∃ i, (i < nn ∧ I 11 t = 0) ∧ d t = w_nm i)
/-- the chain of a bucket -/
def m_lk (I : sr_V) : Int → List Nat → Prop
  | x, [] => x = -1
  | x, t :: r => x = t ∧ m_lk I (I 12 t) r
def m_h2 (h : Int) : Int := sw_and (sw_xor (sw_xor h (sw_ush h 12)) (sw_ush h 22)) 4095
def m_hf (l : List Int) (h : Int) : Int := l.foldl (fun h x => sw_w (sw_w (31 * h) + x)) h
def m_h (s a b c : Int) (l : List Int) : Int := m_h2 (m_hf l (sw_w (sw_w (31 * (sw_w (sw_w (31 * (sw_w (sw_w (31 * s) + a))) + b))) + c)))
def m_T (I : sr_V) (d : Nat → Wt) (nn : Nat) : Prop := 0 ≤ I 1000 4 ∧ I 1000 4 ≤ 44999 ∧ 0 ≤ I 1000 5 ∧ I 1000 5 ≤ 1400000 ∧ (∀ t : Nat, 1 ≤ t → (t : Int) ≤ I 1000 4 → m_rw I d nn t) ∧ (∀ t u : Nat, 1 ≤ t → (t : Int) ≤ I 1000 4 → 1 ≤ u → (u : Int) ≤ I 1000 4 → d t = d u → t = u) ∧ ∃ ch : Nat → List Nat, (∀ b, m_lk I (I 15 b) (ch b) ∨ 4096 ≤ b) ∧ (∀ b t, t ∈ ch b → 1 ≤ t ∧ (t : Int) ≤ I 1000 4) ∧ ∀ t : Nat, 1 ≤ t → (t : Int) ≤ I 1000 4 → I 6 t ≠ 8 → t ∈ ch (m_h (I 6 t) (I 7 t) (I 8 t) (I 9 t) (m_sn I t)).toNat
/-- what making terms leaves as it was -/
def m_e1 (I J : sr_V) : Prop := (∀ g, g ≠ 55 → (g < 6 ∨ 12 < g) → g ≠ 15 → g ≠ 17 → g ≠ 1000 → J g = I g) ∧ (∀ f, f ≠ 56 → f ≠ 4 → f ≠ 5 → f ≠ 19 → J 1000 f = I 1000 f) ∧ I 1000 4 ≤ J 1000 4 ∧ I 1000 5 ≤ J 1000 5 ∧ (∀ t : Nat, (t : Int) ≤ I 1000 4 → J 6 t = I 6 t ∧ J 7 t = I 7 t ∧ J 8 t = I 8 t ∧ J 9 t = I 9 t ∧ J 10 t = I 10 t ∧ J 11 t = I 11 t) ∧ (∀ k : Nat, (k : Int) < I 1000 5 → J 17 k = I 17 k) ∧ (J 1000 4 = I 1000 4 → J 1000 19 = I 1000 19) ∧ (I 1000 4 < J 1000 4 → J 1000 19 = 0)
theorem m_e1_refl (I : sr_V) : m_e1 I I := ⟨fun _ _ _ _ _ _ => rfl, fun _ _ _ _ _ => rfl, Int.le_refl _, Int.le_refl _, fun _ _ => ⟨rfl, rfl, rfl, rfl, rfl, rfl⟩, fun _ _ => rfl, fun _ => rfl, fun h => by omega⟩
theorem m_e1_trans {I J K : sr_V} (a : m_e1 I J) (b : m_e1 J K) : m_e1 I K := by
  obtain ⟨a1, a2, a3, a4, a5, a6, a7, a8⟩ := a
  obtain ⟨b1, b2, b3, b4, b5, b6, b7, b8⟩ := b
  refine ⟨fun g h1 h2 h3 h4 h5 => (b1 g h1 h2 h3 h4 h5).trans (a1 g h1 h2 h3 h4 h5), fun f h1 h2 h3 h4 => (b2 f h1 h2 h3 h4).trans (a2 f h1 h2 h3 h4), by omega, by omega, fun t ht => ?_, fun k hk => (b6 k (by omega)).trans (a6 k hk), fun h => ?_, fun h => ?_⟩
  · obtain ⟨c1, c2, c3, c4, c5, c6⟩ := a5 t ht
    obtain ⟨d1, d2, d3, d4, d5, d6⟩ := b5 t (by omega)
    exact ⟨d1.trans c1, d2.trans c2, d3.trans c3, d4.trans c4, d5.trans c5, d6.trans c6⟩
  · rw [b7 (by omega), a7 (by omega)]
  · by_cases c : J 1000 4 = K 1000 4
    · rw [b7 c.symm, a8 (by omega)]
    · exact b8 (by omega)
theorem m_e0_e1 {I J : sr_V} (h : m_e0 I J) : m_e1 I J := by
  obtain ⟨h1, h2⟩ := h
  have e4 := h2 4 (by decide)
  have e5 := h2 5 (by decide)
  refine ⟨fun g a _ _ _ b => h1 g a b, fun f a _ _ _ => h2 f a, by omega, by omega, fun t _ => ?_, fun k _ => by rw [h1 17 (by decide) (by decide)], fun _ => h2 19 (by decide), fun h => by omega⟩
  rw [h1 6 (by decide) (by decide), h1 7 (by decide) (by decide), h1 8 (by decide) (by decide), h1 9 (by decide) (by decide), h1 10 (by decide) (by decide), h1 11 (by decide) (by decide)]
  exact ⟨rfl, rfl, rfl, rfl, rfl, rfl⟩
theorem m_lk_e {I J : sr_V} (h : J 12 = I 12) : ∀ (l : List Nat) (x : Int), m_lk I x l → m_lk J x l
  | [], _, e => e
  | t :: r, x, e => ⟨e.1, by rw [h]; exact m_lk_e h r _ e.2⟩
theorem m_T_e0 {I J : sr_V} {d : Nat → Wt} {nn : Nat} (h : m_e0 I J) (T : m_T I d nn) : m_T J d nn := by
  obtain ⟨h1, h2⟩ := h
  have e4 := h2 4 (by decide)
  have e5 := h2 5 (by decide)
  have e6 := h1 6 (by decide) (by decide)
  have e7 := h1 7 (by decide) (by decide)
  have e8 := h1 8 (by decide) (by decide)
  have e9 := h1 9 (by decide) (by decide)
  have e10 := h1 10 (by decide) (by decide)
  have e11 := h1 11 (by decide) (by decide)
  have e12 := h1 12 (by decide) (by decide)
  have e15 := h1 15 (by decide) (by decide)
  have e17 := h1 17 (by decide) (by decide)
  obtain ⟨t1, t2, t3, t4, t5, t6, ch, c1, c2, c3⟩ := T
  refine ⟨by rw [e4]; exact t1, by rw [e4]; exact t2, by rw [e5]; exact t3, by rw [e5]; exact t4, ?_, ?_, ch, ?_, ?_, ?_⟩
  · rw [e4]
    intro t a b
    have := t5 t a b
    unfold m_rw m_va m_sn at this ⊢
    rw [e5, e6, e7, e8, e9, e10, e11, e17]
    exact this
  · rw [e4]; exact t6
  · intro b
    rcases c1 b with h | h
    · exact Or.inl (by rw [e15]; exact m_lk_e e12 _ _ h)
    · exact Or.inr h
  · rw [e4]; exact c2
  · rw [e4]
    intro t a b c
    have := c3 t a b (by rw [← e6]; exact c)
    unfold m_sn at this ⊢
    rw [e6, e7, e8, e9, e10, e11, e17]
    exact this
/-! chain -/
theorem m_row_len (I : sr_V) : (m_row I).length = (I 1000 56).toNat := by unfold m_row; simp
theorem m_row_at {I : sr_V} {k : Nat} (h : (k : Int) < I 1000 56) : (m_row I)[k]? = some (I 55 k) := by
  unfold m_row
  rw [List.getElem?_map, List.getElem?_range (by omega)]
  rfl
theorem m_drop {I : sr_V} {x : Int} (h0 : 0 ≤ x) (h : x < I 1000 56) : (m_row I).drop x.toNat = I 55 x.toNat :: (m_row I).drop (x + 1).toNat := by
  have hl : x.toNat < (m_row I).length := by rw [m_row_len]; omega
  rw [List.drop_eq_getElem_cons hl, show (x + 1).toNat = x.toNat + 1 by omega]
  congr 1
  have := m_row_at (I := I) (k := x.toNat) (by omega)
  rw [List.getElem?_eq_getElem hl] at this
  exact Option.some.inj this
theorem m_drop_end {I : sr_V} {x : Int} (h : I 1000 56 ≤ x) : (m_row I).drop x.toNat = [] := List.drop_eq_nil_of_le (by rw [m_row_len]; omega)
theorem m_chain_l {Q : Int → sr_V → Prop} {I : sr_V} (hr : I 1000 56 ≤ 6000) : ∀ (n : Nat) {x5 x6 : Int}, 0 ≤ x6 → (I 1000 56 - x6).toNat < n → Q (m_h2 (m_hf ((m_row I).drop x6.toNat) x5)) I → rl_148_16 Q n x5 x6 I
  | 0, _, _, _, h, _ => by omega
  | n + 1, x5, x6, h0, hn, q => by
    unfold rl_148_16
    intro v1 e1 _
    subst e1
    refine ⟨fun c => ?_, fun c => ?_⟩
    · rw [m_drop_end c] at q
      exact q
    · refine ⟨h0, by omega, ?_⟩
      intro v4 e4 _ y7 e7 y11 e11
      rw [sw_w_s (by omega) (by omega)] at e11
      subst e4 e7 e11
      refine m_chain_l hr n (by omega) (by omega) ?_
      rw [m_drop h0 c] at q
      exact q
theorem m_chain {s a b c : Int} {Q : Int → sr_V → Prop} {I : sr_V} (hr : I 1000 56 ≤ 6000) (q : Q (m_h s a b c (m_row I)) I) : rm_148 s a b c I Q := by
  unfold rm_148
  intro y e
  subst e
  exact ⟨_, m_chain_l hr ((I 1000 56).toNat + 1) (by omega) (by omega) (by unfold m_h at q; simpa using q)⟩
theorem sw_and_4095 (x : Int) : 0 ≤ sw_and x 4095 ∧ sw_and x 4095 < 4096 := by
  unfold sw_and
  have h1 : (Int32.ofInt x &&& Int32.ofInt 4095).toBitVec = (Int32.ofInt x).toBitVec &&& 4095#32 := by rfl
  have h2 : (Int32.ofInt x &&& Int32.ofInt 4095).toInt = ((Int32.ofInt x).toBitVec &&& 4095#32).toInt := by rw [← h1]; rfl
  rw [h2]
  have h3 : ((Int32.ofInt x).toBitVec &&& 4095#32).toNat ≤ 4095 := by
    rw [BitVec.toNat_and]
    exact Nat.and_le_right
  rw [BitVec.toInt_eq_toNat_cond]
  split <;> omega
theorem m_h_b (s a b c : Int) (l : List Int) : 0 ≤ m_h s a b c l ∧ m_h s a b c l < 4096 := sw_and_4095 _
/-! isRow -/
theorem m_isRow_l {Q : Int → sr_V → Prop} {I : sr_V} {x1 : Int} (h1 : 0 ≤ x1) (h2 : x1 < 45000) (hr : I 1000 56 ≤ 6000) (f0 : 0 ≤ I 10 x1.toNat) (f1 : I 10 x1.toNat + I 1000 56 ≤ 1400000) : ∀ (n : Nat) {x2 : Int}, 0 ≤ x2 → (I 1000 56 - x2).toNat < n → (x2 ≤ I 1000 56) → (m_sl (I 17) ((I 10 x1.toNat).toNat + x2.toNat) (I 1000 56 - x2).toNat = (m_row I).drop x2.toNat → Q 1 I) → (m_sl (I 17) ((I 10 x1.toNat).toNat + x2.toNat) (I 1000 56 - x2).toNat ≠ (m_row I).drop x2.toNat → Q 0 I) → rl_149_11 Q n x1 x2 I
  | 0, _, _, h, _, _, _ => by omega
  | n + 1, x2, h0, hn, hle, q1, q0 => by
    unfold rl_149_11
    intro v1 e1 _
    subst e1
    refine ⟨fun c => ?_, fun c => ?_⟩
    · apply q1
      rw [m_drop_end c, show (I 1000 56 - x2).toNat = 0 by omega]
      rfl
    · refine ⟨h1, h2, ?_⟩
      intro v4 e4 _
      subst e4
      rw [sw_w_s (by omega) (by omega)]
      refine ⟨by omega, by omega, ?_⟩
      intro v7 e7 _
      refine ⟨h0, by omega, ?_⟩
      intro v10 e10 _
      have hd := m_drop h0 c
      have hs : m_sl (I 17) ((I 10 x1.toNat).toNat + x2.toNat) (I 1000 56 - x2).toNat = I 17 ((I 10 x1.toNat).toNat + x2.toNat) :: m_sl (I 17) ((I 10 x1.toNat).toNat + (x2 + 1).toNat) (I 1000 56 - (x2 + 1)).toNat := by
        rw [show (I 1000 56 - x2).toNat = (I 1000 56 - (x2 + 1)).toNat + 1 by omega, m_sl_succ, show (I 10 x1.toNat).toNat + x2.toNat + 1 = (I 10 x1.toNat).toNat + (x2 + 1).toNat by omega]
      rw [hd, hs] at q1 q0
      rw [show (I 10 x1.toNat + x2).toNat = (I 10 x1.toNat).toNat + x2.toNat by omega] at e7
      refine ⟨fun e => ?_, fun e => ?_⟩
      · intro y13 e13
        rw [sw_w_s (by omega) (by omega)] at e13
        subst e13
        refine m_isRow_l h1 h2 hr f0 f1 n (by omega) (by omega) (by omega) (fun z => q1 ?_) (fun z => q0 ?_)
        · rw [z, ← e7, ← e10, e]
        · intro w
          exact z (List.cons.inj w).2
      · refine q0 (fun w => e ?_)
        rw [e7, e10]
        exact (List.cons.inj w).1
theorem m_isRow {Q : Int → sr_V → Prop} {I : sr_V} {x1 : Int} (h1 : 0 ≤ x1) (h2 : x1 < 45000) (hr0 : 0 ≤ I 1000 56) (hr : I 1000 56 ≤ 6000) (f0 : 0 ≤ I 10 x1.toNat) (g0 : 0 ≤ I 11 x1.toNat) (f1 : I 10 x1.toNat + I 11 x1.toNat ≤ 1400000) (q1 : m_sn I x1.toNat = m_row I → Q 1 I) (q0 : m_sn I x1.toNat ≠ m_row I → Q 0 I) : rm_149 x1 I Q := by
  unfold rm_149
  refine ⟨h1, h2, ?_⟩
  intro v19 e19 _ v22 e22 _
  subst e19 e22
  refine ⟨fun e => ?_, fun e => ?_⟩
  · have hs : m_sn I x1.toNat = m_sl (I 17) ((I 10 x1.toNat).toNat + (0 : Int).toNat) (I 1000 56 - 0).toNat := by
      unfold m_sn
      rw [e, Int.sub_zero]
      rfl
    refine ⟨_, m_isRow_l h1 h2 hr f0 (by omega) ((I 1000 56).toNat + 1) (x2 := 0) (by omega) (by omega) (by omega) (fun z => q1 ?_) (fun z => q0 ?_)⟩
    · rw [hs, z]; rfl
    · rw [hs]; exact z
  · apply q0
    intro w
    have := congrArg List.length w
    rw [m_row_len] at this
    unfold m_sn m_sl at this
    simp at this
    omega
end
