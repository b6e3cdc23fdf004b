/-! ===== the reference: compromise ===== -/
noncomputable section
/-- K with all of S -/
def w_un (K S : Wt → Prop) : Wt → Prop := w_cl (fun v => K v ∨ S v)
theorem w_un_lz (K S : Wt → Prop) (w : Wt) : w_lz (w_un K S) w = w_un K (fun v => S v ∨ (v = w ∧ w ≠ [])) := by
  unfold w_lz
  by_cases c : w = []
  · rw [if_pos c]
    have : (fun v => S v ∨ (v = w ∧ w ≠ [])) = S := funext fun v => propext ⟨fun h => h.elim id (fun h => absurd c h.2), Or.inl⟩
    rw [this]
  · rw [if_neg c]
    funext v
    refine propext ⟨fun h K' hK hB => h K' hK (fun u hu => ?_), fun h K' hK hB => h K' hK (fun u hu => ?_)⟩
    · rcases hu with hu | hu
      · exact hu K' hK (fun z hz => hB z (hz.elim Or.inl (fun z => Or.inr (Or.inl z))))
      · exact hB u (Or.inr (Or.inr ⟨hu, c⟩))
    · rcases hu with hu | hu | ⟨hu, _⟩
      · exact hB u (Or.inl (fun K2 h2 b2 => b2 u (Or.inl hu)))
      · exact hB u (Or.inl (fun K2 h2 b2 => b2 u (Or.inr hu)))
      · exact hB u (Or.inr hu)
theorem w_un_0 {K : Wt → Prop} (h : w_clo K) : w_un K (fun _ => False) = K := by
  funext v
  exact propext ⟨fun g => g K h (fun u hu => hu.elim id False.elim), fun g K' _ hB => hB v (Or.inl g)⟩
theorem w_un_cg {K S S' : Wt → Prop} (h : ∀ v, S v ↔ S' v) : w_un K S = w_un K S' := by
  rw [show S = S' from funext fun v => propext (h v)]
/-- the secrets of a group that are had -/
def w_gs (G : w_G) (v : Wt) : Prop := v = gg_es G ∨ ∃ x, x < t_w (gg_T G) ∧ v = gg_hd G x ∧ v ≠ []
/-- what is learned of a member -/
def w_cs (m : Nat) (L : List (Nat × Wt × Wt)) (inn : Prop) (G : w_G) (U : List (Wt × Wt)) (pd : Prop) (PG : w_G) (v : Wt) : Prop := v = w_nm m ∨ (∃ e ∈ L, v = e.2.1 ∨ v = e.2.2) ∨ (inn ∧ (w_gs G v ∨ (∃ e ∈ U, v = e.2) ∨ (pd ∧ w_gs PG v)))
section
variable {I J : sr_V} {nn us : Nat} {K K' S : Wt → Prop} {tl mk mm l : List Wt} {a b c x : Int} {Q : Int → sr_V → Prop} {R : sr_V → Prop} {s : Nat} {G PG : w_G} {P : Nat → Nat → Prop} {w : Wt}
theorem r_learnL (hL : m_L I mk nn (w_un K S) tl) (hm : mk.length ≤ 44999) (hw : w_az mk x w) (k : ∀ J, m_L J mk nn (w_un K (fun v => S v ∨ (v = w ∧ w ≠ []))) tl → m_fr [16] [19] I J → R J) : rm_56 x I R := by
  have hL' := hL
  obtain ⟨h1, h2, h3, h4, h5⟩ := hL
  have xb := w_az_le hw
  refine m_learn (by omega) h2 xb.1 (by omega) (fun J KJ f => ?_)
  have ew : w_lrn (w_d mk) (w_un K S) x = w_un K (fun v => S v ∨ (v = w ∧ w ≠ [])) := by
    rw [← w_un_lz]
    unfold w_lrn w_lz
    rcases hw with ⟨e0, ew⟩ | hw
    · rw [if_pos e0, if_pos ew]
    · have := w_at_le hw
      rw [if_neg (by omega), if_neg (w_at_ne hL' hw), w_at_d hw]
  rw [ew] at KJ
  exact k J (m_L_K hL' KJ f (fun g hg => by simp at hg; omega) (by simp) (by simp) (by simp)) f
theorem m_k_gp (f : m_fr [16] [19] I J) : m_gp (fun f k => f = 16 ∨ (f = 1000 ∧ k = 19)) I J := m_gp_sub (m_fr_gp f) (fun f k p => by simp at p; omega)
theorem r_learnState (hs : s < 49) (hL : m_L I mk nn (w_un K S) tl) (hm : mk.length ≤ 44999) (hst : m_st I mk s G) (k : ∀ J, m_L J mk nn (w_un K (fun v => S v ∨ w_gs G v)) tl → m_fr [16] [19] I J → R J) : rm_117 s I R := by
  have hst' := hst
  obtain ⟨h1, h2, h3, h4, h5, h6, h7, h8, h9⟩ := hst
  have w31 := t_w31 h4.1.1
  have lp : ∀ (n i : Nat) {Z : sr_V}, i ≤ t_w (gg_T G) → t_w (gg_T G) - i < n → m_L Z mk nn (w_un K (fun v => S v ∨ v = gg_es G ∨ ∃ x, x < i ∧ v = gg_hd G x ∧ v ≠ [])) tl → m_fr [16] [19] I Z → rl_117_8 R n s i Z := by
    intro n
    induction n with
    | zero => intro i Z a1 a2; omega
    | succ n ih =>
      intro i Z a1 a2 LZ fZ
      unfold rl_117_8
      refine r_width hs (by rw [fZ.1 31 (by decide) (by decide)]; exact h4.2.1) h4.1.1 (fun _ => ?_)
      have et : 2 ^ (t_dp (gg_T G) + 1) - 1 = t_w (gg_T G) := rfl
      rw [et]
      refine ⟨fun c => ?_, fun c => ?_⟩
      · have ei : i = t_w (gg_T G) := by omega
        rw [ei] at LZ
        exact k Z LZ fZ
      · have hi : i < t_w (gg_T G) := by omega
        unfold rm_67
        rw [r_sp hs (show i < 31 by omega)]
        intro _
        refine ⟨by omega, by omega, ?_⟩
        intro v15 e15 _
        rw [Int.toNat_natCast, fZ.1 44 (by decide) (by decide)] at e15
        subst e15
        refine r_learnL LZ hm (h8 i hi) (fun Y LY fY => ?_)
        intro y25 e25
        rw [sw_w_s (by omega) (by omega)] at e25
        rw [e25, show (i : Int) + 1 = ((i + 1 : Nat) : Int) by omega]
        refine ih (i + 1) (by omega) (by omega) ?_ (m_fr_trans fZ fY)
        rw [w_un_cg (S' := fun v => (S v ∨ v = gg_es G ∨ ∃ x, x < i ∧ v = gg_hd G x ∧ v ≠ []) ∨ (v = gg_hd G i ∧ gg_hd G i ≠ []))]
        · exact LY
        · intro v
          constructor
          · rintro (h | h | ⟨x, hx, h, hn⟩)
            · exact Or.inl (Or.inl h)
            · exact Or.inl (Or.inr (Or.inl h))
            · by_cases cx : x = i
              · subst cx; exact Or.inr ⟨h, by rw [← h]; exact hn⟩
              · exact Or.inl (Or.inr (Or.inr ⟨x, by omega, h, hn⟩))
          · rintro ((h | h | ⟨x, hx, h, hn⟩) | ⟨h, hn⟩)
            · exact Or.inl h
            · exact Or.inr (Or.inl h)
            · exact Or.inr (Or.inr ⟨x, by omega, h, hn⟩)
            · exact Or.inr (Or.inr ⟨i, by omega, h, by rw [h]; exact hn⟩)
  unfold rm_117
  refine ⟨by omega, by omega, ?_⟩
  intro v30 e30 _
  rw [Int.toNat_natCast] at e30
  subst e30
  refine r_learnL hL hm (Or.inr h7) (fun J1 L1 f1 => ⟨_, lp (t_w (gg_T G) + 1) 0 (by omega) (by omega) ?_ f1⟩)
  rw [w_un_cg (S' := fun v => S v ∨ (v = gg_es G ∧ gg_es G ≠ []))]
  · exact L1
  · intro v
    have ne := w_at_ne hL h7
    constructor
    · rintro (h | h | ⟨x, hx, _⟩)
      · exact Or.inl h
      · exact Or.inr ⟨h, ne⟩
      · omega
    · rintro (h | ⟨h, _⟩)
      · exact Or.inl h
      · exact Or.inr (Or.inl h)
/-- a member's own UPDATEs: their hashes and secrets -/
def m_up (I : sr_V) (mk : List Wt) (m : Nat) (U : List (Wt × Wt)) : Prop := I 47 m = U.length ∧ U.length ≤ 40 ∧ ∀ (i : Nat) (h v : Wt), U[i]? = some (h, v) → w_at mk (I 53 (40 * m + i)) h ∧ w_at mk (I 54 (40 * m + i)) v
theorem r_compromise {Lk : Nat → List (Nat × Wt × Wt)} {Ga PGa : Nat → w_G} {Ua : Nat → List (Wt × Wt)} (hL : m_L I mk nn K tl) (hK : w_clo K) (hm : mk.length ≤ 44999) (hb : tl.length < 44999) (hM : m_me I mk) (hpk : ∀ m : Nat, m < 24 → m_pk I mk m (Lk m)) (h01 : ∀ m : Nat, m < 24 → (I 27 m = 0 ∨ I 27 m = 1) ∧ (I 28 m = 0 ∨ I 28 m = 1)) (hst : ∀ m : Nat, m < 24 → I 27 m = 1 → m_st I mk m (Ga m) ∧ m_up I mk m (Ua m) ∧ (I 28 m = 1 → m_st I mk (24 + m) (PGa m))) (q1 : ¬ (0 ≤ x ∧ x < 24) → Q 0 (su I 1000 0 1)) (q : ∀ (m : Nat) J, x = m → m < 24 → m_L J mk nn (w_un K (w_cs m (Lk m) (I 27 m = 1) (Ga m) (Ua m) (I 28 m = 1) (PGa m))) tl → J 1000 0 = 0 → m_fr [16] [0, 19] I J → Q (w_cnt (w_un K (w_cs m (Lk m) (I 27 m = 1) (Ga m) (Ua m) (I 28 m = 1) (PGa m))) tl) J) : rm_27 x I Q := by
  have bad : ¬ (0 ≤ x ∧ x < 24) → rb_27_9 Q x 1 I := by
    intro hx
    unfold rb_27_9
    intro I1 e1 v ev _
    have ev : v = 1 := by rw [ev, e1, su_eq]
    refine ⟨fun c => by omega, fun _ => ?_⟩
    rw [e1]
    exact q1 hx
  unfold rm_27
  refine ⟨fun c => bad (by omega), fun c => ⟨fun c1 => ?_, fun c1 => bad (by omega)⟩⟩
  obtain ⟨m, em⟩ : ∃ m : Nat, x = m := ⟨x.toNat, by omega⟩
  subst em
  have hm24 : m < 24 := by omega
  have q := fun J => q m J rfl hm24
  have pm := hpk m hm24
  have st := hst m hm24
  have o1 := h01 m hm24
  generalize Lk m = L at *
  generalize Ga m = G at *
  generalize PGa m = PG at *
  generalize Ua m = U at *
  clear hpk hst h01 bad q1
  unfold rb_27_9
  intro I1 e1
  have g1 := m_gp_su I 1000 0 0
  rw [← e1] at g1
  have L1 := m_L_gp hL g1 (fun f k p => by omega)
  have k1 : ∀ f, f ≠ 1000 → I1 f = I f := fun f hf => by rw [e1, su_f hf]
  intro v ev _
  have ev : v = 0 := by rw [ev, e1, su_eq]
  refine ⟨fun _ => ⟨by omega, by omega, ?_⟩, fun c => by omega⟩
  intro v87 e87 _
  rw [Int.toNat_natCast, k1 20 (by decide)] at e87
  subst e87
  rw [← w_un_0 hK] at L1
  -- the end
  have fin : ∀ Z, m_L Z mk nn (w_un K (w_cs m L (I 27 m = 1) G U (I 28 m = 1) PG)) tl → m_fr [16] [19] I1 Z → rb_27_89 Q Z := by
    intro Z LZ fZ
    unfold rb_27_89
    refine m_knownTold LZ.1 LZ.2.1 hb LZ.2.2.1 (fun Y KY _ fY _ => ?_)
    have LY := m_L_K LZ KY fY (fun g hg => by simp at hg; omega) (by simp) (by simp) (by simp)
    have f0 := m_fr_trans fZ fY
    refine q Y LY (by rw [f0.2 0 (by decide), e1, su_eq]) ⟨fun g h1 h2 => by rw [f0.1 g (by simpa using h1) h2, k1 g h2], fun f hf => ?_⟩
    simp at hf
    rw [f0.2 f (by simp; omega), g1 1000 f (by omega)]
  have val : ∀ {Z}, m_fr [16] [19] I1 Z → ∀ f, f ≠ 16 → f ≠ 1000 → Z f = I f := fun {Z} fZ f h1 h2 => by rw [fZ.1 f (by simpa using h1) h2, k1 f h2]
  have stZ : ∀ {Z s G}, m_fr [16] [19] I1 Z → m_st I mk s G → m_st Z mk s G := fun {Z s G} fZ h => m_st_eq h (fun f h1 h2 => by rw [val fZ f (by omega) (by omega)]) (fun f x h1 h2 h3 => by rw [val fZ f (by omega) (by omega)])
  -- UPDATEs, what is pending
  have lu : I 27 m = 1 → ∀ (n i : Nat) {Z : sr_V}, i ≤ U.length → U.length - i < n → m_L Z mk nn (w_un K (fun v => v = w_nm m ∨ (∃ e ∈ L, v = e.2.1 ∨ v = e.2.2) ∨ w_gs G v ∨ (∃ e ∈ U.take i, v = e.2))) tl → m_fr [16] [19] I1 Z → rl_27_61 Q n m i Z := by
    intro in1
    obtain ⟨s1, s2, s3⟩ := st in1
    intro n
    induction n with
    | zero => intro i Z a1 a2; omega
    | succ n ih =>
      intro i Z a1 a2 LZ fZ
      have u47 := s2.1
      have u40 := s2.2.1
      unfold rl_27_61
      refine ⟨by omega, by omega, ?_⟩
      intro v8 e8 _
      rw [Int.toNat_natCast, val fZ 47 (by decide) (by decide), u47] at e8
      refine ⟨fun c => ⟨by omega, by omega, ?_⟩, fun c => ?_⟩
      · have ei : i = U.length := by omega
        rw [ei, List.take_length] at LZ
        intro v11 e11 _
        rw [Int.toNat_natCast, val fZ 28 (by decide) (by decide)] at e11
        refine ⟨fun c0 => fin Z ?_ fZ, fun c0 => ?_⟩
        · rw [w_un_cg (S' := fun v => v = w_nm m ∨ (∃ e ∈ L, v = e.2.1 ∨ v = e.2.2) ∨ w_gs G v ∨ (∃ e ∈ U, v = e.2))]
          · exact LZ
          · intro v
            have np : ¬ I 28 m = 1 := by omega
            unfold w_cs
            constructor
            · rintro (h | h | ⟨_, h | h | ⟨h, _⟩⟩)
              · exact Or.inl h
              · exact Or.inr (Or.inl h)
              · exact Or.inr (Or.inr (Or.inl h))
              · exact Or.inr (Or.inr (Or.inr h))
              · exact absurd h np
            · rintro (h | h | h | h)
              · exact Or.inl h
              · exact Or.inr (Or.inl h)
              · exact Or.inr (Or.inr ⟨in1, Or.inl h⟩)
              · exact Or.inr (Or.inr ⟨in1, Or.inr (Or.inl h)⟩)
        · have pd : I 28 m = 1 := by omega
          rw [sw_w_s (by omega) (by omega), show (24 : Int) + m = ((24 + m : Nat) : Int) by omega]
          refine r_learnState (by omega) LZ hm (stZ fZ (s3 pd)) (fun Y LY fY => fin Y ?_ (m_fr_trans fZ fY))
          rw [w_un_cg (S' := fun v => (v = w_nm m ∨ (∃ e ∈ L, v = e.2.1 ∨ v = e.2.2) ∨ w_gs G v ∨ (∃ e ∈ U, v = e.2)) ∨ w_gs PG v)]
          · exact LY
          · intro v
            unfold w_cs
            constructor
            · rintro (h | h | ⟨_, h | h | ⟨_, h⟩⟩)
              · exact Or.inl (Or.inl h)
              · exact Or.inl (Or.inr (Or.inl h))
              · exact Or.inl (Or.inr (Or.inr (Or.inl h)))
              · exact Or.inl (Or.inr (Or.inr (Or.inr h)))
              · exact Or.inr h
            · rintro ((h | h | h | h) | h)
              · exact Or.inl h
              · exact Or.inr (Or.inl h)
              · exact Or.inr (Or.inr ⟨in1, Or.inl h⟩)
              · exact Or.inr (Or.inr ⟨in1, Or.inr (Or.inl h)⟩)
              · exact Or.inr (Or.inr ⟨in1, Or.inr (Or.inr ⟨pd, h⟩)⟩)
      · have hi : i < U.length := by omega
        have ey : sw_w ((sw_w (40 * (m : Int))) + (i : Int)) = ((40 * m + i : Nat) : Int) := by
          rw [sw_w_s (z := 40 * (m : Int)) (by omega) (by omega), sw_w_s (by omega) (by omega)]
          omega
        rw [ey]
        clear ey
        refine ⟨by omega, by omega, ?_⟩
        intro v22 e22 _
        rw [Int.toNat_natCast, val fZ 54 (by decide) (by decide)] at e22
        subst e22
        obtain ⟨⟨uh, uv⟩, eu⟩ : ∃ e, U[i]? = some e := ⟨U[i], List.getElem?_eq_getElem hi⟩
        have ua := (s2.2.2 i uh uv eu).2
        refine r_learnL LZ hm (Or.inr ua) (fun Y LY fY => ?_)
        intro y32 e32
        rw [sw_w_s (by omega) (by omega)] at e32
        rw [e32, show (i : Int) + 1 = ((i + 1 : Nat) : Int) by omega]
        refine ih (i + 1) (by omega) (by omega) ?_ (m_fr_trans fZ fY)
        rw [w_un_cg (S' := fun v => (v = w_nm m ∨ (∃ e ∈ L, v = e.2.1 ∨ v = e.2.2) ∨ w_gs G v ∨ (∃ e ∈ U.take i, v = e.2)) ∨ (v = uv ∧ uv ≠ []))]
        · exact LY
        · intro v
          have un := w_at_ne hL ua
          rw [List.take_add_one, eu]
          constructor
          · rintro (h | h | h | ⟨e, he, h⟩)
            · exact Or.inl (Or.inl h)
            · exact Or.inl (Or.inr (Or.inl h))
            · exact Or.inl (Or.inr (Or.inr (Or.inl h)))
            · rw [List.mem_append] at he
              rcases he with he | he
              · exact Or.inl (Or.inr (Or.inr (Or.inr ⟨e, he, h⟩)))
              · simp at he
                rw [he] at h
                exact Or.inr ⟨h, un⟩
          · rintro ((h | h | h | ⟨e, he, h⟩) | ⟨h, _⟩)
            · exact Or.inl h
            · exact Or.inr (Or.inl h)
            · exact Or.inr (Or.inr (Or.inl h))
            · exact Or.inr (Or.inr (Or.inr ⟨e, List.mem_append_left _ he, h⟩))
            · exact Or.inr (Or.inr (Or.inr ⟨(uh, uv), List.mem_append_right _ (by simp), h⟩))
  -- packages
  have lq : ∀ (n i : Nat) {Z : sr_V}, i ≤ L.length → L.length - i < n → m_L Z mk nn (w_un K (fun v => v = w_nm m ∨ (∃ e ∈ L.take i, v = e.2.1 ∨ v = e.2.2))) tl → m_fr [16] [19] I1 Z → rl_27_23 Q n m i Z := by
    intro n
    induction n with
    | zero => intro i Z a1 a2; omega
    | succ n ih =>
      intro i Z a1 a2 LZ fZ
      have p45 := pm.1
      have p8 := pm.2.1
      unfold rl_27_23
      refine ⟨by omega, by omega, ?_⟩
      intro v37 e37 _
      rw [Int.toNat_natCast, val fZ 45 (by decide) (by decide), p45] at e37
      refine ⟨fun c => ⟨by omega, by omega, ?_⟩, fun c => ?_⟩
      · have ei : i = L.length := by omega
        rw [ei, List.take_length] at LZ
        intro v40 e40 _
        rw [Int.toNat_natCast, val fZ 27 (by decide) (by decide)] at e40
        refine ⟨fun c0 => fin Z ?_ fZ, fun c0 => ?_⟩
        · rw [w_un_cg (S' := fun v => v = w_nm m ∨ (∃ e ∈ L, v = e.2.1 ∨ v = e.2.2))]
          · exact LZ
          · intro v
            have ni : ¬ I 27 m = 1 := by omega
            unfold w_cs
            constructor
            · rintro (h | h | ⟨h, _⟩)
              · exact Or.inl h
              · exact Or.inr h
              · exact absurd h ni
            · rintro (h | h)
              · exact Or.inl h
              · exact Or.inr (Or.inl h)
        · have in1 : I 27 m = 1 := by omega
          refine r_learnState (by omega) LZ hm (stZ fZ (st in1).1) (fun Y LY fY => ⟨U.length + 1, lu in1 (U.length + 1) 0 (by omega) (by omega) ?_ (m_fr_trans fZ fY)⟩)
          rw [w_un_cg (S' := fun v => (v = w_nm m ∨ (∃ e ∈ L, v = e.2.1 ∨ v = e.2.2)) ∨ w_gs G v)]
          · exact LY
          · intro v
            constructor
            · rintro (h | h | h | ⟨e, he, _⟩)
              · exact Or.inl (Or.inl h)
              · exact Or.inl (Or.inr h)
              · exact Or.inr h
              · simp at he
            · rintro ((h | h) | h)
              · exact Or.inl h
              · exact Or.inr (Or.inl h)
              · exact Or.inr (Or.inr (Or.inl h))
      · have hi : i < L.length := by omega
        have ey : sw_w ((sw_w (8 * (m : Int))) + (i : Int)) = ((8 * m + i : Nat) : Int) := by
          rw [sw_w_s (z := 8 * (m : Int)) (by omega) (by omega), sw_w_s (by omega) (by omega)]
          omega
        rw [ey]
        clear ey
        refine ⟨by omega, by omega, ?_⟩
        intro v54 e54 _
        rw [Int.toNat_natCast, val fZ 49 (by decide) (by decide)] at e54
        subst e54
        obtain ⟨⟨pk, pu, pv⟩, ep⟩ : ∃ e, L[i]? = some e := ⟨L[i], List.getElem?_eq_getElem hi⟩
        obtain ⟨_, ua, va⟩ := pm.2.2 i pk pu pv ep
        refine r_learnL LZ hm (Or.inr ua) (fun Y LY fY => ⟨by omega, by omega, ?_⟩)
        have fY' := m_fr_trans fZ fY
        intro v64 e64 _
        rw [Int.toNat_natCast, val fY' 50 (by decide) (by decide)] at e64
        subst e64
        refine r_learnL LY hm (Or.inr va) (fun X LX fX => ?_)
        intro y74 e74
        rw [sw_w_s (by omega) (by omega)] at e74
        rw [e74, show (i : Int) + 1 = ((i + 1 : Nat) : Int) by omega]
        refine ih (i + 1) (by omega) (by omega) ?_ (m_fr_trans fY' fX)
        rw [w_un_cg (S' := fun v => ((v = w_nm m ∨ (∃ e ∈ L.take i, v = e.2.1 ∨ v = e.2.2)) ∨ (v = pu ∧ pu ≠ [])) ∨ (v = pv ∧ pv ≠ []))]
        · exact LX
        · intro v
          have n1 := w_at_ne hL ua
          have n2 := w_at_ne hL va
          rw [List.take_add_one, ep]
          constructor
          · rintro (h | ⟨e, he, h⟩)
            · exact Or.inl (Or.inl (Or.inl h))
            · rw [List.mem_append] at he
              rcases he with he | he
              · exact Or.inl (Or.inl (Or.inr ⟨e, he, h⟩))
              · simp at he
                rw [he] at h
                rcases h with h | h
                · exact Or.inl (Or.inr ⟨h, n1⟩)
                · exact Or.inr ⟨h, n2⟩
          · rintro (((h | ⟨e, he, h⟩) | ⟨h, _⟩) | ⟨h, _⟩)
            · exact Or.inl h
            · exact Or.inr ⟨e, List.mem_append_left _ he, h⟩
            · exact Or.inr ⟨(pk, pu, pv), List.mem_append_right _ (by simp), Or.inl h⟩
            · exact Or.inr ⟨(pk, pu, pv), List.mem_append_right _ (by simp), Or.inr h⟩
  refine r_learnL L1 hm (Or.inr (hM m hm24).1) (fun Y LY fY => ⟨L.length + 1, lq (L.length + 1) 0 (by omega) (by omega) ?_ fY⟩)
  rw [w_un_cg (S' := fun v => False ∨ (v = w_nm m ∧ w_nm m ≠ []))]
  · exact LY
  · intro v
    have n1 := w_at_ne hL (hM m hm24).1
    constructor
    · rintro (h | ⟨e, he, _⟩)
      · exact Or.inr ⟨h, n1⟩
      · simp at he
    · rintro (h | ⟨h, _⟩)
      · exact h.elim
      · exact Or.inl h
end
end
