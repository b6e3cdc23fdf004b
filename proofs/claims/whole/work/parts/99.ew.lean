/-! ===== what the class asks of changes is what the reference asks: the end ===== -/
noncomputable section
variable {T T0 T' : w_T} {L P : List w_Ch} {c d : w_Ch} {k l m n : Nat} {com : Int} {R : Nat → Prop} {f : p_L} {kf : Nat → Wt}
theorem h_kb_ne : ∀ (P : List w_Ch), (∀ c ∈ P, c.1.1 = 2 → (h_lf c).2.1 ≠ [] ∧ (h_go c = (l : Int) → t_ky T (2 * l) ≠ [])) → (h_kb T P l ≠ [] ↔ t_ky T (2 * l) ≠ [])
  | [], _ => Iff.rfl
  | c :: P, h => by
    have ih := h_kb_ne P (fun d hd => h d (List.mem_cons_of_mem _ hd))
    show (if c.1.1 = 2 ∧ h_go c = (l : Int) then (h_lf c).2.1 else h_kb T P l) ≠ [] ↔ _
    by_cases c2 : c.1.1 = 2 ∧ h_go c = (l : Int)
    · rw [if_pos c2]
      have := h c (List.mem_cons_self ..) c2.1
      exact ⟨fun _ => this.2 c2.2, fun _ => this.1⟩
    · rw [if_neg c2]; exact ih
theorem h_0_is (h4 : t_dp T ≤ 4) (hown : ∀ c ∈ L, h_own T c) (hok : ∀ c ∈ L, p_cok c.1) (hdi : h_di L com L.length) : (t_is (h_0 T L) l ↔ t_is T l ∧ ¬ h_rm L (l : Int)) ∧ (¬ h_rm L (l : Int) → t_ky (h_0 T L) (2 * l) = h_kb T L l) := by
  have hg : ∀ c ∈ L, c.1.1 ≠ 1 → h_go c = ((h_go c).toNat : Int) ∧ (h_go c).toNat < 16 ∧ t_is T (h_go c).toNat := fun c hc h1 => by
    obtain ⟨g1, g2, g3⟩ := h_hl_16 h4 ((hown c hc).2.1 h1)
    exact ⟨g2, g1, g3⟩
  have pw : L.Pairwise (fun a b => a.1.1 = 2 → b.1.1 = 2 → h_go a ≠ h_go b) := by
    refine h_pw (q := fun c => c.1.1 = 2) (fun j c hj h2 d hd d2 => ?_)
    exact ((hdi j c (h_lt hj) hj).1 (by omega)).2 d hd (by omega)
  have eu : h_fd h_u1 T L L.length = L.foldl h_u1 T := by unfold h_fd; rw [List.take_length]
  have er : h_fd h_r1 (h_fd h_u1 T L L.length) L L.length = L.foldl h_r1 (L.foldl h_u1 T) := by unfold h_fd; rw [List.take_length]
  have du : t_dp (L.foldl h_u1 T) = t_dp T := by rw [← eu]; exact h_fu_dp
  have dr : t_dp (L.foldl h_r1 (L.foldl h_u1 T)) = t_dp T := by rw [← er, h_fr_dp, eu, du]
  have ku : t_ky (L.foldl h_u1 T) (2 * l) = h_kb T L l := h_u_ky L h4 (fun c hc h2 => by have := hg c hc (by omega); exact ⟨this.1, this.2.1⟩) pw
  have kr := h_r_ky (l := l) L (T := L.foldl h_u1 T) (by rw [du]; exact h4) (fun c hc h2 => by have := hg c hc (by omega); exact ⟨this.1, this.2.1⟩)
  have e0 : t_ky (h_0 T L) = t_ky (L.foldl h_r1 (L.foldl h_u1 T)) := by unfold h_0 t_sh; rw [t_shn_ky, er]
  have i0 : t_is (h_0 T L) l ↔ t_is (L.foldl h_r1 (L.foldl h_u1 T)) l := by unfold h_0 t_sh; rw [t_shn_is, er]
  have ne := h_kb_ne (T := T) (l := l) L (fun c hc h2 => ⟨((hok c hc).2.1 (by omega)).2.2.2.2.2, fun e => by
    have := (hg c hc (by omega)).2.2.2
    rw [e, Int.toNat_natCast] at this
    exact this⟩)
  refine ⟨?_, fun hr => by rw [e0, kr.2 hr, ku]⟩
  rw [i0]
  unfold t_is
  rw [dr]
  by_cases hr : h_rm L (l : Int)
  · rw [kr.1 hr]
    exact ⟨fun h => absurd rfl h.2, fun h => absurd hr h.2⟩
  · rw [kr.2 hr, ku, ne]
    exact ⟨fun h => ⟨h, hr⟩, fun h => h.1⟩
theorem h_st_mem {x : Nat} : ∀ m k, x ∈ h_st T R k m ↔ k ≤ x ∧ x < k + m ∧ (t_is T x ∧ ¬ R x)
  | 0, k => by
    show x ∈ [] ↔ _
    constructor
    · intro h; cases h
    · intro h; omega
  | m + 1, k => by
    have ih := h_st_mem (x := x) m (k + 1)
    by_cases c : t_is T k ∧ ¬ R k
    · rw [h_st_1 c, List.mem_cons, ih]
      constructor
      · rintro (h | ⟨h1, h2, h3⟩)
        · subst h; exact ⟨Nat.le_refl _, by omega, c⟩
        · exact ⟨by omega, by omega, h3⟩
      · rintro ⟨h1, h2, h3⟩
        by_cases e : x = k
        · exact Or.inl e
        · exact Or.inr ⟨by omega, by omega, h3⟩
    · rw [h_st_n c, ih]
      constructor
      · rintro ⟨h1, h2, h3⟩
        exact ⟨by omega, by omega, h3⟩
      · rintro ⟨h1, h2, h3⟩
        refine ⟨?_, by omega, h3⟩
        rcases Nat.eq_or_lt_of_le h1 with e | e
        · subst e; exact absurd h3 c
        · exact e
theorem h_st_nd : ∀ m k, ((h_st T R k m).map kf).Nodup ↔ ∀ a b, k ≤ b → b < a → a < k + m → (t_is T a ∧ ¬ R a) → (t_is T b ∧ ¬ R b) → kf a ≠ kf b
  | 0, k => ⟨fun _ a b h1 h2 h3 => by omega, fun _ => List.nodup_nil⟩
  | m + 1, k => by
    have ih := h_st_nd m (k + 1)
    by_cases c : t_is T k ∧ ¬ R k
    · rw [h_st_1 c, List.map_cons, List.nodup_cons, ih]
      constructor
      · rintro ⟨h1, h2⟩ a b g1 g2 g3 pa pb
        rcases Nat.eq_or_lt_of_le g1 with e | e
        · subst e
          intro ee
          exact h1 (List.mem_map.mpr ⟨a, (h_st_mem m _).mpr ⟨by omega, by omega, pa⟩, ee⟩)
        · exact h2 a b e g2 (by omega) pa pb
      · intro h
        refine ⟨fun hm => ?_, fun a b g1 g2 g3 pa pb => h a b (by omega) g2 (by omega) pa pb⟩
        obtain ⟨a, ha, ea⟩ := List.mem_map.mp hm
        obtain ⟨a1, a2, a3⟩ := (h_st_mem m _).mp ha
        exact h a k (Nat.le_refl _) (by omega) (by omega) a3 c ea
    · rw [h_st_n c, ih]
      constructor
      · intro h a b g1 g2 g3 pa pb
        rcases Nat.eq_or_lt_of_le g1 with e | e
        · subst e; exact absurd pb c
        · exact h a b e g2 (by omega) pa pb
      · intro h a b g1 g2 g3 pa pb
        exact h a b (by omega) g2 (by omega) pa pb
theorem h_st_cnt (hp : ∀ l, t_is T0 l ↔ (t_is T l ∧ ¬ R l)) : ∀ m k, (List.range' k m).countP (fun l => decide (t_is T0 l)) = (h_st T R k m).length
  | 0, _ => rfl
  | m + 1, k => by
    rw [List.range'_succ]
    by_cases c : t_is T k ∧ ¬ R k
    · have e : (fun l => decide (t_is T0 l)) k = true := decide_eq_true ((hp k).mpr c)
      rw [h_st_1 c, List.countP_cons_of_pos (p := fun l => decide (t_is T0 l)) (a := k) e, h_st_cnt hp m (k + 1), List.length_cons]
    · have e : ¬ (fun l => decide (t_is T0 l)) k = true := fun h => c ((hp k).mp (of_decide_eq_true h))
      rw [h_st_n c, List.countP_cons_of_neg (p := fun l => decide (t_is T0 l)) (a := k) e, h_st_cnt hp m (k + 1)]
theorem h_st_e0 : ∀ j k, (∀ l, k ≤ l → ¬ t_is T l) → h_st T R k j = []
  | 0, _, _ => rfl
  | j + 1, k, h => by
    rw [h_st_n (fun c => h k (Nat.le_refl _) c.1)]
    exact h_st_e0 j (k + 1) (fun l hl => h l (by omega))
theorem h_st_ext (j : Nat) : ∀ m k, (∀ l, k + m ≤ l → ¬ t_is T l) → h_st T R k (m + j) = h_st T R k m
  | 0, k, h => by rw [Nat.zero_add, h_st_e0 j k (by simpa using h)]; rfl
  | m + 1, k, h => by
    have ih := h_st_ext j m (k + 1) (fun l hl => h l (by omega))
    rw [show m + 1 + j = (m + j) + 1 by omega]
    by_cases c : t_is T k ∧ ¬ R k
    · rw [h_st_1 c, h_st_1 c, ih]
    · rw [h_st_n c, h_st_n c, ih]
theorem h_nl_st (h4 : t_dp T ≤ 4) (hp : ∀ l, t_is T0 l ↔ (t_is T l ∧ ¬ R l)) : t_nl T0 = (h_st T R 0 (2 ^ t_dp T)).length := by
  have d16 := t_d_16 h4
  unfold t_nl
  rw [List.range_eq_range', h_st_cnt hp]
  have := h_st_ext (T := T) (R := R) (16 - 2 ^ t_dp T) (2 ^ t_dp T) 0 (fun l hl c => by have := c.1; omega)
  rw [show 2 ^ t_dp T + (16 - 2 ^ t_dp T) = 16 by omega] at this
  rw [this]
theorem h_ads_len : ∀ k, k ≤ L.length → (h_ads T0 L k).length = h_nad (L.take k)
  | 0, _ => rfl
  | k + 1, hk => by
    obtain ⟨d, hd⟩ := h_get (L := L) (k := k) (by omega)
    have ih := h_ads_len k (by omega)
    rw [h_nad_s hd]
    by_cases c : d.1.1 = 1
    · rw [h_ads_1 (by rw [h_kn_e hd]; exact c), if_pos c, List.length_append, ih]; rfl
    · rw [h_ads_n (by rw [h_kn_e hd]; exact c), if_neg c, ih]; rfl
theorem h_nad_mono (hk : k ≤ L.length) : h_nad (L.take k) ≤ h_nad L := by
  unfold h_nad
  conv => rhs; rw [← List.take_append_drop k L]
  rw [List.countP_append]
  omega
theorem h_room_iff (h0 : t_dp T0 ≤ 4) (hok : ∀ c ∈ L, p_cok c.1) : h_room T0 L ↔ t_nl T0 + h_nad L ≤ 16 := by
  have hok' : ∀ (k : Nat) (c : w_Ch), L[k]? = some c → p_cok c.1 := fun k c hc => hok c (List.mem_of_getElem? hc)
  constructor
  · intro h
    obtain ⟨_, e⟩ := h_fa_dp h0 hok' L.length (Nat.le_refl _) (fun j c _ hc => h j c hc)
    have := t_nl_le (T := h_fd h_a1 T0 L L.length)
    rw [h_ads_len L.length (Nat.le_refl _), List.take_length] at e
    omega
  · intro h
    have key : ∀ k, k ≤ L.length → ∀ j c, j < k → L[j]? = some c → c.1.1 = 1 → t_fl (h_fd h_a1 T0 L j) < 16 := by
      intro k
      induction k with
      | zero => intro _ j c hj; omega
      | succ k ih =>
        intro hk j c hj hc h1
        rcases Nat.lt_or_ge j k with g | g
        · exact ih (by omega) j c g hc h1
        · have ej : j = k := by omega
          subst ej
          obtain ⟨_, e⟩ := h_fa_dp h0 hok' j (by omega) (ih (by omega))
          rw [h_ads_len j (by omega)] at e
          have m1 := h_nad_mono (L := L) (k := j + 1) hk
          rw [h_nad_s hc, if_pos h1] at m1
          exact t_nl_fl.mp (by omega)
    exact fun k c hc => key L.length (Nat.le_refl _) k c (h_lt hc) hc
theorem h_ak_app : ∀ (A B : List w_Ch), h_ak (A ++ B) = h_ak A ++ h_ak B
  | [], _ => rfl
  | c :: A, B => by
    show (if c.1.1 = 1 then (h_lf c).2.1 :: h_ak (A ++ B) else h_ak (A ++ B)) = (if c.1.1 = 1 then (h_lf c).2.1 :: h_ak A else h_ak A) ++ h_ak B
    rw [h_ak_app A B]
    by_cases d : c.1.1 = 1
    · rw [if_pos d, if_pos d]; rfl
    · rw [if_neg d, if_neg d]
theorem h_one_iff {S : List Wt} (h0 : t_dp T0 ≤ 4) (hok : ∀ c ∈ L, p_cok c.1) (hr : h_room T0 L) (b1 : t_one T0 ↔ S.Nodup) (b2 : ∀ w, (∃ l, t_is T0 l ∧ t_ky T0 (2 * l) = w) ↔ w ∈ S) : ∀ k, k ≤ L.length → (t_one (h_fd h_a1 T0 L k) ↔ (S ++ h_ak (L.take k)).Nodup) ∧ ∀ w, (∃ l, t_is (h_fd h_a1 T0 L k) l ∧ t_ky (h_fd h_a1 T0 L k) (2 * l) = w) ↔ w ∈ S ++ h_ak (L.take k)
  | 0, _ => by
    have e : S ++ h_ak (L.take 0) = S := by rw [List.take_zero]; exact List.append_nil _
    rw [e]
    exact ⟨b1, b2⟩
  | k + 1, hk => by
    have hok' : ∀ (k : Nat) (c : w_Ch), L[k]? = some c → p_cok c.1 := fun k c hc => hok c (List.mem_of_getElem? hc)
    obtain ⟨i1, i2⟩ := h_one_iff h0 hok hr b1 b2 k (by omega)
    obtain ⟨d, hd⟩ := h_get (L := L) (k := k) (by omega)
    have d4 := (h_fa_dp h0 hok' k (by omega) (fun j c _ hc => hr j c hc)).1
    rw [h_fd_s hd, h_tk_s hd, h_ak_app]
    by_cases c : d.1.1 = 1
    · have ea : h_a1 (h_fd h_a1 T0 L k) d = t_add (h_fd h_a1 T0 L k) (h_lf d) := by unfold h_a1; rw [if_pos c]
      have ek : h_ak [d] = [(h_lf d).2.1] := by
        show (if d.1.1 = 1 then (h_lf d).2.1 :: h_ak [] else h_ak []) = _
        rw [if_pos c]; rfl
      have hl := hr k d hd c
      have hf : (h_lf d).2.1 ≠ [] := ((hok' k d hd).2.1 (by omega)).2.2.2.2.2
      rw [ea, ek, ← List.append_assoc]
      have hi := fun l => t_add_is (l := l) (f := h_lf d) d4 hl hf
      constructor
      · rw [t_one_add d4 hl hf, i1, List.nodup_append (l₁ := S ++ h_ak (L.take k)) (l₂ := [(h_lf d).2.1])]
        constructor
        · rintro ⟨h1, h2⟩
          refine ⟨h1, by simp, fun a ha b hb => ?_⟩
          rw [List.mem_singleton] at hb
          subst hb
          obtain ⟨l, hl1, hl2⟩ := (i2 a).mpr ha
          rw [← hl2]
          exact h2 l hl1
        · rintro ⟨h1, _, h3⟩
          exact ⟨h1, fun l hl2 => h3 _ ((i2 _).mp ⟨l, hl2, rfl⟩) _ (by simp)⟩
      · intro w
        rw [List.mem_append, ← i2 w, List.mem_singleton]
        constructor
        · rintro ⟨l, hl1, hl2⟩
          rcases (hi l).mp hl1 with e | e
          · subst e
            rw [t_add_kf] at hl2
            exact Or.inr hl2.symm
          · rw [t_add_k e d4 hl] at hl2
            exact Or.inl ⟨l, e, hl2⟩
        · rintro (⟨l, hl1, hl2⟩ | h)
          · exact ⟨l, (hi l).mpr (Or.inr hl1), by rw [t_add_k hl1 d4 hl]; exact hl2⟩
          · exact ⟨_, (hi _).mpr (Or.inl rfl), by rw [t_add_kf, h]⟩
    · have ea : h_a1 (h_fd h_a1 T0 L k) d = h_fd h_a1 T0 L k := by unfold h_a1; rw [if_neg c]
      have ek : h_ak [d] = [] := by
        show (if d.1.1 = 1 then (h_lf d).2.1 :: h_ak [] else h_ak []) = _
        rw [if_neg c]; rfl
      rw [ea, ek, List.append_nil]
      exact ⟨i1, i2⟩
/-- the two sides ask for the same -/
theorem h_C_done (h4 : t_dp T ≤ 4) (hown : ∀ c ∈ L, h_own T c) (hok : ∀ c ∈ L, p_cok c.1) (how : ∀ l, t_is T l → 0 ≤ t_ow T l) : h_C T L com ↔ h_done T L com := by
  have go1 : ∀ c : w_Ch, c.1.1 = 1 → h_go c = (h_lf c).1 := fun c h => by unfold h_go; rw [if_pos h]
  have hall : h_all T L com ↔ (h_di L com L.length ∧ ∀ l : Nat, t_is T l → ¬ h_rm L (l : Int) → ¬ ∃ c ∈ L, c.1.1 = 1 ∧ h_go c = ((t_ow T l).toNat : Int)) := by
    constructor
    · intro h
      refine ⟨fun j c _ hc => ⟨fun h1 => ?_, fun h1 => ?_⟩, fun l hl hr hc => ?_⟩
      · have := (h j c hc).2 h1
        exact ⟨this.1, this.2.2.1⟩
      · exact ((h j c hc).1 h1).2.2.2
      · obtain ⟨c, hc, h1, h2⟩ := hc
        obtain ⟨j, hj⟩ := List.mem_iff_getElem?.mp hc
        refine hr (((h j c hj).1 h1).2.2.1 l hl.1 hl.2 ?_)
        rw [go1 c h1] at h2
        have := how l hl
        omega
    · rintro ⟨h1, h2⟩ k c hc
      have hm := List.mem_of_getElem? hc
      have ho := hown c hm
      refine ⟨fun k1 => ⟨(ho.1 k1).1, (ho.1 k1).2, fun l hl hk e => ?_, (h1 k c (h_lt hc) hc).2 k1⟩, fun k1 => ?_⟩
      · refine Classical.byContradiction (fun hr => h2 l ⟨hl, hk⟩ hr ⟨c, hm, k1, ?_⟩)
        rw [go1 c k1]
        have := how l ⟨hl, hk⟩
        omega
      · have hd := (h1 k c (h_lt hc) hc).1 k1
        refine ⟨hd.1, ho.2.1 k1, hd.2, ?_⟩
        have := (hok c hm).1
        by_cases c3 : c.1.1 = 3
        · exact Or.inl c3
        · exact Or.inr (ho.2.2 (by omega))
  unfold h_C h_done
  rw [hall]
  constructor
  · rintro ⟨a1, a2, a3, a4⟩
    have hi := fun l => h_0_is (l := l) h4 hown hok a1
    have d0 : t_dp (h_0 T L) ≤ 4 := by
      unfold h_0 t_sh
      have := t_shn_dp (t_dp (h_fd h_r1 (h_fd h_u1 T L L.length) L L.length)) (T := h_fd h_r1 (h_fd h_u1 T L L.length) L L.length)
      rw [h_fr_dp, h_fu_dp] at this
      rw [h_fr_dp, h_fu_dp]
      omega
    have en := h_nl_st (R := fun j => h_rm L (j : Int)) h4 (fun l => (hi l).1)
    have room : h_room (h_0 T L) L := (h_room_iff d0 hok).mpr (by rw [en]; exact a3)
    refine ⟨⟨a1, a2⟩, room, ?_⟩
    have := (h_one_iff (S := (h_st T (fun j => h_rm L (j : Int)) 0 (2 ^ t_dp T)).map (h_kb T L)) d0 hok room ?_ ?_ L.length (Nat.le_refl _)).1
    · rw [List.take_length] at this
      exact this.mpr (h_nd_iff.mp a4)
    · rw [h_st_nd]
      constructor
      · intro h a b _ g2 _ pa pb
        have := h a b g2 ((hi a).1.mpr pa) ((hi b).1.mpr pb)
        rw [(hi a).2 pa.2, (hi b).2 pb.2] at this
        exact this
      · intro h a b g2 pa pb
        have qa := (hi a).1.mp pa
        have qb := (hi b).1.mp pb
        rw [(hi a).2 qa.2, (hi b).2 qb.2]
        exact h a b (by omega) g2 (by have := qa.1.1; omega) qa qb
    · intro w
      rw [List.mem_map]
      constructor
      · rintro ⟨l, h1, h2⟩
        have q1 := (hi l).1.mp h1
        refine ⟨l, (h_st_mem _ _).mpr ⟨by omega, by have := q1.1.1; omega, q1⟩, ?_⟩
        rw [(hi l).2 q1.2] at h2
        exact h2
      · rintro ⟨l, h1, h2⟩
        have q1 := ((h_st_mem _ _).mp h1).2.2
        exact ⟨l, (hi l).1.mpr q1, by rw [(hi l).2 q1.2]; exact h2⟩
  · rintro ⟨⟨a1, a2⟩, room, a4⟩
    have hi := fun l => h_0_is (l := l) h4 hown hok a1
    have d0 : t_dp (h_0 T L) ≤ 4 := by
      unfold h_0 t_sh
      have := t_shn_dp (t_dp (h_fd h_r1 (h_fd h_u1 T L L.length) L L.length)) (T := h_fd h_r1 (h_fd h_u1 T L L.length) L L.length)
      rw [h_fr_dp, h_fu_dp] at this
      rw [h_fr_dp, h_fu_dp]
      omega
    have en := h_nl_st (R := fun j => h_rm L (j : Int)) h4 (fun l => (hi l).1)
    have a3 := (h_room_iff d0 hok).mp room
    rw [en] at a3
    refine ⟨a1, a2, a3, ?_⟩
    have := (h_one_iff (S := (h_st T (fun j => h_rm L (j : Int)) 0 (2 ^ t_dp T)).map (h_kb T L)) d0 hok room ?_ ?_ L.length (Nat.le_refl _)).1
    · rw [List.take_length] at this
      exact h_nd_iff.mpr (this.mp a4)
    · rw [h_st_nd]
      constructor
      · intro h a b _ g2 _ pa pb
        have := h a b g2 ((hi a).1.mpr pa) ((hi b).1.mpr pb)
        rw [(hi a).2 pa.2, (hi b).2 pb.2] at this
        exact this
      · intro h a b g2 pa pb
        have qa := (hi a).1.mp pa
        have qb := (hi b).1.mp pb
        rw [(hi a).2 qa.2, (hi b).2 qb.2]
        exact h a b (by omega) g2 (by have := qa.1.1; omega) qa qb
    · intro w
      rw [List.mem_map]
      constructor
      · rintro ⟨l, h1, h2⟩
        have q1 := (hi l).1.mp h1
        refine ⟨l, (h_st_mem _ _).mpr ⟨by omega, by have := q1.1.1; omega, q1⟩, ?_⟩
        rw [(hi l).2 q1.2] at h2
        exact h2
      · rintro ⟨l, h1, h2⟩
        have q1 := ((h_st_mem _ _).mp h1).2.2
        exact ⟨l, (hi l).1.mpr q1, by rw [(hi l).2 q1.2]; exact h2⟩
end
