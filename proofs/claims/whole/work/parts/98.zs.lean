/-! ===== the reference: make ===== -/
noncomputable section
section
variable {I J : sr_V} {d e : Nat → Wt} {nn : Nat} {K : Wt → Prop} {tl tp : List Wt} {ms : List (List Wt)} {rd : Nat → Int}
/-- make throws the first exception -/
def w_mk1 (tl : List Wt) (K : Wt → Prop) (s a b : Int) : Prop := s < 0 ∨ 7 < s ∨ (1 < s ∧ ¬ w_has tl K a) ∨ ((s = 4 ∨ s = 6) ∧ ¬ w_has tl K b) ∨ (s = 3 ∧ (b < 0 ∨ 9 < b))
/-- the second -/
def w_mk2 (tl tp : List Wt) (s a : Int) : Prop := (s = 6 ∧ ∀ w, w_no tl a = some w → w.head? ≠ some 5) ∨ ((s = 1 ∨ s = 2 ∨ s = 3 ∨ s = 7) ∧ 300 < tp.length)
/-- the term with a number, or none -/
def w_nz (tl : List Wt) (x : Int) : Wt := (w_no tl x).getD []
theorem m_sort5 (T : m_T I d nn) {t : Nat} (h : m_R I t) : I 6 t = 5 ↔ (d t).head? = some 5 := by
  have r := T.2.2.2.2.1 t h.1 h.2
  have v1 := r.1.1
  have n1 := r.2.2.2.2.2.1
  have n2 := r.2.2.2.2.2.2
  by_cases c : I 6 t = 8
  · obtain ⟨i, _, q⟩ := n2 c
    rw [q]
    unfold w_nm
    rw [w_mk_head]
    exact ⟨fun h => by omega, fun h => by simp at h⟩
  · rw [n1 c]
    unfold w_tm
    rw [w_mk_head]
    constructor
    · intro h
      rw [h]
      rfl
    · intro h
      have := Option.some.inj h
      omega
theorem m_make {Q : Int → sr_V → Prop} {s a b : Int} (T : m_T I d nn) (hK : m_K I d K) (hN : m_N I d tl) (hP : m_P I d tp) (hb : tl.length < 44998) (ht : I 1000 4 + 1 ≤ 44999) (hsg : I 1000 5 + I 1000 3 ≤ 1400000) (q1 : ∀ J, w_mk1 tl K s a b → m_K J d K → J 1000 0 = 1 → m_fr [16] [0, 19] I J → Q 0 J) (q2 : ∀ J, ¬ w_mk1 tl K s a b → w_mk2 tl tp s a → m_K J d K → J 1000 0 = 2 → m_fr [16] [0, 19] I J → Q 0 J) (k : ∀ w J e nn' K', ¬ w_mk1 tl K s a b → ¬ w_mk2 tl tp s a → (s = 0 → w = w_nm nn ∧ nn' = nn + 1 ∧ K' = w_add K w) → (s ≠ 0 → w = w_mkt s (if 1 < s then w_nz tl a else []) (if s = 3 then [b.toNat] else if s = 4 ∨ s = 6 then w_nz tl b else []) tp ∧ nn' = nn ∧ K' = K) → m_T J e nn' → m_K J e K' → m_N J e (w_tl tl w) → m_P J e (if s = 1 ∨ s = 2 ∨ s = 3 ∨ s = 7 then [] else tp) → (∀ u : Nat, (u : Int) ≤ I 1000 4 → e u = d u) → m_e2 I J → J 1000 0 = 0 → Q (((w_tl tl w).idxOf w : Nat) + 1) J) : rm_25 s a b I Q := by
  have hn := T.2.1
  have hT4 := T.1
  unfold rm_25
  refine m_infer T hK.1 hK.2.2.1 hK.2.2.2.1 (fun G hi => ?_)
  obtain ⟨kG, k19, kk⟩ := m_K_infer T hK hi
  have frG := m_infd_fr hi
  have g4 : G 1000 4 = I 1000 4 := frG.2 4 (by decide)
  have TG := m_T_fr frG (by decide) (by decide) (by decide) T
  have NG := m_N_same (frG.1 13 (by decide) (by decide)) (frG.1 14 (by decide) (by decide)) (frG.2 18 (by decide)) g4 hN
  have PG : m_P G d tp := m_P_e (frG.1 2 (by decide) (by decide)) (frG.2 3 (by decide)) (by omega) (fun _ _ => rfl) hP
  have p1 := PG.1
  -- blocks, from the last
  have b90 : ∀ z : Int, (z = 1 ∧ w_mk1 tl K s a b ∨ z = 2 ∧ ¬ w_mk1 tl K s a b ∧ w_mk2 tl tp s a ∨ z = 0 ∧ ¬ w_mk1 tl K s a b ∧ ¬ w_mk2 tl tp s a) → rb_25_90 Q s a b (if 1 < s then 1 else 0) (if s = 4 ∨ s = 6 then 1 else 0) z G := by
    intro z hz
    unfold rb_25_90
    intro I1 e1 v e _
    rw [e1, su_eq] at e
    subst e
    have fr1 := m_su0 G v
    rw [← e1] at fr1
    have z1 : I1 1000 0 = v := by rw [e1, su_eq]
    have frI : m_fr [16] [0, 19] I I1 := ⟨fun g h1 h2 => (fr1.1 g (by simp) h2).trans (frG.1 g h1 h2), fun f h1 => by
      simp at h1
      rw [fr1.2 f (by simp; omega), frG.2 f (by simp; omega)]⟩
    have K1 : m_K I1 d K := m_K_same (fun g hg => fr1.1 g (by simp) (by omega)) (fr1.2 4 (by decide)) (fr1.2 19 (by decide)) kG
    rcases hz with ⟨z0, h1⟩ | ⟨z0, h1, h2⟩ | ⟨z0, h1, h2⟩
    · refine ⟨fun h => by omega, fun _ => q1 I1 h1 K1 (by omega) frI⟩
    · refine ⟨fun h => by omega, fun _ => q2 I1 h1 h2 K1 (by omega) frI⟩
    · refine ⟨fun _ => ?_, fun h => by omega⟩
      have T1 := m_T_fr fr1 (by simp) (by decide) (by decide) TG
      have N1 := m_N_same (fr1.1 13 (by decide) (by decide)) (fr1.1 14 (by decide) (by decide)) (fr1.2 18 (by decide)) (fr1.2 4 (by decide)) NG
      have P1 : m_P I1 d tp := m_P_e (fr1.1 2 (by decide) (by decide)) (fr1.2 3 (by decide)) (by rw [fr1.2 4 (by decide)]; omega) (fun _ _ => rfl) PG
      have i4 : I1 1000 4 = I 1000 4 := frI.2 4 (by decide)
      have i5 : I1 1000 5 = I 1000 5 := frI.2 5 (by decide)
      have i3 : I1 1000 3 = I 1000 3 := frI.2 3 (by decide)
      have i14 : I1 14 = G 14 := fr1.1 14 (by simp) (by decide)
      have n1 := NG.1
      unfold w_mk1 at h1
      have hs : 0 ≤ s ∧ s ≤ 7 := by
        constructor
        · by_cases c : 0 ≤ s
          · exact c
          · exact absurd (Or.inl (by omega)) h1
        · by_cases c : s ≤ 7
          · exact c
          · exact absurd (Or.inr (Or.inl (by omega))) h1
      have hA : 1 < s → w_has tl K a := fun c => Classical.byContradiction fun hh => h1 (Or.inr (Or.inr (Or.inl ⟨c, hh⟩)))
      have hB : s = 4 ∨ s = 6 → w_has tl K b := fun c => Classical.byContradiction fun hh => h1 (Or.inr (Or.inr (Or.inr (Or.inl ⟨c, hh⟩))))
      have h3 : s = 3 → 0 ≤ b ∧ b ≤ 9 := fun c => by
        constructor
        · by_cases c2 : 0 ≤ b
          · exact c2
          · exact absurd (Or.inr (Or.inr (Or.inr (Or.inr ⟨c, Or.inl (by omega)⟩)))) h1
        · by_cases c2 : b ≤ 9
          · exact c2
          · exact absurd (Or.inr (Or.inr (Or.inr (Or.inr ⟨c, Or.inr (by omega)⟩)))) h1
      have get : ∀ y : Int, w_has tl K y → ∃ t : Nat, m_R I t ∧ G 14 y.toNat = t ∧ w_nz tl y = d t ∧ K (d t) ∧ 1 ≤ y ∧ y ≤ tl.length ∧ w_no tl y = some (d t) := by
        intro y ⟨w, hw, hk⟩
        have hy : 1 ≤ y ∧ y ≤ G 1000 18 := by
          by_cases c : 1 ≤ y ∧ y ≤ G 1000 18
          · exact c
          · rw [w_no_none NG (by omega)] at hw; cases hw
        obtain ⟨w', t, a1, a2, a3, a4⟩ := w_no_some NG hy.1 hy.2
        rw [hw] at a1
        have a1 := Option.some.inj a1
        refine ⟨t, ⟨a2.1, by have := a2.2; omega⟩, a3, ?_, by rw [a4, ← a1]; exact hk, hy.1, by omega, by rw [hw, a1, a4]⟩
        unfold w_nz
        rw [hw, a4, a1]
        rfl
      -- the rest, with the numbers of both terms
      have fin : ∀ a' b' : Int, (1 < s → ∃ t : Nat, a' = t ∧ m_R I t ∧ w_nz tl a = d t ∧ K (d t) ∧ w_no tl a = some (d t)) → (s ≤ 1 → a' = 0) → (s = 4 ∨ s = 6 → ∃ t : Nat, b' = t ∧ m_R I t ∧ w_nz tl b = d t ∧ K (d t)) → (s ≠ 4 → s ≠ 6 → b' = 0) → rb_25_113 Q s b a' b' I1 := by
        intro a' b' fa fa0 fb fb0
        have ra : 0 ≤ a' ∧ a' ≤ I 1000 4 ∧ w_dz d a' = (if 1 < s then w_nz tl a else []) ∧ (1 < s → 1 ≤ a' ∧ K (d a'.toNat)) := by
          by_cases c : 1 < s
          · obtain ⟨t, x1, x2, x3, x4, _⟩ := fa c
            have := x2.1
            have := x2.2
            rw [if_pos c, x3, x1, w_dz_pos (by omega), Int.toNat_natCast]
            exact ⟨by omega, by omega, rfl, fun _ => ⟨by omega, x4⟩⟩
          · rw [if_neg c, fa0 (by omega)]
            refine ⟨by omega, by omega, ?_, fun h => absurd h c⟩
            unfold w_dz
            rw [if_pos rfl]
        have rb : 0 ≤ b' ∧ b' ≤ I 1000 4 ∧ w_dz d b' = (if s = 4 ∨ s = 6 then w_nz tl b else []) ∧ (s = 4 ∨ s = 6 → 1 ≤ b' ∧ K (d b'.toNat)) := by
          by_cases c : s = 4 ∨ s = 6
          · obtain ⟨t, x1, x2, x3, x4⟩ := fb c
            have := x2.1
            have := x2.2
            rw [if_pos c, x3, x1, w_dz_pos (by omega), Int.toNat_natCast]
            exact ⟨by omega, by omega, rfl, fun _ => ⟨by omega, x4⟩⟩
          · rw [if_neg c, fb0 (by omega) (by omega)]
            refine ⟨by omega, by omega, ?_, fun h => absurd h c⟩
            unfold w_dz
            rw [if_pos rfl]
        refine m_make_e T1 K1 N1 P1 hb (by omega) (by omega) hs.1 hs.2 ra.1 (by omega) rb.1 (by omega) ra.2.2.2 fa0 rb.2.2.2 fb0 h3 (fun c => ?_) (fun w J e nn' K' x1 x2 x3 x4 x5 x6 x7 x8 x9 => ?_)
        · obtain ⟨t, y1, y2, y3, y4, y5⟩ := fa (by omega)
          have t6 : I1 6 = I 6 := frI.1 6 (by decide) (by decide)
          rw [t6, y1, Int.toNat_natCast]
          apply (m_sort5 T y2).mpr
          unfold w_mk2 at h2
          exact Classical.byContradiction fun hh => h2 (Or.inl ⟨c, fun w hw => by rw [y5] at hw; rw [← Option.some.inj hw]; exact hh⟩)
        · rw [ra.2.2.1, rb.2.2.1] at x2
          refine k w J e nn' K' h1 h2 x1 x2 x3 x4 x5 x6 (fun u hu => x7 u (by omega)) ⟨fun g y1 y2 y3 => ?_, fun f y1 y2 y3 y4 y5 y6 y7 => ?_, ?_, ?_, ?_⟩ (by rw [x9, z1, z0])
          · rw [x8.1 g y1 y2 y3, frI.1 g (by simp; omega) y3]
          · rw [x8.2.1 f y1 y2 y3 y4 y5 y6 y7, frI.2 f (by simp; omega)]
          · rw [← i4]; exact x8.2.2.1
          · rw [← i4]; exact x8.2.2.2.1
          · rw [← i5, ← i3]; exact x8.2.2.2.2
      have b104 : ∀ a' : Int, (1 < s → ∃ t : Nat, a' = t ∧ m_R I t ∧ w_nz tl a = d t ∧ K (d t) ∧ w_no tl a = some (d t)) → (s ≤ 1 → a' = 0) → rb_25_104 Q s b (if s = 4 ∨ s = 6 then 1 else 0) a' I1 := by
        intro a' fa fa0
        unfold rb_25_104
        by_cases c : s = 4 ∨ s = 6
        · rw [if_pos c]
          refine ⟨fun h => absurd h (by decide), fun _ => ?_⟩
          obtain ⟨t, x1, x2, x3, x4, x5, x6, _⟩ := get b (hB c)
          refine ⟨by omega, by omega, ?_⟩
          intro v e _
          rw [i14, x2] at e
          exact fin a' v fa fa0 (fun _ => ⟨t, e, x1, x3, x4⟩) (fun h1 h2 => by omega)
        · rw [if_neg c]
          exact ⟨fun _ => fin a' 0 fa fa0 (fun h => absurd h c) (fun _ _ => rfl), fun h => absurd rfl h⟩
      by_cases c : 1 < s
      · rw [if_pos c]
        refine ⟨fun h => absurd h (by decide), fun _ => ?_⟩
        obtain ⟨t, x1, x2, x3, x4, x5, x6, x7⟩ := get a (hA c)
        refine ⟨by omega, by omega, ?_⟩
        intro v e _
        rw [i14, x2] at e
        exact b104 v (fun _ => ⟨t, e, x1, x3, x4, x7⟩) (fun h => by omega)
      · rw [if_neg c]
        exact ⟨fun _ => b104 0 (fun h => absurd h c) (fun _ => rfl), fun h => absurd rfl h⟩
  -- the flags
  have b47 : ∀ z : Int, (z = 1 ∧ w_mk1 tl K s a b ∨ z = 0 ∧ ¬ w_mk1 tl K s a b) → rb_25_47 Q s a b (if 1 < s then 1 else 0) (if s = 4 ∨ s = 6 then 1 else 0) z G := by
    intro z hz
    have b63 : ∀ o : Int, (o = 1 ∧ (s = 1 ∨ s = 2 ∨ s = 3 ∨ s = 7) ∨ o = 0 ∧ ¬ (s = 1 ∨ s = 2 ∨ s = 3 ∨ s = 7)) → rb_25_63 Q s a b (if 1 < s then 1 else 0) (if s = 4 ∨ s = 6 then 1 else 0) z o G := by
      intro o ho
      unfold rb_25_63
      refine ⟨fun c => ?_, fun c => b90 1 (Or.inl ⟨rfl, by rcases hz with h | h; exact h.2; omega⟩)⟩
      have h1 : ¬ w_mk1 tl K s a b := by
        rcases hz with h | h
        · omega
        · exact h.2
      have b81 : (s = 6 → ∃ w, w_no tl a = some w ∧ w.head? = some 5) → rb_25_81 Q s a b (if 1 < s then 1 else 0) (if s = 4 ∨ s = 6 then 1 else 0) o G := by
        intro h6
        have no6 : ¬ (s = 6 ∧ ∀ w, w_no tl a = some w → w.head? ≠ some 5) := fun ⟨x1, x2⟩ => by
          obtain ⟨w, y1, y2⟩ := h6 x1
          exact x2 w y1 y2
        unfold rb_25_81
        refine ⟨fun c2 => b90 0 (Or.inr (Or.inr ⟨rfl, h1, fun h => ?_⟩)), fun c2 => ?_⟩
        · rcases h with h | h
          · exact no6 h
          · omega
        · intro v e _
          rw [p1] at e
          refine ⟨fun c3 => b90 0 (Or.inr (Or.inr ⟨rfl, h1, fun h => ?_⟩)), fun c3 => b90 2 (Or.inr (Or.inl ⟨rfl, h1, Or.inr ⟨by omega, by omega⟩⟩))⟩
          rcases h with h | h
          · exact no6 h
          · omega
      refine ⟨fun c2 => b81 (fun h => absurd h c2), fun c2 => ?_⟩
      have ha : w_has tl K a := by
        unfold w_mk1 at h1
        exact Classical.byContradiction fun hh => h1 (Or.inr (Or.inr (Or.inl ⟨by omega, hh⟩)))
      obtain ⟨w, hw, _⟩ := ha
      have hy : 1 ≤ a ∧ a ≤ G 1000 18 := by
        by_cases c : 1 ≤ a ∧ a ≤ G 1000 18
        · exact c
        · rw [w_no_none NG (by omega)] at hw; cases hw
      obtain ⟨w', t, a1, a2, a3, a4⟩ := w_no_some NG hy.1 hy.2
      have n1 := NG.1
      refine ⟨by omega, by omega, ?_⟩
      intro v e _
      rw [a3] at e
      subst e
      have := a2.2
      refine ⟨by omega, by omega, ?_⟩
      intro v e _
      rw [Int.toNat_natCast] at e
      refine ⟨fun c3 => b90 2 (Or.inr (Or.inl ⟨rfl, h1, Or.inl ⟨c2, fun w2 hw2 => ?_⟩⟩)), fun c3 => b81 (fun _ => ⟨w', a1, ?_⟩)⟩
      · rw [a1] at hw2
        rw [← Option.some.inj hw2, ← a4]
        exact fun hh => c3 (e.trans ((m_sort5 TG a2).mpr hh))
      · rw [← a4]
        exact (m_sort5 TG a2).mp (e.symm.trans c3)
    unfold rb_25_47
    refine ⟨fun c => b63 1 (Or.inl ⟨rfl, Or.inl c⟩), fun c => ⟨fun c2 => b63 1 (Or.inl ⟨rfl, by omega⟩), fun c2 => ⟨fun c3 => b63 1 (Or.inl ⟨rfl, by omega⟩), fun c3 => ⟨fun c4 => b63 0 (Or.inr ⟨rfl, by omega⟩), fun c4 => b63 1 (Or.inl ⟨rfl, by omega⟩)⟩⟩⟩⟩
  have b36 : 0 ≤ s → s ≤ 7 → (1 < s → w_has tl K a) → (s = 4 ∨ s = 6 → w_has tl K b) → rb_25_36 Q s a b (if 1 < s then 1 else 0) (if s = 4 ∨ s = 6 then 1 else 0) G := by
    intro s0 s7 hA hB
    have key : (s = 3 → 0 ≤ b ∧ b ≤ 9) → ¬ w_mk1 tl K s a b := by
      intro h3 h
      unfold w_mk1 at h
      rcases h with h | h | h | h | h
      · omega
      · omega
      · exact h.2 (hA h.1)
      · exact h.2 (hB h.1)
      · have := h3 h.1; omega
    unfold rb_25_36
    refine ⟨fun c => b47 0 (Or.inr ⟨rfl, key (fun h => absurd h c)⟩), fun c => ⟨fun c2 => b47 1 (Or.inl ⟨rfl, Or.inr (Or.inr (Or.inr (Or.inr ⟨c, Or.inl c2⟩)))⟩), fun c2 => ⟨fun c3 => b47 0 (Or.inr ⟨rfl, key (fun _ => ⟨c2, c3⟩)⟩), fun c3 => b47 1 (Or.inl ⟨rfl, Or.inr (Or.inr (Or.inr (Or.inr ⟨c, Or.inr c3⟩)))⟩)⟩⟩⟩
  have b30 : 0 ≤ s → s ≤ 7 → (1 < s → w_has tl K a) → rb_25_30 Q s a b (if 1 < s then 1 else 0) (if s = 4 ∨ s = 6 then 1 else 0) G := by
    intro s0 s7 hA
    unfold rb_25_30
    refine ⟨fun c => b36 s0 s7 hA (fun h => by rw [if_pos h] at c; exact absurd c (by decide)), fun c => ?_⟩
    have hc : s = 4 ∨ s = 6 := Classical.byContradiction fun hh => c (if_neg hh)
    refine m_has (K := K) (tl := tl) (d := d) (by omega) (by omega) NG kG.1 kk (fun h _ => ⟨fun _ => b47 1 (Or.inl ⟨rfl, Or.inr (Or.inr (Or.inr (Or.inl ⟨hc, h⟩)))⟩), fun h => absurd rfl h⟩) (fun h _ => ⟨fun h => absurd h (by decide), fun _ => b36 s0 s7 hA (fun _ => h)⟩)
  have b18 : rb_25_18 Q s a b (if 1 < s then 1 else 0) (if s = 4 ∨ s = 6 then 1 else 0) G := by
    unfold rb_25_18
    refine ⟨fun c => b47 1 (Or.inl ⟨rfl, Or.inl c⟩), fun c => ⟨fun c2 => b47 1 (Or.inl ⟨rfl, Or.inr (Or.inl c2)⟩), fun c2 => ⟨fun c3 => b30 c c2 (fun h => by rw [if_pos h] at c3; exact absurd c3 (by decide)), fun c3 => ?_⟩⟩⟩
    have hc : 1 < s := Classical.byContradiction fun hh => c3 (if_neg hh)
    refine m_has (K := K) (tl := tl) (d := d) (by omega) (by omega) NG kG.1 kk (fun h _ => ⟨fun _ => b47 1 (Or.inl ⟨rfl, Or.inr (Or.inr (Or.inl ⟨hc, h⟩))⟩), fun h => absurd rfl h⟩) (fun h _ => ⟨fun h => absurd h (by decide), fun _ => b30 c c2 (fun _ => h)⟩)
  have b8 : rb_25_8 Q s a b (if 1 < s then 1 else 0) G := by
    unfold rb_25_8
    refine ⟨fun c => ?_, fun c => ⟨fun c2 => ?_, fun c2 => ?_⟩⟩
    · rw [if_pos (Or.inl c)] at b18; exact b18
    · rw [if_neg (by omega : ¬ (s = 4 ∨ s = 6))] at b18; exact b18
    · rw [if_pos (Or.inr c2)] at b18; exact b18
  refine ⟨fun c => ?_, fun c => ?_⟩
  · rw [if_neg (by omega)] at b8; exact b8
  · rw [if_pos c] at b8; exact b8
end
end
