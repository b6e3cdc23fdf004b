/-! ===== the reference: make ===== -/
noncomputable section
section
variable {I J : sr_V} {d e : Nat → Wt} {nn : Nat} {K : Wt → Prop} {x : Int} {tl tp : List Wt} {ms : List (List Wt)} {rd : Nat → Int}
theorem m_sl_map {n : Int} {f : Nat → Int} {l : List Wt} (h : m_at n d f 0 l) : (m_sl f 0 l.length).map (w_sg d) = l ∧ ∀ s ∈ m_sl f 0 l.length, m_vs n s := by
  constructor
  · apply List.ext_getElem?
    intro k
    unfold m_sl
    rw [List.getElem?_map, List.getElem?_map]
    by_cases c : k < l.length
    · rw [List.getElem?_range c, List.getElem?_eq_getElem c]
      have := (h k _ (List.getElem?_eq_getElem c)).2
      show some (w_sg d (f (0 + k))) = _
      rw [this]
    · rw [List.getElem?_eq_none (by simp; omega), List.getElem?_eq_none (by omega)]
      rfl
  · intro s hs
    unfold m_sl at hs
    rw [List.mem_map] at hs
    obtain ⟨k, hk, e⟩ := hs
    rw [List.mem_range] at hk
    rw [← e]
    exact (h k _ (List.getElem?_eq_getElem hk)).1
/-- what make leaves as it was -/
def m_e2 (I J : sr_V) : Prop := (∀ g, g ≠ 55 → (g < 6 ∨ 17 < g) → g ≠ 1000 → J g = I g) ∧ (∀ f, f ≠ 0 → f ≠ 3 → f ≠ 56 → f ≠ 4 → f ≠ 5 → f ≠ 18 → f ≠ 19 → J 1000 f = I 1000 f) ∧ I 1000 4 ≤ J 1000 4 ∧ J 1000 4 ≤ I 1000 4 + 1 ∧ J 1000 5 ≤ I 1000 5 + I 1000 3
/-- the end of make: a term t, which is told -/
theorem m_make_t {Q : Int → sr_V → Prop} {s t : Int} {w : Wt} (T : m_T I d nn) (hK : m_K I d K) (hN : m_N I d tl) (hb : tl.length < 44998) (h1 : 1 ≤ t) (h2 : t ≤ I 1000 4) (hw : d t.toNat = w) (k : ∀ J, m_T J d nn → m_K J d (if s = 0 then w_add K w else K) → m_N J d (w_tl tl w) → m_fr [13, 14, 16] [18, 19] I J → Q (((w_tl tl w).idxOf w : Nat) + 1) J) : rb_25_190 Q s t I := by
  have hn := T.2.1
  have tell : ∀ (G : sr_V) (K' : Wt → Prop), m_fr [16] [19] I G → m_K G d K' → (K' = if s = 0 then w_add K w else K) → rb_25_195 Q t G := by
    intro G K' fr hKG eK
    unfold rb_25_195
    have TG := m_T_fr fr (by decide) (by decide) (by decide) T
    refine m_tell TG (m_N_same (fr.1 13 (by decide) (by decide)) (fr.1 14 (by decide) (by decide)) (fr.2 18 (by decide)) (fr.2 4 (by decide)) hN) hb h1 (by rw [fr.2 4 (by decide)]; exact h2) (fun J j1 j2 _ => ?_)
    rw [hw] at j1 ⊢
    refine k J (m_T_fr j2 (by decide) (by decide) (by decide) TG) ?_ j1 ⟨fun g a b => ?_, fun f a => ?_⟩
    · rw [← eK]
      exact m_K_same (fun g hg => j2.1 g (by simp; omega) (by omega)) (j2.2 4 (by decide)) (j2.2 19 (by decide)) hKG
    · simp at a
      rw [j2.1 g (by simp; omega) b, fr.1 g (by simp; omega) b]
    · simp at a
      rw [j2.2 f (by simp; omega), fr.2 f (by simp; omega)]
  unfold rb_25_190
  refine ⟨fun c => tell I K (m_fr_refl _ _ _) hK (by rw [if_neg c]), fun c => ?_⟩
  refine m_learn (d := d) (K := K) hn hK (by omega) h2 (fun G g1 g2 => tell G _ g2 g1 ?_)
  rw [if_pos c]
  unfold w_lrn
  rw [if_neg (by omega), hw]
/-- the term that make makes: its sort, its parts, the tape -/
def w_mkt (s : Int) (wa wb : Wt) (tp : List Wt) : Wt := w_mk s.toNat (wa :: wb :: [] :: (if s = 1 ∨ s = 2 ∨ s = 3 ∨ s = 7 then tp else []))
theorem m_make_e {Q : Int → sr_V → Prop} {s b a' b' : Int} (T : m_T I d nn) (hK : m_K I d K) (hN : m_N I d tl) (hP : m_P I d tp) (hb : tl.length < 44998) (ht : I 1000 4 + 1 ≤ 44999) (hsg : I 1000 5 + I 1000 3 ≤ 1400000) (hs0 : 0 ≤ s) (hs7 : s ≤ 7) (ha0 : 0 ≤ a') (ha1 : a' ≤ I 1000 4) (hb0 : 0 ≤ b') (hb1 : b' ≤ I 1000 4) (hA : 1 < s → 1 ≤ a' ∧ K (d a'.toNat)) (hA0 : s ≤ 1 → a' = 0) (hB : s = 4 ∨ s = 6 → 1 ≤ b' ∧ K (d b'.toNat)) (hB0 : s ≠ 4 → s ≠ 6 → b' = 0) (h3 : s = 3 → 0 ≤ b ∧ b ≤ 9) (h6 : s = 6 → I 6 a'.toNat = 5) (k : ∀ w J e nn' K', (s = 0 → w = w_nm nn ∧ nn' = nn + 1 ∧ K' = w_add K w) → (s ≠ 0 → w = w_mkt s (w_dz d a') (if s = 3 then [b.toNat] else w_dz d b') tp ∧ nn' = nn ∧ K' = K) → m_T J e nn' → m_K J e K' → m_N J e (w_tl tl w) → m_P J e (if s = 1 ∨ s = 2 ∨ s = 3 ∨ s = 7 then [] else tp) → (∀ u : Nat, (u : Int) ≤ I 1000 4 → e u = d u) → m_e2 I J → J 1000 0 = I 1000 0 → Q (((w_tl tl w).idxOf w : Nat) + 1) J) : rb_25_113 Q s b a' b' I := by
  have hKc := m_K_clo hK
  have hP' := hP
  obtain ⟨p1, p2, p3⟩ := hP'
  have hn := T.2.1
  have hT4 := T.1
  unfold rb_25_113
  intro I20 e20
  have E20 := m_e0_56 I 0
  rw [← e20] at E20
  have T20 := m_T_e0 E20 T
  have f4 : I20 1000 4 = I 1000 4 := E20.2 4 (by decide)
  have f5 : I20 1000 5 = I 1000 5 := E20.2 5 (by decide)
  have f3 : I20 1000 3 = I 1000 3 := E20.2 3 (by decide)
  have f56 : I20 1000 56 = 0 := by rw [e20, su_eq]
  have r20 : m_row I20 = [] := by unfold m_row; rw [f56]; rfl
  -- a term of sort s out of a row
  have term : ∀ (G : sr_V) (l : List Int) (y : Int), m_fr [55] [3, 56] I G → G 1000 56 = l.length → m_row G = l → (∀ q ∈ l, m_vs (I 1000 4) q) → (l.length : Int) ≤ I 1000 3 → l.map (w_sg d) = (if s = 1 ∨ s = 2 ∨ s = 3 ∨ s = 7 then tp else []) → (G 1000 3 = 0 ∧ (s = 1 ∨ s = 2 ∨ s = 3 ∨ s = 7) ∨ G 1000 3 = I 1000 3 ∧ ¬ (s = 1 ∨ s = 2 ∨ s = 3 ∨ s = 7)) → s ≠ 0 → (s = 3 → y = b) → (s ≠ 3 → y = b') → rm_53 s a' y 0 G (fun z I' => sw_c z → rb_25_190 Q s z I') := by
    intro G l y fr g56 gr hv hl hm g3 hs hy3 hy
    have g4 : G 1000 4 = I 1000 4 := fr.2 4 (by decide)
    have g5 : G 1000 5 = I 1000 5 := fr.2 5 (by decide)
    have TG := m_T_fr fr (by decide) (by decide) (by decide) T
    have KG : m_K G d K := m_K_same (fun g hg => fr.1 g (by simp; omega) (by omega)) g4 (fr.2 19 (by decide)) hK
    have NG : m_N G d tl := m_N_same (fr.1 13 (by decide) (by decide)) (fr.1 14 (by decide) (by decide)) (fr.2 18 (by decide)) g4 hN
    have va : m_va G (G 1000 4) s a' y 0 := by
      have g6 : G 6 = I 6 := fr.1 6 (by decide) (by decide)
      have yb : s ≠ 3 → y ≤ I 1000 4 ∧ 0 ≤ y := fun h => by rw [hy h]; exact ⟨hb1, hb0⟩
      have y3 : s = 3 → 0 ≤ y ∧ y ≤ 9 := fun h => by rw [hy3 h]; exact h3 h
      refine ⟨hs0, by omega, ha0, by omega, by omega, by omega, ?_, fun h => (y3 h).2, fun h => by rw [g4]; exact (yb h).1, fun h => ?_, fun h => ⟨(hA (by omega)).1, ?_, rfl⟩, fun h => ⟨(hA (by omega)).1, rfl⟩, fun h => ⟨(hA (by omega)).1, ?_, rfl⟩, fun h => ⟨(hA (by omega)).1, ?_, ?_⟩⟩
      · by_cases c : s = 3
        · exact (y3 c).1
        · exact (yb c).2
      · rw [hy (by omega), hB0 (by omega) (by omega)]
        exact ⟨hA0 (by omega), rfl, rfl⟩
      · rw [hy (by omega), hB0 (by omega) (by omega)]
      · rw [hy (by omega)]; exact (hB (Or.inl h)).1
      · rw [g6]; exact h6 h
      · rw [hy (by omega)]; exact (hB (Or.inr h)).1
    refine m_theTerm TG va (by omega) (by omega) (by omega) (by rw [gr]; intro q hq; rw [g4]; exact hv q hq) (by omega) (by omega) (fun t J e b1 b2 b3 b4 b5 b6 b7 b8 b9 b10 _ => ?_)
    rw [g4] at b3 b9
    rw [gr] at b6
    have ew : w_tm d s a' y 0 l = w_mkt s (w_dz d a') (if s = 3 then [b.toNat] else w_dz d b') tp := by
      unfold w_tm w_mkt
      rw [hm]
      have z0 : w_dz d 0 = [] := by unfold w_dz; rw [if_pos rfl]
      rw [z0]
      by_cases c : s = 3
      · rw [if_pos c, if_pos c, hy3 c]
      · rw [if_neg c, if_neg c, hy c]
    rw [ew] at b6
    have KJ := m_K_e1 TG KG b2 (fun u hu => b3 u (by omega))
    have NJ := m_N_e b1 (b2.1 13 (by decide) (by omega) (by decide) (by decide) (by decide)) (b2.1 14 (by decide) (by omega) (by decide) (by decide) (by decide)) (b2.2.1 18 (by decide) (by decide) (by decide) (by decide)) b2.2.2.1 (fun u hu => b3 u (by omega)) NG
    refine m_make_t (s := s) b1 KJ NJ hb b4 b5 b6 (fun J2 c1 c2 c3 c4 => ?_)
    rw [if_neg hs] at c2
    have j4 : J2 1000 4 = J 1000 4 := c4.2 4 (by decide)
    have j3 : J2 1000 3 = G 1000 3 := by rw [c4.2 3 (by decide), b2.2.1 3 (by decide) (by decide) (by decide) (by decide)]
    have j2 : J2 2 = I 2 := by rw [c4.1 2 (by decide) (by decide), b2.1 2 (by decide) (by omega) (by decide) (by decide) (by decide), fr.1 2 (by decide) (by decide)]
    have mono := b2.2.2.1
    refine k _ J2 e nn K (fun h => absurd h hs) (fun _ => ⟨rfl, rfl, rfl⟩) c1 c2 c3 ?_ b3 ⟨fun g h1 h2 h3 => ?_, fun f h1 h2 h3 h4 h5 h6 h7 => ?_, by omega, by omega, ?_⟩ ?_
    · rcases g3 with ⟨g3, hc⟩ | ⟨g3, hc⟩
      · rw [if_pos hc]
        exact ⟨by rw [j3, g3]; rfl, by simp, fun q w hq => by cases hq⟩
      · rw [if_neg hc]
        refine ⟨by rw [j3, g3, p1], p2, ?_⟩
        rw [j2]
        exact m_at_e (by omega) b3 p3
    · rw [c4.1 g (by simp; omega) h3, b2.1 g h1 (by omega) (by omega) (by omega) h3, fr.1 g (by simpa using h1) h3]
    · rw [c4.2 f (by simp; omega), b2.2.1 f h3 h4 h5 h7, fr.2 f (by simp; omega)]
    · rw [c4.2 5 (by decide)]
      omega
    · rw [c4.2 0 (by decide), b2.2.1 0 (by decide) (by decide) (by decide) (by decide), fr.2 0 (by decide)]
  have frE : m_fr [55] [3, 56] I I20 := ⟨fun g a b => E20.1 g (by simpa using a) b, fun f a => E20.2 f (by simp at a; omega)⟩
  have plain : ∀ y : Int, ¬ (s = 1 ∨ s = 2 ∨ s = 3 ∨ s = 7) → s ≠ 0 → y = b' → rm_53 s a' y 0 I20 (fun z I' => sw_c z → rb_25_190 Q s z I') := fun y hc hs hy => term I20 [] y frE (by rw [f56]; rfl) r20 (fun q hq => by cases hq) (by simp; omega) (by rw [if_neg hc]; rfl) (Or.inr ⟨f3, hc⟩) hs (fun h => by omega) (fun _ => hy)
  have taped : ∀ y : Int, (s = 1 ∨ s = 2 ∨ s = 3 ∨ s = 7) → (s = 3 → y = b) → (s ≠ 3 → y = b') → rm_113 I20 (fun z I' => sw_c z → rm_53 s a' y 0 I' (fun z I' => sw_c z → rb_25_190 Q s z I')) := by
    intro y hc hy3 hy
    refine m_take (by omega) (by omega) (fun G g1 g2 g3 g4 _ => ?_)
    obtain ⟨sm, sv⟩ := m_sl_map p3
    have frG : m_fr [55] [3, 56] I G := m_fr_trans frE g1
    rw [f3, p1, Int.toNat_natCast, E20.1 2 (by decide) (by decide)] at g4
    have ll : (m_sl (I 2) 0 tp.length).length = tp.length := by unfold m_sl; simp
    exact term G _ y frG (by rw [g3, f3, p1, ll]) g4 sv (by rw [ll]; omega) (by rw [sm, if_pos hc]) (Or.inl ⟨g2, hc⟩) (by omega) hy3 hy
  refine ⟨fun c => ?_, fun c => ?_, fun c => ?_, fun c => ?_, fun c => ?_, fun c => ?_, fun c => ?_, fun c => ?_⟩
  · have hs : s = 7 := by omega
    have := taped b' (by omega) (fun h => by omega) (fun _ => rfl)
    rw [hB0 (by omega) (by omega)] at this
    rw [hs] at this ⊢
    exact this
  · refine m_name T20 (by omega) (fun J e b1 b2 b3 b4 b5 b6 b7 b8 _ => ?_)
    rw [f4] at b3 b4 b7 ⊢
    have KJ := m_K_e1 T20 (m_K_same (fun g hg => E20.1 g (by omega) (by omega)) f4 (E20.2 19 (by decide)) hK) b2 (fun u hu => b3 u (by omega))
    have NJ := m_N_e b1 (b2.1 13 (by decide) (by omega) (by decide) (by decide) (by decide)) (b2.1 14 (by decide) (by omega) (by decide) (by decide) (by decide)) (b2.2.1 18 (by decide) (by decide) (by decide) (by decide)) b2.2.2.1 (fun u hu => b3 u (by omega)) (m_N_same (E20.1 13 (by decide) (by decide)) (E20.1 14 (by decide) (by decide)) (E20.2 18 (by decide)) f4 hN)
    refine m_make_t (s := s) b1 KJ NJ hb (by omega) (by omega) b4 (fun J2 c1 c2 c3 c4 => ?_)
    rw [if_pos c] at c2
    have j4 : J2 1000 4 = J 1000 4 := c4.2 4 (by decide)
    have j3 : J2 1000 3 = I 1000 3 := by rw [c4.2 3 (by decide), b2.2.1 3 (by decide) (by decide) (by decide) (by decide), f3]
    have j2 : J2 2 = I 2 := by rw [c4.1 2 (by decide) (by decide), b2.1 2 (by decide) (by omega) (by decide) (by decide) (by decide), E20.1 2 (by decide) (by decide)]
    refine k (w_nm nn) J2 e (nn + 1) _ (fun _ => ⟨rfl, rfl, rfl⟩) (fun h => absurd c h) c1 c2 c3 ?_ b3 ⟨fun g h1 h2 h3 => ?_, fun f h1 h2 h3 h4 h5 h6 h7 => ?_, by omega, by omega, ?_⟩ ?_
    · rw [if_neg (by omega)]
      refine ⟨by rw [j3, p1], p2, ?_⟩
      rw [j2]
      exact m_at_e (by omega) b3 p3
    · rw [c4.1 g (by simp; omega) h3, b2.1 g h1 (by omega) (by omega) (by omega) h3, E20.1 g h1 h3]
    · rw [c4.2 f (by simp; omega), b2.2.1 f h3 h4 h5 h7, E20.2 f h3]
    · rw [c4.2 5 (by decide)]
      omega
    · rw [c4.2 0 (by decide), b2.2.1 0 (by decide) (by decide) (by decide) (by decide), E20.2 0 (by decide)]
  · have := taped b' (by omega) (fun h => by omega) (fun _ => rfl)
    rw [hB0 (by omega) (by omega), hA0 (by omega)] at this
    rw [c] at this ⊢
    exact this
  · have := taped b' (by omega) (fun h => by omega) (fun _ => rfl)
    rw [hB0 (by omega) (by omega)] at this
    rw [c] at this ⊢
    exact this
  · have := taped b (by omega) (fun _ => rfl) (fun h => absurd c h)
    rw [c] at this ⊢
    exact this
  · have := plain b' (by omega) (by omega) rfl
    rw [c] at this ⊢
    exact this
  · have := plain b' (by omega) (by omega) rfl
    rw [hB0 (by omega) (by omega)] at this
    rw [c] at this ⊢
    exact this
  · have := plain b' (by omega) (by omega) rfl
    rw [c] at this ⊢
    exact this
end
end
