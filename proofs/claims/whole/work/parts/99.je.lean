/-! ===== make, by the whole state, both sides ===== -/
noncomputable section
section
variable {I J : sr_V} {d e : Nat → Wt} {nn us : Nat} {K : Wt → Prop} {tl tp mk mm : List Wt} {rd : Nat → Int} {ms : List (List Wt)} {x : Int} {B : Nat → v_M} {w : Wt}
/-- what make changes -/
def m_mA : List Nat := [6, 7, 8, 9, 10, 11, 12, 13, 14, 15, 16, 17, 55]
def m_mF : List Nat := [0, 3, 4, 5, 18, 19, 56]
theorem m_bd_1 (b1 : mk.length + 1 ≤ 44999) (b2 : w_tot mk + 1200 ≤ 1400000) (hw : w_sz w ≤ 1200) : m_bd (w_tl mk w) := by
  unfold w_tl
  split
  · unfold m_bd; omega
  · unfold m_bd
    rw [w_tot_snoc, List.length_append, List.length_singleton]
    omega
theorem w_at_x (h4 : x = mk.length) {t : Int} (h : w_at mk t w) : 1 ≤ t ∧ t ≤ x ∧ w_d mk t.toNat = w := by
  obtain ⟨h1, h2⟩ := h
  have hl := (List.getElem?_eq_some_iff.mp h2).1
  refine ⟨h1, by omega, ?_⟩
  unfold w_d
  rw [if_neg (by omega), show t.toNat - 1 = (t - 1).toNat by omega, h2]
  rfl
theorem cm_make_e {Q : Int → sr_V → Prop} {s b a' b' : Int} (hd : d = w_d mk) (h4 : I 1000 4 = mk.length) (h5 : I 1000 5 = w_tot mk) (bd1 : mk.length + 1 ≤ 44999) (bd2 : w_tot mk + 1200 ≤ 1400000) (T : m_T I d nn) (hK : m_K I d K) (hN : m_N I d tl) (hP : m_P I d tp) (hb : tl.length < 44998) (ht : I 1000 4 + 1 ≤ 44999) (hsg : I 1000 5 + I 1000 3 ≤ 1400000) (hs0 : 0 ≤ s) (hs7 : s ≤ 7) (ha0 : 0 ≤ a') (ha1 : a' ≤ I 1000 4) (hb0 : 0 ≤ b') (hb1 : b' ≤ I 1000 4) (hA : 1 < s → 1 ≤ a' ∧ K (d a'.toNat)) (hA0 : s ≤ 1 → a' = 0) (hB : s = 4 ∨ s = 6 → 1 ≤ b' ∧ K (d b'.toNat)) (hB0 : s ≠ 4 → s ≠ 6 → b' = 0) (h3 : s = 3 → 0 ≤ b ∧ b ≤ 9) (h6 : s = 6 → I 6 a'.toNat = 5) (k : ∀ w J nn' K', (s = 0 → w = w_nm nn ∧ nn' = nn + 1 ∧ K' = w_add K w) → (s ≠ 0 → w = w_mkt s (w_dz d a') (if s = 3 then [b.toNat] else w_dz d b') tp ∧ nn' = nn ∧ K' = K) → m_L J (w_tl mk w) nn' K' (w_tl tl w) → m_P J (w_d (w_tl mk w)) (if s = 1 ∨ s = 2 ∨ s = 3 ∨ s = 7 then [] else tp) → m_fr m_mA m_mF I J → J 1000 0 = I 1000 0 → Q (((w_tl tl w).idxOf w : Nat) + 1) J) : rb_25_113 Q s b a' b' I := by
  have hKc := m_K_clo hK
  have hP' := hP
  obtain ⟨p1, p2, p3⟩ := hP'
  have hn := T.2.1
  have hT4 := T.1
  unfold rb_25_113
  intro I20 e20
  have E20 := m_e0_56 I 0
  rw [← e20] at E20
  have T20 := m_T_e0 E20 T
  have f4 : I20 1000 4 = I 1000 4 := E20.2 4 (by decide)
  have f5 : I20 1000 5 = I 1000 5 := E20.2 5 (by decide)
  have f3 : I20 1000 3 = I 1000 3 := E20.2 3 (by decide)
  have f56 : I20 1000 56 = 0 := by rw [e20, su_eq]
  have r20 : m_row I20 = [] := by unfold m_row; rw [f56]; rfl
  -- a term of sort s out of a row
  have term : ∀ (G : sr_V) (l : List Int) (y : Int), m_fr [55] [3, 56] I G → G 1000 56 = l.length → m_row G = l → (∀ q ∈ l, m_vs (I 1000 4) q) → (l.length : Int) ≤ I 1000 3 → l.map (w_sg d) = (if s = 1 ∨ s = 2 ∨ s = 3 ∨ s = 7 then tp else []) → (G 1000 3 = 0 ∧ (s = 1 ∨ s = 2 ∨ s = 3 ∨ s = 7) ∨ G 1000 3 = I 1000 3 ∧ ¬ (s = 1 ∨ s = 2 ∨ s = 3 ∨ s = 7)) → s ≠ 0 → (s = 3 → y = b) → (s ≠ 3 → y = b') → rm_53 s a' y 0 G (fun z I' => sw_c z → rb_25_190 Q s z I') := by
    intro G l y fr g56 gr hv hl hm g3 hs hy3 hy
    have g4 : G 1000 4 = I 1000 4 := fr.2 4 (by decide)
    have g5 : G 1000 5 = I 1000 5 := fr.2 5 (by decide)
    have TG := m_T_fr fr (by decide) (by decide) (by decide) T
    have KG : m_K G d K := m_K_same (fun g hg => fr.1 g (by simp; omega) (by omega)) g4 (fr.2 19 (by decide)) hK
    have NG : m_N G d tl := m_N_same (fr.1 13 (by decide) (by decide)) (fr.1 14 (by decide) (by decide)) (fr.2 18 (by decide)) g4 hN
    have va : m_va G (G 1000 4) s a' y 0 := by
      have g6 : G 6 = I 6 := fr.1 6 (by decide) (by decide)
      have yb : s ≠ 3 → y ≤ I 1000 4 ∧ 0 ≤ y := fun h => by rw [hy h]; exact ⟨hb1, hb0⟩
      have y3 : s = 3 → 0 ≤ y ∧ y ≤ 9 := fun h => by rw [hy3 h]; exact h3 h
      refine ⟨hs0, by omega, ha0, by omega, by omega, by omega, ?_, fun h => (y3 h).2, fun h => by rw [g4]; exact (yb h).1, fun h => ?_, fun h => ⟨(hA (by omega)).1, ?_, rfl⟩, fun h => ⟨(hA (by omega)).1, rfl⟩, fun h => ⟨(hA (by omega)).1, ?_, rfl⟩, fun h => ⟨(hA (by omega)).1, ?_, ?_⟩⟩
      · by_cases c : s = 3
        · exact (y3 c).1
        · exact (yb c).2
      · rw [hy (by omega), hB0 (by omega) (by omega)]
        exact ⟨hA0 (by omega), rfl, rfl⟩
      · rw [hy (by omega), hB0 (by omega) (by omega)]
      · rw [hy (by omega)]; exact (hB (Or.inl h)).1
      · rw [g6]; exact h6 h
      · rw [hy (by omega)]; exact (hB (Or.inr h)).1
    have ew : w_tm d s a' y 0 l = w_mkt s (w_dz d a') (if s = 3 then [b.toNat] else w_dz d b') tp := by
      unfold w_tm w_mkt
      rw [hm]
      have z0 : w_dz d 0 = [] := by unfold w_dz; rw [if_pos rfl]
      rw [z0]
      by_cases c : s = 3
      · rw [if_pos c, if_pos c, hy3 c]
      · rw [if_neg c, if_neg c, hy c]
    have ew2 : w_tm (w_d mk) s a' y 0 (m_row G) = w_mkt s (w_dz d a') (if s = 3 then [b.toNat] else w_dz d b') tp := by rw [gr, ← hd]; exact ew
    have sz : w_sz (w_tm (w_d mk) s a' y 0 (m_row G)) ≤ 1200 := by rw [w_sz_tm, gr]; omega
    have LG : m_L G mk nn K tl := ⟨hd ▸ TG, hd ▸ KG, hd ▸ NG, g4.trans h4, g5.trans h5⟩
    refine m_mkT LG va (by omega) (by omega) (by omega) (by rw [gr]; intro q hq; rw [g4]; exact hv q hq) (m_bd_1 bd1 bd2 sz) (fun t J LJ f1 _ hat _ _ => ?_)
    rw [ew2] at LJ hat
    obtain ⟨t1, t2, t3⟩ := w_at_x LJ.2.2.2.1 hat
    refine m_make_t (s := s) LJ.1 LJ.2.1 LJ.2.2.1 hb t1 t2 t3 (fun J2 c1 c2 c3 c4 => ?_)
    rw [if_neg hs] at c2
    have hle := w_le_tl mk (w_mkt s (w_dz d a') (if s = 3 then [b.toNat] else w_dz d b') tp)
    have ll := w_le_len hle
    have j4 : J2 1000 4 = (w_tl mk (w_mkt s (w_dz d a') (if s = 3 then [b.toNat] else w_dz d b') tp)).length := (c4.2 4 (by decide)).trans LJ.2.2.2.1
    have j3 : J2 1000 3 = G 1000 3 := by rw [c4.2 3 (by decide), f1.2 3 (by decide)]
    have j2 : J2 2 = I 2 := by rw [c4.1 2 (by decide) (by decide), f1.1 2 (by decide) (by decide), fr.1 2 (by decide) (by decide)]
    have frs : m_fr m_mA m_mF I J2 := m_fr_trans (m_fr_trans (m_fr_sub fr (by decide) (by decide)) (m_fr_sub f1 (by decide) (by decide))) (m_fr_sub c4 (by decide) (by decide))
    refine k _ J2 nn K (fun h => absurd h hs) (fun _ => ⟨rfl, rfl, rfl⟩) ⟨c1, c2, c3, j4, (c4.2 5 (by decide)).trans LJ.2.2.2.2⟩ ?_ frs ?_
    · rcases g3 with ⟨g3, hc⟩ | ⟨g3, hc⟩
      · rw [if_pos hc]
        exact ⟨by rw [j3, g3]; rfl, by simp, fun q w hq => by cases hq⟩
      · rw [if_neg hc]
        refine ⟨by rw [j3, g3, p1], p2, ?_⟩
        rw [j2]
        exact m_at_e (by omega) (fun u hu => (w_le_d hle (by omega)).trans (congrFun hd.symm u)) p3
    · rw [c4.2 0 (by decide), f1.2 0 (by decide), fr.2 0 (by decide)]
  have frE : m_fr [55] [3, 56] I I20 := ⟨fun g a b => E20.1 g (by simpa using a) b, fun f a => E20.2 f (by simp at a; omega)⟩
  have plain : ∀ y : Int, ¬ (s = 1 ∨ s = 2 ∨ s = 3 ∨ s = 7) → s ≠ 0 → y = b' → rm_53 s a' y 0 I20 (fun z I' => sw_c z → rb_25_190 Q s z I') := fun y hc hs hy => term I20 [] y frE (by rw [f56]; rfl) r20 (fun q hq => by cases hq) (by simp; omega) (by rw [if_neg hc]; rfl) (Or.inr ⟨f3, hc⟩) hs (fun h => by omega) (fun _ => hy)
  have taped : ∀ y : Int, (s = 1 ∨ s = 2 ∨ s = 3 ∨ s = 7) → (s = 3 → y = b) → (s ≠ 3 → y = b') → rm_113 I20 (fun z I' => sw_c z → rm_53 s a' y 0 I' (fun z I' => sw_c z → rb_25_190 Q s z I')) := by
    intro y hc hy3 hy
    refine m_take (by omega) (by omega) (fun G g1 g2 g3 g4 _ => ?_)
    obtain ⟨sm, sv⟩ := m_sl_map p3
    have frG : m_fr [55] [3, 56] I G := m_fr_trans frE g1
    rw [f3, p1, Int.toNat_natCast, E20.1 2 (by decide) (by decide)] at g4
    have ll : (m_sl (I 2) 0 tp.length).length = tp.length := by unfold m_sl; simp
    exact term G _ y frG (by rw [g3, f3, p1, ll]) g4 sv (by rw [ll]; omega) (by rw [sm, if_pos hc]) (Or.inl ⟨g2, hc⟩) (by omega) hy3 hy
  refine ⟨fun c => ?_, fun c => ?_, fun c => ?_, fun c => ?_, fun c => ?_, fun c => ?_, fun c => ?_, fun c => ?_⟩
  · have hs : s = 7 := by omega
    have := taped b' (by omega) (fun h => by omega) (fun _ => rfl)
    rw [hB0 (by omega) (by omega)] at this
    rw [hs] at this ⊢
    exact this
  · have L20 : m_L I20 mk nn K tl := ⟨hd ▸ T20, hd ▸ m_K_same (fun g hg => E20.1 g (by omega) (by omega)) f4 (E20.2 19 (by decide)) hK, hd ▸ m_N_same (E20.1 13 (by decide) (by decide)) (E20.1 14 (by decide) (by decide)) (E20.2 18 (by decide)) f4 hN, f4.trans h4, f5.trans h5⟩
    refine m_nameT L20 (m_bd_1 bd1 bd2 (by rw [w_sz_nm]; omega)) (fun t J LJ f1 hat _ => ?_)
    obtain ⟨t1, t2, t3⟩ := w_at_x LJ.2.2.2.1 hat
    refine m_make_t (s := s) LJ.1 LJ.2.1 LJ.2.2.1 hb t1 t2 t3 (fun J2 c1 c2 c3 c4 => ?_)
    rw [if_pos c] at c2
    have hle := w_le_tl mk (w_nm nn)
    have ll := w_le_len hle
    have j4 : J2 1000 4 = (w_tl mk (w_nm nn)).length := (c4.2 4 (by decide)).trans LJ.2.2.2.1
    have j3 : J2 1000 3 = I 1000 3 := by rw [c4.2 3 (by decide), f1.2 3 (by decide), f3]
    have j2 : J2 2 = I 2 := by rw [c4.1 2 (by decide) (by decide), f1.1 2 (by decide) (by decide), E20.1 2 (by decide) (by decide)]
    have frs : m_fr m_mA m_mF I J2 := m_fr_trans (m_fr_trans (m_fr_sub frE (by decide) (by decide)) (m_fr_sub f1 (by decide) (by decide))) (m_fr_sub c4 (by decide) (by decide))
    refine k (w_nm nn) J2 (nn + 1) _ (fun _ => ⟨rfl, rfl, rfl⟩) (fun h => absurd c h) ⟨c1, c2, c3, j4, (c4.2 5 (by decide)).trans LJ.2.2.2.2⟩ ?_ frs ?_
    · rw [if_neg (by omega)]
      refine ⟨by rw [j3, p1], p2, ?_⟩
      rw [j2]
      exact m_at_e (by omega) (fun u hu => (w_le_d hle (by omega)).trans (congrFun hd.symm u)) p3
    · rw [c4.2 0 (by decide), f1.2 0 (by decide), E20.2 0 (by decide)]
  · have := taped b' (by omega) (fun h => by omega) (fun _ => rfl)
    rw [hB0 (by omega) (by omega), hA0 (by omega)] at this
    rw [c] at this ⊢
    exact this
  · have := taped b' (by omega) (fun h => by omega) (fun _ => rfl)
    rw [hB0 (by omega) (by omega)] at this
    rw [c] at this ⊢
    exact this
  · have := taped b (by omega) (fun _ => rfl) (fun h => absurd c h)
    rw [c] at this ⊢
    exact this
  · have := plain b' (by omega) (by omega) rfl
    rw [c] at this ⊢
    exact this
  · have := plain b' (by omega) (by omega) rfl
    rw [hB0 (by omega) (by omega)] at this
    rw [c] at this ⊢
    exact this
  · have := plain b' (by omega) (by omega) rfl
    rw [c] at this ⊢
    exact this
theorem cm_make {Q : Int → sr_V → Prop} {s a b : Int} (hd : d = w_d mk) (h4 : I 1000 4 = mk.length) (h5 : I 1000 5 = w_tot mk) (bd1 : mk.length + 1 ≤ 44999) (bd2 : w_tot mk + 1200 ≤ 1400000) (T : m_T I d nn) (hK : m_K I d K) (hN : m_N I d tl) (hP : m_P I d tp) (hb : tl.length < 44998) (ht : I 1000 4 + 1 ≤ 44999) (hsg : I 1000 5 + I 1000 3 ≤ 1400000) (q1 : ∀ J, w_mk1 tl K s a b → m_K J d K → J 1000 0 = 1 → m_fr [16] [0, 19] I J → Q 0 J) (q2 : ∀ J, ¬ w_mk1 tl K s a b → w_mk2 tl tp s a → m_K J d K → J 1000 0 = 2 → m_fr [16] [0, 19] I J → Q 0 J) (k : ∀ w J nn' K', ¬ w_mk1 tl K s a b → ¬ w_mk2 tl tp s a → (s = 0 → w = w_nm nn ∧ nn' = nn + 1 ∧ K' = w_add K w) → (s ≠ 0 → w = w_mkt s (if 1 < s then w_nz tl a else []) (if s = 3 then [b.toNat] else if s = 4 ∨ s = 6 then w_nz tl b else []) tp ∧ nn' = nn ∧ K' = K) → m_L J (w_tl mk w) nn' K' (w_tl tl w) → m_P J (w_d (w_tl mk w)) (if s = 1 ∨ s = 2 ∨ s = 3 ∨ s = 7 then [] else tp) → m_fr m_mA m_mF I J → J 1000 0 = 0 → Q (((w_tl tl w).idxOf w : Nat) + 1) J) : rm_25 s a b I Q := by
  have hn := T.2.1
  have hT4 := T.1
  unfold rm_25
  refine m_infer T hK.1 hK.2.2.1 hK.2.2.2.1 (fun G hi => ?_)
  obtain ⟨kG, k19, kk⟩ := m_K_infer T hK hi
  have frG := m_infd_fr hi
  have g4 : G 1000 4 = I 1000 4 := frG.2 4 (by decide)
  have TG := m_T_fr frG (by decide) (by decide) (by decide) T
  have NG := m_N_same (frG.1 13 (by decide) (by decide)) (frG.1 14 (by decide) (by decide)) (frG.2 18 (by decide)) g4 hN
  have PG : m_P G d tp := m_P_e (frG.1 2 (by decide) (by decide)) (frG.2 3 (by decide)) (by omega) (fun _ _ => rfl) hP
  have p1 := PG.1
  -- blocks, from the last
  have b90 : ∀ z : Int, (z = 1 ∧ w_mk1 tl K s a b ∨ z = 2 ∧ ¬ w_mk1 tl K s a b ∧ w_mk2 tl tp s a ∨ z = 0 ∧ ¬ w_mk1 tl K s a b ∧ ¬ w_mk2 tl tp s a) → rb_25_90 Q s a b (if 1 < s then 1 else 0) (if s = 4 ∨ s = 6 then 1 else 0) z G := by
    intro z hz
    unfold rb_25_90
    intro I1 e1 v e _
    rw [e1, su_eq] at e
    subst e
    have fr1 := m_su0 G v
    rw [← e1] at fr1
    have z1 : I1 1000 0 = v := by rw [e1, su_eq]
    have frI : m_fr [16] [0, 19] I I1 := ⟨fun g h1 h2 => (fr1.1 g (by simp) h2).trans (frG.1 g h1 h2), fun f h1 => by
      simp at h1
      rw [fr1.2 f (by simp; omega), frG.2 f (by simp; omega)]⟩
    have K1 : m_K I1 d K := m_K_same (fun g hg => fr1.1 g (by simp) (by omega)) (fr1.2 4 (by decide)) (fr1.2 19 (by decide)) kG
    rcases hz with ⟨z0, h1⟩ | ⟨z0, h1, h2⟩ | ⟨z0, h1, h2⟩
    · refine ⟨fun h => by omega, fun _ => q1 I1 h1 K1 (by omega) frI⟩
    · refine ⟨fun h => by omega, fun _ => q2 I1 h1 h2 K1 (by omega) frI⟩
    · refine ⟨fun _ => ?_, fun h => by omega⟩
      have T1 := m_T_fr fr1 (by simp) (by decide) (by decide) TG
      have N1 := m_N_same (fr1.1 13 (by decide) (by decide)) (fr1.1 14 (by decide) (by decide)) (fr1.2 18 (by decide)) (fr1.2 4 (by decide)) NG
      have P1 : m_P I1 d tp := m_P_e (fr1.1 2 (by decide) (by decide)) (fr1.2 3 (by decide)) (by rw [fr1.2 4 (by decide)]; omega) (fun _ _ => rfl) PG
      have i4 : I1 1000 4 = I 1000 4 := frI.2 4 (by decide)
      have i5 : I1 1000 5 = I 1000 5 := frI.2 5 (by decide)
      have i3 : I1 1000 3 = I 1000 3 := frI.2 3 (by decide)
      have i14 : I1 14 = G 14 := fr1.1 14 (by simp) (by decide)
      have n1 := NG.1
      unfold w_mk1 at h1
      have hs : 0 ≤ s ∧ s ≤ 7 := by
        constructor
        · by_cases c : 0 ≤ s
          · exact c
          · exact absurd (Or.inl (by omega)) h1
        · by_cases c : s ≤ 7
          · exact c
          · exact absurd (Or.inr (Or.inl (by omega))) h1
      have hA : 1 < s → w_has tl K a := fun c => Classical.byContradiction fun hh => h1 (Or.inr (Or.inr (Or.inl ⟨c, hh⟩)))
      have hB : s = 4 ∨ s = 6 → w_has tl K b := fun c => Classical.byContradiction fun hh => h1 (Or.inr (Or.inr (Or.inr (Or.inl ⟨c, hh⟩))))
      have h3 : s = 3 → 0 ≤ b ∧ b ≤ 9 := fun c => by
        constructor
        · by_cases c2 : 0 ≤ b
          · exact c2
          · exact absurd (Or.inr (Or.inr (Or.inr (Or.inr ⟨c, Or.inl (by omega)⟩)))) h1
        · by_cases c2 : b ≤ 9
          · exact c2
          · exact absurd (Or.inr (Or.inr (Or.inr (Or.inr ⟨c, Or.inr (by omega)⟩)))) h1
      have get : ∀ y : Int, w_has tl K y → ∃ t : Nat, m_R I t ∧ G 14 y.toNat = t ∧ w_nz tl y = d t ∧ K (d t) ∧ 1 ≤ y ∧ y ≤ tl.length ∧ w_no tl y = some (d t) := by
        intro y ⟨w, hw, hk⟩
        have hy : 1 ≤ y ∧ y ≤ G 1000 18 := by
          by_cases c : 1 ≤ y ∧ y ≤ G 1000 18
          · exact c
          · rw [w_no_none NG (by omega)] at hw; cases hw
        obtain ⟨w', t, a1, a2, a3, a4⟩ := w_no_some NG hy.1 hy.2
        rw [hw] at a1
        have a1 := Option.some.inj a1
        refine ⟨t, ⟨a2.1, by have := a2.2; omega⟩, a3, ?_, by rw [a4, ← a1]; exact hk, hy.1, by omega, by rw [hw, a1, a4]⟩
        unfold w_nz
        rw [hw, a4, a1]
        rfl
      -- the rest, with the numbers of both terms
      have fin : ∀ a' b' : Int, (1 < s → ∃ t : Nat, a' = t ∧ m_R I t ∧ w_nz tl a = d t ∧ K (d t) ∧ w_no tl a = some (d t)) → (s ≤ 1 → a' = 0) → (s = 4 ∨ s = 6 → ∃ t : Nat, b' = t ∧ m_R I t ∧ w_nz tl b = d t ∧ K (d t)) → (s ≠ 4 → s ≠ 6 → b' = 0) → rb_25_113 Q s b a' b' I1 := by
        intro a' b' fa fa0 fb fb0
        have ra : 0 ≤ a' ∧ a' ≤ I 1000 4 ∧ w_dz d a' = (if 1 < s then w_nz tl a else []) ∧ (1 < s → 1 ≤ a' ∧ K (d a'.toNat)) := by
          by_cases c : 1 < s
          · obtain ⟨t, x1, x2, x3, x4, _⟩ := fa c
            have := x2.1
            have := x2.2
            rw [if_pos c, x3, x1, w_dz_pos (by omega), Int.toNat_natCast]
            exact ⟨by omega, by omega, rfl, fun _ => ⟨by omega, x4⟩⟩
          · rw [if_neg c, fa0 (by omega)]
            refine ⟨by omega, by omega, ?_, fun h => absurd h c⟩
            unfold w_dz
            rw [if_pos rfl]
        have rb : 0 ≤ b' ∧ b' ≤ I 1000 4 ∧ w_dz d b' = (if s = 4 ∨ s = 6 then w_nz tl b else []) ∧ (s = 4 ∨ s = 6 → 1 ≤ b' ∧ K (d b'.toNat)) := by
          by_cases c : s = 4 ∨ s = 6
          · obtain ⟨t, x1, x2, x3, x4⟩ := fb c
            have := x2.1
            have := x2.2
            rw [if_pos c, x3, x1, w_dz_pos (by omega), Int.toNat_natCast]
            exact ⟨by omega, by omega, rfl, fun _ => ⟨by omega, x4⟩⟩
          · rw [if_neg c, fb0 (by omega) (by omega)]
            refine ⟨by omega, by omega, ?_, fun h => absurd h c⟩
            unfold w_dz
            rw [if_pos rfl]
        refine cm_make_e hd (i4.trans h4) (i5.trans h5) bd1 bd2 T1 K1 N1 P1 hb (by omega) (by omega) hs.1 hs.2 ra.1 (by omega) rb.1 (by omega) ra.2.2.2 fa0 rb.2.2.2 fb0 h3 (fun c => ?_) (fun w J nn' K' x1 x2 x3 x6 x8 x9 => ?_)
        · obtain ⟨t, y1, y2, y3, y4, y5⟩ := fa (by omega)
          have t6 : I1 6 = I 6 := frI.1 6 (by decide) (by decide)
          rw [t6, y1, Int.toNat_natCast]
          apply (m_sort5 T y2).mpr
          unfold w_mk2 at h2
          exact Classical.byContradiction fun hh => h2 (Or.inl ⟨c, fun w hw => by rw [y5] at hw; rw [← Option.some.inj hw]; exact hh⟩)
        · rw [ra.2.2.1, rb.2.2.1] at x2
          exact k w J nn' K' h1 h2 x1 x2 x3 x6 (m_fr_trans (m_fr_sub frI (by decide) (by decide)) x8) (by rw [x9, z1, z0])
      have b104 : ∀ a' : Int, (1 < s → ∃ t : Nat, a' = t ∧ m_R I t ∧ w_nz tl a = d t ∧ K (d t) ∧ w_no tl a = some (d t)) → (s ≤ 1 → a' = 0) → rb_25_104 Q s b (if s = 4 ∨ s = 6 then 1 else 0) a' I1 := by
        intro a' fa fa0
        unfold rb_25_104
        by_cases c : s = 4 ∨ s = 6
        · rw [if_pos c]
          refine ⟨fun h => absurd h (by decide), fun _ => ?_⟩
          obtain ⟨t, x1, x2, x3, x4, x5, x6, _⟩ := get b (hB c)
          refine ⟨by omega, by omega, ?_⟩
          intro v e _
          rw [i14, x2] at e
          exact fin a' v fa fa0 (fun _ => ⟨t, e, x1, x3, x4⟩) (fun h1 h2 => by omega)
        · rw [if_neg c]
          exact ⟨fun _ => fin a' 0 fa fa0 (fun h => absurd h c) (fun _ _ => rfl), fun h => absurd rfl h⟩
      by_cases c : 1 < s
      · rw [if_pos c]
        refine ⟨fun h => absurd h (by decide), fun _ => ?_⟩
        obtain ⟨t, x1, x2, x3, x4, x5, x6, x7⟩ := get a (hA c)
        refine ⟨by omega, by omega, ?_⟩
        intro v e _
        rw [i14, x2] at e
        exact b104 v (fun _ => ⟨t, e, x1, x3, x4, x7⟩) (fun h => by omega)
      · rw [if_neg c]
        exact ⟨fun _ => b104 0 (fun h => absurd h c) (fun _ => rfl), fun h => absurd rfl h⟩
  -- the flags
  have b47 : ∀ z : Int, (z = 1 ∧ w_mk1 tl K s a b ∨ z = 0 ∧ ¬ w_mk1 tl K s a b) → rb_25_47 Q s a b (if 1 < s then 1 else 0) (if s = 4 ∨ s = 6 then 1 else 0) z G := by
    intro z hz
    have b63 : ∀ o : Int, (o = 1 ∧ (s = 1 ∨ s = 2 ∨ s = 3 ∨ s = 7) ∨ o = 0 ∧ ¬ (s = 1 ∨ s = 2 ∨ s = 3 ∨ s = 7)) → rb_25_63 Q s a b (if 1 < s then 1 else 0) (if s = 4 ∨ s = 6 then 1 else 0) z o G := by
      intro o ho
      unfold rb_25_63
      refine ⟨fun c => ?_, fun c => b90 1 (Or.inl ⟨rfl, by rcases hz with h | h; exact h.2; omega⟩)⟩
      have h1 : ¬ w_mk1 tl K s a b := by
        rcases hz with h | h
        · omega
        · exact h.2
      have b81 : (s = 6 → ∃ w, w_no tl a = some w ∧ w.head? = some 5) → rb_25_81 Q s a b (if 1 < s then 1 else 0) (if s = 4 ∨ s = 6 then 1 else 0) o G := by
        intro h6
        have no6 : ¬ (s = 6 ∧ ∀ w, w_no tl a = some w → w.head? ≠ some 5) := fun ⟨x1, x2⟩ => by
          obtain ⟨w, y1, y2⟩ := h6 x1
          exact x2 w y1 y2
        unfold rb_25_81
        refine ⟨fun c2 => b90 0 (Or.inr (Or.inr ⟨rfl, h1, fun h => ?_⟩)), fun c2 => ?_⟩
        · rcases h with h | h
          · exact no6 h
          · omega
        · intro v e _
          rw [p1] at e
          refine ⟨fun c3 => b90 0 (Or.inr (Or.inr ⟨rfl, h1, fun h => ?_⟩)), fun c3 => b90 2 (Or.inr (Or.inl ⟨rfl, h1, Or.inr ⟨by omega, by omega⟩⟩))⟩
          rcases h with h | h
          · exact no6 h
          · omega
      refine ⟨fun c2 => b81 (fun h => absurd h c2), fun c2 => ?_⟩
      have ha : w_has tl K a := by
        unfold w_mk1 at h1
        exact Classical.byContradiction fun hh => h1 (Or.inr (Or.inr (Or.inl ⟨by omega, hh⟩)))
      obtain ⟨w, hw, _⟩ := ha
      have hy : 1 ≤ a ∧ a ≤ G 1000 18 := by
        by_cases c : 1 ≤ a ∧ a ≤ G 1000 18
        · exact c
        · rw [w_no_none NG (by omega)] at hw; cases hw
      obtain ⟨w', t, a1, a2, a3, a4⟩ := w_no_some NG hy.1 hy.2
      have n1 := NG.1
      refine ⟨by omega, by omega, ?_⟩
      intro v e _
      rw [a3] at e
      subst e
      have := a2.2
      refine ⟨by omega, by omega, ?_⟩
      intro v e _
      rw [Int.toNat_natCast] at e
      refine ⟨fun c3 => b90 2 (Or.inr (Or.inl ⟨rfl, h1, Or.inl ⟨c2, fun w2 hw2 => ?_⟩⟩)), fun c3 => b81 (fun _ => ⟨w', a1, ?_⟩)⟩
      · rw [a1] at hw2
        rw [← Option.some.inj hw2, ← a4]
        exact fun hh => c3 (e.trans ((m_sort5 TG a2).mpr hh))
      · rw [← a4]
        exact (m_sort5 TG a2).mp (e.symm.trans c3)
    unfold rb_25_47
    refine ⟨fun c => b63 1 (Or.inl ⟨rfl, Or.inl c⟩), fun c => ⟨fun c2 => b63 1 (Or.inl ⟨rfl, by omega⟩), fun c2 => ⟨fun c3 => b63 1 (Or.inl ⟨rfl, by omega⟩), fun c3 => ⟨fun c4 => b63 0 (Or.inr ⟨rfl, by omega⟩), fun c4 => b63 1 (Or.inl ⟨rfl, by omega⟩)⟩⟩⟩⟩
  have b36 : 0 ≤ s → s ≤ 7 → (1 < s → w_has tl K a) → (s = 4 ∨ s = 6 → w_has tl K b) → rb_25_36 Q s a b (if 1 < s then 1 else 0) (if s = 4 ∨ s = 6 then 1 else 0) G := by
    intro s0 s7 hA hB
    have key : (s = 3 → 0 ≤ b ∧ b ≤ 9) → ¬ w_mk1 tl K s a b := by
      intro h3 h
      unfold w_mk1 at h
      rcases h with h | h | h | h | h
      · omega
      · omega
      · exact h.2 (hA h.1)
      · exact h.2 (hB h.1)
      · have := h3 h.1; omega
    unfold rb_25_36
    refine ⟨fun c => b47 0 (Or.inr ⟨rfl, key (fun h => absurd h c)⟩), fun c => ⟨fun c2 => b47 1 (Or.inl ⟨rfl, Or.inr (Or.inr (Or.inr (Or.inr ⟨c, Or.inl c2⟩)))⟩), fun c2 => ⟨fun c3 => b47 0 (Or.inr ⟨rfl, key (fun _ => ⟨c2, c3⟩)⟩), fun c3 => b47 1 (Or.inl ⟨rfl, Or.inr (Or.inr (Or.inr (Or.inr ⟨c, Or.inr c3⟩)))⟩)⟩⟩⟩
  have b30 : 0 ≤ s → s ≤ 7 → (1 < s → w_has tl K a) → rb_25_30 Q s a b (if 1 < s then 1 else 0) (if s = 4 ∨ s = 6 then 1 else 0) G := by
    intro s0 s7 hA
    unfold rb_25_30
    refine ⟨fun c => b36 s0 s7 hA (fun h => by rw [if_pos h] at c; exact absurd c (by decide)), fun c => ?_⟩
    have hc : s = 4 ∨ s = 6 := Classical.byContradiction fun hh => c (if_neg hh)
    refine m_has (K := K) (tl := tl) (d := d) (by omega) (by omega) NG kG.1 kk (fun h _ => ⟨fun _ => b47 1 (Or.inl ⟨rfl, Or.inr (Or.inr (Or.inr (Or.inl ⟨hc, h⟩)))⟩), fun h => absurd rfl h⟩) (fun h _ => ⟨fun h => absurd h (by decide), fun _ => b36 s0 s7 hA (fun _ => h)⟩)
  have b18 : rb_25_18 Q s a b (if 1 < s then 1 else 0) (if s = 4 ∨ s = 6 then 1 else 0) G := by
    unfold rb_25_18
    refine ⟨fun c => b47 1 (Or.inl ⟨rfl, Or.inl c⟩), fun c => ⟨fun c2 => b47 1 (Or.inl ⟨rfl, Or.inr (Or.inl c2)⟩), fun c2 => ⟨fun c3 => b30 c c2 (fun h => by rw [if_pos h] at c3; exact absurd c3 (by decide)), fun c3 => ?_⟩⟩⟩
    have hc : 1 < s := Classical.byContradiction fun hh => c3 (if_neg hh)
    refine m_has (K := K) (tl := tl) (d := d) (by omega) (by omega) NG kG.1 kk (fun h _ => ⟨fun _ => b47 1 (Or.inl ⟨rfl, Or.inr (Or.inr (Or.inl ⟨hc, h⟩))⟩), fun h => absurd rfl h⟩) (fun h _ => ⟨fun h => absurd h (by decide), fun _ => b30 c c2 (fun _ => h)⟩)
  have b8 : rb_25_8 Q s a b (if 1 < s then 1 else 0) G := by
    unfold rb_25_8
    refine ⟨fun c => ?_, fun c => ⟨fun c2 => ?_, fun c2 => ?_⟩⟩
    · rw [if_pos (Or.inl c)] at b18; exact b18
    · rw [if_neg (by omega : ¬ (s = 4 ∨ s = 6))] at b18; exact b18
    · rw [if_pos (Or.inr c2)] at b18; exact b18
  refine ⟨fun c => ?_, fun c => ?_⟩
  · rw [if_neg (by omega)] at b8; exact b8
  · rw [if_pos c] at b8; exact b8
theorem z_make {R : Int → sr_V → Prop} {s a b : Int} (hb : tl.length < 44998) (bd1 : mk.length + 1 ≤ 44999) (bd2 : w_tot mk + 1200 ≤ 1400000) (h : m_ZZ I mk us nn K tl tp rd ms B) (q1 : ∀ J us', w_mk1 tl K s a b → m_ZZ J mk us' nn K tl tp rd ms B → J 1000 0 = 1 → R 0 J) (q2 : ∀ J us', ¬ w_mk1 tl K s a b → w_mk2 tl tp s a → m_ZZ J mk us' nn K tl tp rd ms B → J 1000 0 = 2 → R 0 J) (k : ∀ w J us' nn' K', ¬ w_mk1 tl K s a b → ¬ w_mk2 tl tp s a → (s = 0 → w = w_nm nn ∧ nn' = nn + 1 ∧ K' = w_add K w) → (s ≠ 0 → w = w_mkt s (if 1 < s then w_nz tl a else []) (if s = 3 then [b.toNat] else if s = 4 ∨ s = 6 then w_nz tl b else []) tp ∧ nn' = nn ∧ K' = K) → m_ZZ J (w_tl mk w) us' nn' K' (w_tl tl w) (if s = 1 ∨ s = 2 ∨ s = 3 ∨ s = 7 then [] else tp) rd ms B → J 1000 0 = 0 → R (((w_tl tl w).idxOf w : Nat) + 1) J) : rm_25 s a b I R := by
  have h' := h
  obtain ⟨⟨⟨T, k1, k2, k3, k4⟩, k7, k5, k6⟩, h2, h3, _⟩ := h'
  have t3 := h2.1
  have t4 := h2.2.1
  refine cm_make rfl k3 k4 bd1 bd2 T k1 k2 h2 hb (by omega) (by omega) (fun J c hK j0 f => ?_) (fun J c c2 hK j0 f => ?_) (fun w J nn' K' c c2 w0 w1 LJ PJ f j0 => ?_)
  · obtain ⟨us', hz⟩ := m_ZZ_st (rd' := rd) (tp' := tp) (tl' := tl) (ms' := ms) h f (fun _ => hK) (by simp) (by simp) (by simp) (by simp) (by simp) (by simp) (by simp) (w_msl_refl _)
    exact q1 J us' c hz j0
  · obtain ⟨us', hz⟩ := m_ZZ_st (rd' := rd) (tp' := tp) (tl' := tl) (ms' := ms) h f (fun _ => hK) (by simp) (by simp) (by simp) (by simp) (by simp) (by simp) (by simp) (w_msl_refl _)
    exact q2 J us' c c2 hz j0
  · have hle := w_le_tl mk w
    have ll := w_le_len hle
    have e4 := LJ.2.2.2.1
    have hM : m_M J (w_d (w_tl mk w)) ms := m_M_e (f.1 24 (by decide) (by decide)) (f.1 25 (by decide) (by decide)) (f.1 26 (by decide) (by decide)) (f.2 22 (by decide)) (f.2 23 (by decide)) (by omega) (fun u hu => w_le_d hle (by omega)) k5
    have hY : m_Y J rd := fun k hk => by
      rw [f.1 1 (by decide) (by decide)]
      exact h3 k hk
    exact k w J us nn' K' c c2 w0 w1 (m_ZZ_fr h LJ PJ hY hM ((f.2 23 (by decide)).trans k6) f (by decide) hle (w_msl_refl _)) j0
end
section
variable {H G X : sw_H} {d e f : Nat → Wt} {nn : Nat} {K : Wt → Prop} {tl tp mk : List Wt} {rd : Nat → Int} {ms : List (List Wt)} {cn cs N U M : Int} {B : Nat → v_M} {P : Int → sw_H → Prop} {E : Nat → sw_H → Prop} {w : Wt}
theorem c_I_d (h : c_I H d nn K tl tp rd ms cn cs) (hf : ∀ u : Nat, (u : Int) ≤ c_n H → f u = d u) : c_I H f nn K tl tp rd ms cn cs := by
  obtain ⟨a, F, q, fl, ad, O, hP, hY, hM⟩ := h
  have c := c_ch_refl [] H
  exact ⟨c_A_d a (fun t ht => hf t ht.2), F, q, fl, ad, O, c_P_ch hP c ad (by simp) (by simp) (Int.le_refl _) hf, hY, c_M_ch hM c ad fl (by simp) (by simp) (by simp) (Int.le_refl _) hf⟩
theorem c_one_L (h : c_L H mk nn K tl) (one : c_one H (w_d mk) w G e) (he : ∀ u : Nat, (u : Int) ≤ c_n H → e u = w_d mk u) : (c_n G = (w_tl mk w).length ∧ sw_iv G 3 4 = w_tot (w_tl mk w)) ∧ ∀ u : Nat, (u : Int) ≤ c_n G → w_d (w_tl mk w) u = e u := by
  have h' := h
  obtain ⟨_, h4, h5⟩ := h'
  rcases one with ⟨⟨n1, n2⟩, ed, hu⟩ | ⟨n1, n2, hno, ew⟩
  · have hm : w ∈ mk := (c_L_mem h).mp hu
    have e1 : w_tl mk w = mk := if_pos hm
    rw [e1, ed]
    exact ⟨⟨n1.trans h4, n2.trans h5⟩, fun u _ => rfl⟩
  · have hm : ¬ w ∈ mk := fun hm => by
      obtain ⟨u, u1, u2⟩ := (c_L_mem h).mpr hm
      exact hno u u1 u2
    have e1 : w_tl mk w = mk ++ [w] := if_neg hm
    rw [e1, w_tot_snoc, List.length_append, List.length_singleton]
    refine ⟨⟨by omega, by omega⟩, fun u hu => ?_⟩
    rw [w_d_up rfl (by omega)]
    by_cases cu : u = mk.length + 1
    · rw [if_pos cu, ← ew, cu]
      congr 1
      omega
    · rw [if_neg cu, he u (by omega)]
theorem x_make {s a b : Int} (lm : c_lm cn cs N U M) (bd : c_bl mk tl N U M) (h : c_ZZ H mk nn K tl cn cs tp rd ms B) (q1 : w_mk1 tl K s a b → c_ZZ (sw_nw H 112 0 6) mk nn K tl (cn + 1) (cs + 6) tp rd ms B → c_ch [] H (sw_nw H 112 0 6) → E (sw_n H + 2) (sw_nw H 112 0 6)) (q2 : ¬ w_mk1 tl K s a b → w_mk2 tl tp s a → c_ZZ (sw_nw H 128 0 6) mk nn K tl (cn + 1) (cs + 6) tp rd ms B → c_ch [] H (sw_nw H 128 0 6) → E (sw_n H + 2) (sw_nw H 128 0 6)) (k : ∀ w G nn' K', ¬ w_mk1 tl K s a b → ¬ w_mk2 tl tp s a → (s = 0 → w = w_nm nn ∧ nn' = nn + 1 ∧ K' = w_add K w) → (s ≠ 0 → w = w_mkt s (if 1 < s then w_nz tl a else []) (if s = 3 then [b.toNat] else if s = 4 ∨ s = 6 then w_nz tl b else []) tp ∧ nn' = nn ∧ K' = K) → c_ZZ G (w_tl mk w) nn' K' (w_tl tl w) cn cs (if s = 1 ∨ s = 2 ∨ s = 3 ∨ s = 7 then [] else tp) rd ms B → c_ch [1417] H G → P (((w_tl tl w).idxOf w : Nat) + 1) G) : wm_114 2 s a b H P E := by
  have hI := c_ZZ_I h
  have hL := h.1.1.1.1
  have hp : tp.length ≤ 1200 := by
    have g := c_sg_len hI.2.2.2.2.2.2.1.1
    have := hI.2.2.2.2.2.2.1.2
    omega
  refine cc_make lm hI (c_bd_le (c_bl_bd hL bd) (by omega) (by omega) (by omega)) (fun c _ ch => q1 c (c_ZZ_throw h 112) ch) (fun c c2 _ ch => q2 c c2 (c_ZZ_throw h 128) ch) (fun w G e nn' K' c c2 w0 w1 hG he ch one => ?_)
  obtain ⟨l1, l2⟩ := c_one_L hL one he
  exact k w G nn' K' c c2 w0 w1 (c_ZZ_io h (c_I_d hG l2) l1 ch (by simp [c_io]) (w_le_tl mk w) (w_msl_refl _) (c_ZZ_K h ch (by simp [c_io]) (w_le_tl mk w))) ch
end
end
