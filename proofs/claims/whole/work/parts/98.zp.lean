/-! ===== the reference: close, post, term ===== -/
noncomputable section
section
variable {I J : sr_V} {d e : Nat → Wt} {nn : Nat} {K : Wt → Prop} {x : Int} {tl tp : List Wt} {ms : List (List Wt)} {rd : Nat → Int}
/-- what reading a row of signs teaches -/
def w_lrs (K : Wt → Prop) (l : List Wt) : Wt → Prop := l.foldl (fun K w => if w.head? = some 1000 then K else w_add K w) K
theorem m_at_drop {n : Int} {d : Nat → Wt} {f : Nat → Int} {a : Nat} {w : Wt} {l : List Wt} (h : m_at n d f a (w :: l)) : (m_vs n (f a) ∧ w_sg d (f a) = w) ∧ m_at n d f (a + 1) l := by
  refine ⟨h 0 w rfl, fun k v hk => ?_⟩
  have := h (k + 1) v hk
  rw [show a + (k + 1) = a + 1 + k by omega] at this
  exact this
theorem w_by_head (s : Int) (d : Nat → Wt) (h : s < 256) : (w_sg d s).head? = some 1000 := by
  unfold w_sg
  rw [if_pos h]
  rfl
theorem m_close_l {Q : Int → sr_V → Prop} {mk m : Int} (hn : I 1000 4 ≤ 44999) (hhd : ∀ t, m_R I t → (d t).head? ≠ some 1000) : ∀ (l : List Wt) (n : Nat) {x : Int} {J : sr_V} {K : Wt → Prop}, 0 ≤ x → x + l.length = I 1000 110 → I 1000 110 ≤ 362000 → l.length < n → m_fr [16] [19] I J → m_K J d K → m_at (I 1000 4) d (I 26) x.toNat l → (∀ G, m_fr [16] [19, 23] I G → G 1000 23 = I 1000 110 → m_K G d (if mk = 0 then K else w_lrs K l) → Q m G) → rl_81_27 Q n mk m x J
  | _, 0, _, _, _, _, _, _, h, _, _, _, _ => by omega
  | [], n + 1, x, J, K, h0, h1, h2, hl, fr, hK, ha, k => by
    have f110 : J 1000 110 = I 1000 110 := fr.2 110 (by decide)
    simp at h1
    unfold rl_81_27
    intro v5 e5 _
    rw [f110] at e5
    refine ⟨fun _ => ?_, fun c => by omega⟩
    intro v8 e8 _ I12 e12
    rw [f110] at e8
    subst e8
    refine k I12 ⟨fun g b1 b2 => ?_, fun f b1 => ?_⟩ (by rw [e12, su_eq]) ?_
    · rw [e12, su_f b2, fr.1 g b1 b2]
    · simp at b1
      rw [e12, su_k (by omega), fr.2 f (by simp; omega)]
    · have : (if mk = 0 then K else w_lrs K []) = K := by split <;> rfl
      rw [this]
      exact m_K_same (fun g hg => by rw [e12, su_f (by omega)]) (by rw [e12, su_k (by decide)]) (by rw [e12, su_k (by decide)]) hK
  | w :: l, n + 1, x, J, K, h0, h1, h2, hl, fr, hK, ha, k => by
    have f110 : J 1000 110 = I 1000 110 := fr.2 110 (by decide)
    have f4 : J 1000 4 = I 1000 4 := fr.2 4 (by decide)
    have f26 : J 26 = I 26 := fr.1 26 (by simp) (by decide)
    obtain ⟨⟨v1, v2⟩, ha'⟩ := m_at_drop ha
    simp at h1 hl
    have next : ∀ (G : sr_V) (K' : Wt → Prop), m_fr [16] [19] I G → m_K G d K' → (if mk = 0 then K' else w_lrs K' l) = (if mk = 0 then K else w_lrs K (w :: l)) → rb_81_47 Q (rl_81_27 Q n) mk m x G := by
      intro G K' frG hKG eK
      unfold rb_81_47
      intro y ey
      rw [sw_w_s (by omega) (by omega)] at ey
      subst ey
      refine m_close_l hn hhd l n (by omega) (by omega) h2 (by omega) frG hKG (by rw [show (x + 1).toNat = x.toNat + 1 by omega]; exact ha') (fun G2 g1 g2 g3 => ?_)
      rw [eK] at g3
      exact k G2 g1 g2 g3
    unfold rl_81_27
    intro v5 e5 _
    rw [f110] at e5
    refine ⟨fun c => by omega, fun c => ⟨fun c1 => next J K fr hK (by rw [if_pos c1, if_pos c1]), fun c1 => ⟨h0, by omega, ?_⟩⟩⟩
    intro v16 e16 _
    rw [f26] at e16
    subst e16
    refine ⟨fun c2 => next J K fr hK ?_, fun c2 => ⟨h0, by omega, ?_⟩⟩
    · rw [if_neg c1, if_neg c1]
      unfold w_lrs
      rw [List.foldl_cons, if_pos (by rw [← v2]; exact w_by_head _ _ c2)]
    · intro v19 e19 _
      rw [f26] at e19
      subst e19
      unfold m_vs at v1
      rw [sw_w_s (by omega) (by omega)]
      have hw : w = d (I 26 x.toNat - 256).toNat := by
        rw [← v2]
        unfold w_sg
        rw [if_neg (by omega)]
      refine m_learn (d := d) (K := K) (by omega) hK (by omega) (by omega) (fun G g1 g2 => next G _ (m_fr_trans fr g2) g1 ?_)
      rw [if_neg c1, if_neg c1]
      unfold w_lrs
      rw [List.foldl_cons, if_neg (by rw [hw]; exact hhd _ ⟨by omega, by omega⟩)]
      unfold w_lrn
      rw [if_neg (by omega), ← hw]
/-- a message is closed: the signs that stand behind the last one -/
theorem m_close {Q : Int → sr_V → Prop} {l : List Wt} {mk : Int} (T : m_T I d nn) (hK : m_K I d K) (hM : m_M I d ms) (h3 : ms.length < 300) (hl : l.length ≤ 1200) (he : I 1000 110 = I 1000 23 + l.length) (ha : m_at (I 1000 4) d (I 26) (I 1000 23).toNat l) (k : ∀ G, m_K G d (if mk = 0 then K else w_lrs K l) → m_M G d (ms ++ [l]) → m_fr [16, 24, 25] [19, 22, 23] I G → Q ms.length G) : rm_81 mk I Q := by
  have hn := T.2.1
  obtain ⟨m1, m2, m3, m4, m5⟩ := hM
  unfold rm_81
  intro v32 e32 _ v38 e38 _ I42 e42 v46 e46 _
  rw [m1] at e32 e38
  subst e32 e38
  rw [sw_w_s (by omega) (by omega)] at e42
  rw [e42, su_k (by decide)] at e46
  subst e46
  refine ⟨by omega, by omega, ?_⟩
  intro I50 e50 v54 e54 _ v57 e57 _
  rw [e50, su_f (by decide), e42, su_k (by decide)] at e54 e57
  subst e54 e57
  refine ⟨by omega, by omega, ?_⟩
  intro I61 e61 v65 e65 _
  rw [e61, su_f (by decide), e50, su_f (by decide), e42, su_k (by decide)] at e65
  subst e65
  rw [sw_w_s (by omega) (by omega), he] at e61
  have fr : m_fr [24, 25] [22] I I61 := ⟨fun g b1 b2 => by
    simp at b1
    rw [e61, su_f (by omega), e50, su_f (by omega), e42, su_f b2], fun f b1 => by
    simp at b1
    rw [e61, su_f (by decide), e50, su_f (by decide), e42, su_k b1]⟩
  have f4 : I61 1000 4 = I 1000 4 := fr.2 4 (by decide)
  have f26 : I61 26 = I 26 := fr.1 26 (by decide) (by decide)
  have f22 : I61 1000 22 = ms.length + 1 := by rw [e61, su_f (by decide), e50, su_f (by decide), e42, su_eq]
  have g24 : ∀ i, I61 24 i = if i = ms.length then I 1000 23 else I 24 i := fun i => by
    rw [e61, su_f (by decide), e50, su_at, e42, su_f (by decide)]
    by_cases c : i = ms.length
    · rw [if_pos ⟨rfl, by omega⟩, if_pos c]
    · rw [if_neg (fun z => c (by omega)), if_neg c]
  have g25 : ∀ i, I61 25 i = if i = ms.length then (l.length : Int) else I 25 i := fun i => by
    rw [e61, su_at, e50, su_f (by decide), e42, su_f (by decide)]
    by_cases c : i = ms.length
    · rw [if_pos ⟨rfl, by omega⟩, if_pos c]
      omega
    · rw [if_neg (fun z => c (by omega)), if_neg c]
  have f110 : I61 1000 110 = I 1000 110 := fr.2 110 (by decide)
  refine ⟨_, m_close_l (I := I61) (d := d) (K := K) (by omega) (fun t ht => m_T_head T (by unfold m_R at ht ⊢; rw [f4] at ht; exact ht)) l (l.length + 1) (x := I 1000 23) m3 (by omega) (by omega) (by omega) (m_fr_refl _ _ _) (m_K_same (fun g hg => fr.1 g (by simp; omega) (by omega)) f4 (fr.2 19 (by decide)) hK) (by rw [f4, f26]; exact ha) (fun G g1 g2 g3 => ?_)⟩
  have frG : m_fr [16, 24, 25] [19, 22, 23] I G := ⟨fun g b1 b2 => by
    simp at b1
    rw [g1.1 g (by simp; omega) b2, fr.1 g (by simp; omega) b2], fun f b1 => by
    simp at b1
    rw [g1.2 f (by simp; omega), fr.2 f (by simp; omega)]⟩
  refine k G g3 ⟨?_, ?_, ?_, ?_, fun i l' hi => ?_⟩ frG
  · rw [g1.2 22 (by decide), f22]
    simp
  · simp; omega
  · omega
  · rw [g2, f110, he]
    simp
    omega
  · rw [g1.1 24 (by decide) (by decide), g1.1 25 (by decide) (by decide), g1.1 26 (by decide) (by decide), g24, g25, f26, frG.2 4 (by decide), g2, f110]
    by_cases c : i = ms.length
    · rw [c, List.getElem?_append_right (Nat.le_refl _), Nat.sub_self] at hi
      have hi : l = l' := Option.some.inj hi
      subst hi
      rw [if_pos c, if_pos c]
      exact ⟨m3, rfl, hl, by omega, ha⟩
    · have il : i < (ms ++ [l]).length := (List.getElem?_eq_some_iff.mp hi).1
      simp at il
      rw [List.getElem?_append_left (by omega)] at hi
      obtain ⟨b1, b2, b3, b4, b5⟩ := m5 i l' hi
      rw [if_neg c, if_neg c]
      exact ⟨b1, b2, b3, by omega, b5⟩
theorem m_post {Q : Int → sr_V → Prop} (T : m_T I d nn) (hK : m_K I d K) (hM : m_M I d ms) (hP : m_P I d tp) (q0 : ms.length = 300 → Q 0 (su I 1000 0 1)) (q1 : ∀ G, ms.length < 300 → G 1000 0 = 0 → m_K G d K → m_M G d (ms ++ [tp]) → m_P G d [] → m_fr [16, 24, 25, 26, 55] [0, 3, 19, 22, 23, 56, 110] I G → Q ms.length G) : rm_23 I Q := by
  have m1 := hM.1
  have m2 := hM.2.1
  have m3 := hM.2.2.1
  have m4 := hM.2.2.2.1
  obtain ⟨p1, p2, p3⟩ := hP
  unfold rm_23
  intro v39 e39 _
  rw [m1] at e39
  refine ⟨fun c => ?_, fun c => ?_⟩
  · unfold rb_23_8
    intro I2 e2 v6 e6 _
    rw [e2, su_eq] at e6
    have fr0 := m_su0 I 0
    rw [← e2] at fr0
    have h0 : I2 1000 0 = 0 := by rw [e2, su_eq]
    refine ⟨fun _ => ?_, fun h => by omega⟩
    have f3 : I2 1000 3 = I 1000 3 := fr0.2 3 (by decide)
    refine m_take (by omega) (by omega) (fun G1 g1 g2 g3 g4 _ => ?_)
    intro v16 e16 _ I20 e20
    rw [g1.2 23 (by decide), fr0.2 23 (by decide)] at e16
    subst e16
    have fr1 : m_fr [55] [0, 3, 56, 110] I I20 := ⟨fun g b1 b2 => by rw [e20, su_f b2, g1.1 g b1 b2, fr0.1 g (by simp) b2], fun f b1 => by
      simp at b1
      rw [e20, su_k (by omega), g1.2 f (by simp; omega), fr0.2 f (by simp; omega)]⟩
    have r56 : I20 1000 56 = tp.length := by rw [e20, su_k (by decide), g3, f3, p1]
    have r110 : I20 1000 110 = I 1000 23 := by rw [e20, su_eq]
    have r55 : ∀ q, q < tp.length → I20 55 q = I 2 q := fun q hq => by
      have h1 := congrArg (fun l => l[q]?) g4
      rw [f3, p1, Int.toNat_natCast] at h1
      unfold m_sl at h1
      rw [m_row_at (by omega), List.getElem?_map, List.getElem?_range hq] at h1
      have h1 : G1 55 q = I2 2 (0 + q) := Option.some.inj h1
      rw [Nat.zero_add, fr0.1 2 (by simp) (by decide)] at h1
      rw [e20, su_f (by decide)]
      exact h1
    refine m_flush (by omega) (by omega) (by omega) (by omega) (fun G2 k1 k2 k3 k4 => ?_)
    have fr2 : m_fr [26, 55] [0, 3, 56, 110] I G2 := ⟨fun g b1 b2 => by
      simp at b1
      rw [k1.1 g (by simp; omega) b2, fr1.1 g (by simp; omega) b2], fun f b1 => by
      simp at b1
      rw [k1.2 f (by simp; omega), fr1.2 f (by simp; omega)]⟩
    have T2 := m_T_fr fr2 (by decide) (by decide) (by decide) T
    have K2 := m_K_same (fun g hg => fr2.1 g (by simp; omega) (by omega)) (fr2.2 4 (by decide)) (fr2.2 19 (by decide)) hK
    have f4 : G2 1000 4 = I 1000 4 := fr2.2 4 (by decide)
    have f23 : G2 1000 23 = I 1000 23 := fr2.2 23 (by decide)
    have M2 : m_M G2 d ms := by
      obtain ⟨_, _, _, _, m5⟩ := hM
      refine ⟨by rw [fr2.2 22 (by decide)]; exact m1, m2, by omega, by omega, fun i l hi => ?_⟩
      obtain ⟨b1, b2, b3, b4, b5⟩ := m5 i l hi
      rw [fr2.1 24 (by decide) (by decide), fr2.1 25 (by decide) (by decide), f4, f23]
      refine ⟨b1, b2, b3, b4, fun q w hq => ?_⟩
      have hql := (List.getElem?_eq_some_iff.mp hq).1
      rw [k4, if_neg (by omega), fr1.1 26 (by decide) (by decide)]
      exact b5 q w hq
    refine m_close T2 K2 M2 (by omega) p2 (by omega) (fun q w hq => ?_) (fun G h1 h2 h3 _ => ?_)
    · have hql := (List.getElem?_eq_some_iff.mp hq).1
      rw [k4, if_pos (by omega), f4, show (((G2 1000 23).toNat + q : Nat) - I20 1000 110 : Int).toNat = q by omega, r55 q hql]
      have := p3 q w hq
      rw [Nat.zero_add] at this
      exact this
    · rw [if_pos rfl] at h1
      have frG : m_fr [16, 24, 25, 26, 55] [0, 3, 19, 22, 23, 56, 110] I G := ⟨fun g b1 b2 => by
        simp at b1
        rw [h3.1 g (by simp; omega) b2, fr2.1 g (by simp; omega) b2], fun f b1 => by
        simp at b1
        rw [h3.2 f (by simp; omega), fr2.2 f (by simp; omega)]⟩
      refine q1 G (by omega) ?_ h1 h2 ⟨?_, by simp, fun q w hq => by cases hq⟩ frG
      · rw [h3.2 0 (by decide), k1.2 0 (by decide), e20, su_k (by decide), g1.2 0 (by decide), h0]
      · rw [h3.2 3 (by decide), k1.2 3 (by decide), e20, su_k (by decide), g2]
        rfl
  · unfold rb_23_8
    intro I2 e2 v6 e6 _
    rw [e2, su_eq] at e6
    refine ⟨fun h => by omega, fun _ => ?_⟩
    rw [e2]
    exact q0 (by omega)
end
end
