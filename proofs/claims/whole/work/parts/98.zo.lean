/-! ===== the reference: place, copy, take, flush, close, post ===== -/
noncomputable section
section
variable {I J : sr_V} {d e : Nat → Wt} {nn : Nat} {K : Wt → Prop} {x : Int} {tl tp : List Wt} {ms : List (List Wt)} {rd : Nat → Int}
theorem m_place {Q : Int → sr_V → Prop} (T : m_T I d nn) (hb : tl.length < 44998) (hN : m_N I d tl) (hP : m_P I d tp) (q0 : w_no tl x = none → Q 0 (su I 1000 0 1)) (q1 : ∀ w, w_no tl x = some w → tp.length = 1200 → Q (-1) (su I 1000 0 0)) (q2 : ∀ w J, w_no tl x = some w → tp.length < 1200 → J 1000 0 = 0 → m_P J d (tp ++ [w]) → m_fr [2] [0, 3] I J → Q (tp.length + 1) J) : rm_8 x I Q := by
  have hn := T.2.1
  obtain ⟨p1, p2, p3⟩ := hP
  unfold rm_8
  refine m_isTold hN (fun hno _ => ⟨fun _ => ?_, fun h => absurd rfl h⟩) (fun w t a1 a2 a3 a4 a5 a6 _ => ⟨fun h => absurd h (by decide), fun _ => ?_⟩)
  · unfold rb_8_8
    intro I2 e2 v6 e6 _
    rw [e2, su_eq] at e6
    refine ⟨fun c => by omega, fun _ => ?_⟩
    rw [e2]
    exact q0 hno
  · unfold rb_8_8
    intro I2 e2 v6 e6 _
    rw [e2, su_eq] at e6
    have fr0 := m_su0 I 0
    rw [← e2] at fr0
    have f3 : I2 1000 3 = I 1000 3 := fr0.2 3 (by decide)
    have f4 : I2 1000 4 = I 1000 4 := fr0.2 4 (by decide)
    have a22 := a2.2
    refine ⟨fun _ => ?_, fun c => by omega⟩
    intro v9 e9 _
    rw [f3, p1] at e9
    refine ⟨fun c => ?_, fun c => ?_⟩
    · intro v12 e12 _
      rw [f3, p1] at e12
      subst e12
      refine ⟨by omega, by omega, ?_⟩
      intro v15 e15 _
      rw [fr0.1 14 (by simp) (by decide), a3] at e15
      subst e15
      refine ⟨by omega, by omega, ?_⟩
      intro I19 e19 v23 e23 _
      rw [sw_w_s (z := 256 + (t : Int)) (by omega) (by omega)] at e19
      rw [e19, su_f (by decide), f3, p1] at e23
      subst e23
      intro I27 e27 v31 e31 _
      rw [sw_w_s (by omega) (by omega)] at e27
      rw [e27, su_eq] at e31
      subst e31
      have g2 : ∀ k, I27 2 k = if k = tp.length then 256 + (t : Int) else I 2 k := fun k => by
        rw [e27, su_f (by decide), e19, su_at, fr0.1 2 (by simp) (by decide)]
        by_cases ck : k = tp.length
        · rw [if_pos ⟨rfl, by omega⟩, if_pos ck]
        · rw [if_neg (fun z => ck (by omega)), if_neg ck]
      have fr : m_fr [2] [0, 3] I I27 := ⟨fun g b1 b2 => by
        simp at b1
        rw [e27, su_f b2, e19, su_f b1, fr0.1 g (by simp) b2], fun f b1 => by
        simp at b1
        rw [e27, su_k (by omega), e19, su_f (by decide), fr0.2 f (by simp; omega)]⟩
      refine q2 w I27 a1 (by omega) ?_ ⟨?_, ?_, ?_⟩ fr
      · rw [e27, su_k (by decide), e19, su_f (by decide), e2, su_eq]
      · rw [e27, su_eq]; simp
      · simp; omega
      · rw [fr.2 4 (by decide)]
        refine m_at_app p3 (fun k hk => by rw [g2, if_neg (by omega)]) (fun k w' hk => ?_)
        have hk0 : k = 0 := by
          have := (List.getElem?_eq_some_iff.mp hk).1
          simp at this
          omega
        subst hk0
        have hw : w = w' := Option.some.inj hk
        subst hw
        rw [g2, if_pos (by omega)]
        refine ⟨⟨by omega, Or.inr ⟨by have := a2.1; omega, by omega⟩⟩, ?_⟩
        unfold w_sg
        rw [if_neg (by omega), show (256 + (t : Int) - 256).toNat = t by omega, a4]
    · rw [e2]
      exact q1 w a1 (by omega)
theorem m_copy_l {Q : Int → sr_V → Prop} {m k0 n1 : Int} (hm : 0 ≤ m) (hm3 : m < 300) (h24 : 0 ≤ I 24 m.toNat) (hk : 0 ≤ k0) (ht : I 24 m.toNat + k0 + n1 ≤ 362000) (hb0 : 0 ≤ I 1000 3) (hb : I 1000 3 + n1 ≤ 1200) : ∀ (n : Nat) {x : Int} {J : sr_V}, 0 ≤ x → x ≤ n1 → (n1 - x).toNat < n → m_fr [2] [] I J → (∀ q : Nat, (q : Int) < I 1000 3 → J 2 q = I 2 q) → (∀ q : Nat, q < x.toNat → J 2 ((I 1000 3).toNat + q) = I 26 ((I 24 m.toNat).toNat + k0.toNat + q)) → (∀ G, m_fr [2] [3] I G → G 1000 3 = I 1000 3 + n1 → (∀ q : Nat, (q : Int) < I 1000 3 → G 2 q = I 2 q) → (∀ q : Nat, q < n1.toNat → G 2 ((I 1000 3).toNat + q) = I 26 ((I 24 m.toNat).toNat + k0.toNat + q)) → Q (I 1000 3 + n1) G) → rl_11_48 Q n m k0 n1 x J
  | 0, _, _, _, _, h, _, _, _, _ => by omega
  | n + 1, x, J, h0, h1, hn, fr, a1, a2, k => by
    have f3 : J 1000 3 = I 1000 3 := fr.2 3 (by simp)
    have f24 : J 24 = I 24 := fr.1 24 (by simp) (by decide)
    have f26 : J 26 = I 26 := fr.1 26 (by simp) (by decide)
    unfold rl_11_48
    refine ⟨fun c => ?_, fun c => ?_⟩
    · intro v1 e1 _ I5 e5 v9 e9 _
      rw [f3] at e1
      subst e1
      rw [sw_w_s (by omega) (by omega)] at e5
      rw [e5, su_eq] at e9
      subst e9
      have g2 : I5 2 = J 2 := by rw [e5, su_f (by decide)]
      refine k I5 ⟨fun g b1 b2 => ?_, fun f b1 => ?_⟩ (by rw [e5, su_eq]) (fun q hq => by rw [g2]; exact a1 q hq) (fun q hq => by rw [g2]; exact a2 q (by omega))
      · rw [e5, su_f b2, fr.1 g b1 b2]
      · simp at b1
        rw [e5, su_k b1, fr.2 f (by simp)]
    · intro v12 e12 _
      rw [f3] at e12
      subst e12
      refine ⟨hm, hm3, ?_⟩
      intro v15 e15 _
      rw [f24] at e15
      subst e15
      rw [sw_w_s (z := I 24 m.toNat + k0) (by omega) (by omega), sw_w_s (z := I 24 m.toNat + k0 + x) (by omega) (by omega)]
      refine ⟨by omega, by omega, ?_⟩
      intro v18 e18 _
      rw [f26, show (I 24 m.toNat + k0 + x).toNat = (I 24 m.toNat).toNat + k0.toNat + x.toNat by omega] at e18
      rw [sw_w_s (z := I 1000 3 + x) (by omega) (by omega)]
      refine ⟨by omega, by omega, ?_⟩
      intro I22 e22 y26 e26
      rw [sw_w_s (by omega) (by omega)] at e26
      subst e26
      rw [show (I 1000 3 + x).toNat = (I 1000 3).toNat + x.toNat by omega] at e22
      have g2 : ∀ q, I22 2 q = if q = (I 1000 3).toNat + x.toNat then v18 else J 2 q := fun q => by
        rw [e22, su_at]
        by_cases cq : q = (I 1000 3).toNat + x.toNat
        · rw [if_pos ⟨rfl, cq⟩, if_pos cq]
        · rw [if_neg (fun z => cq z.2), if_neg cq]
      refine m_copy_l hm hm3 h24 hk ht hb0 hb n (by omega) (by omega) (by omega) (m_fr_trans fr ⟨fun g b1 b2 => ?_, fun f _ => ?_⟩) (fun q hq => ?_) (fun q hq => ?_) k
      · simp at b1
        rw [e22, su_f b1]
      · rw [e22, su_f (by decide)]
      · rw [g2, if_neg (by omega)]
        exact a1 q hq
      · rw [g2]
        by_cases cq : q = x.toNat
        · rw [if_pos (by omega), cq, e18]
        · rw [if_neg (by omega)]
          exact a2 q (by omega)
/-- the part of a message that is copied -/
def w_cpy (l : List Wt) (k n : Int) : List Wt := (l.drop k.toNat).take n.toNat
theorem m_copy {Q : Int → sr_V → Prop} {y z : Int} (hz : sw_c z) (hP : m_P I d tp) (hM : m_M I d ms) (q0 : (∀ l, ¬ (0 ≤ x ∧ ms[x.toNat]? = some l ∧ 0 ≤ y ∧ 0 ≤ z ∧ y ≤ l.length ∧ tp.length + (w_cpy l y z).length ≤ 1200)) → Q (-1) (su I 1000 0 0)) (q1 : ∀ l J, 0 ≤ x → ms[x.toNat]? = some l → 0 ≤ y → 0 ≤ z → y ≤ l.length → tp.length + (w_cpy l y z).length ≤ 1200 → m_P J d (tp ++ w_cpy l y z) → m_fr [2] [0, 3] I J → Q ((tp ++ w_cpy l y z).length : Nat) J) : rm_11 x y z I Q := by
  unfold rm_11
  intro I2 e2
  have fr0 := m_su0 I 0
  rw [← e2] at fr0 q0
  obtain ⟨p1, p2, p3⟩ := hP
  obtain ⟨m1, m2, m3, m4, m5⟩ := hM
  have f3 : I2 1000 3 = I 1000 3 := fr0.2 3 (by decide)
  have f22 : I2 1000 22 = I 1000 22 := fr0.2 22 (by decide)
  have f25 : I2 25 = I 25 := fr0.1 25 (by simp) (by decide)
  have f24 : I2 24 = I 24 := fr0.1 24 (by simp) (by decide)
  have f26 : I2 26 = I 26 := fr0.1 26 (by simp) (by decide)
  refine ⟨fun c => q0 (fun l h => by omega), fun c => ?_⟩
  intro v46 e46 _
  rw [f22, m1] at e46
  refine ⟨fun c1 => q0 (fun l h => ?_), fun c1 => ⟨fun c2 => q0 (fun l h => by omega), fun c2 => ⟨fun c3 => q0 (fun l h => by omega), fun c3 => ⟨c, by omega, ?_⟩⟩⟩⟩
  · have := (List.getElem?_eq_some_iff.mp h.2.1).1
    omega
  · have hxl : x.toNat < ms.length := by omega
    have hl := List.getElem?_eq_getElem hxl
    generalize ms[x.toNat] = l at hl
    obtain ⟨b1, b2, b3, b4, b5⟩ := m5 x.toNat l hl
    have uniq : ∀ l', ms[x.toNat]? = some l' → l' = l := fun l' h => by rw [hl] at h; exact (Option.some.inj h).symm
    intro v49 e49 _
    rw [f25, b2] at e49
    refine ⟨fun c4 => ⟨c, by omega, ?_⟩, fun c4 => q0 (fun l' h => ?_)⟩
    · intro v52 e52 _
      rw [f25, b2] at e52
      subst e52
      rw [sw_w_s (z := (l.length : Int) - y) (by omega) (by omega)]
      have go : ∀ s : Int, s = (w_cpy l y z).length → 0 ≤ s → y + s ≤ l.length → rb_11_37 Q x y s I2 := by
        intro s es s0 sl
        unfold rb_11_37
        intro v34 e34 _
        rw [f3, p1] at e34
        subst e34
        rw [sw_w_s (by omega) (by omega)]
        refine ⟨fun c5 => ?_, fun c5 => q0 (fun l' h => ?_)⟩
        · refine ⟨_, m_copy_l (I := I2) (k0 := y) (n1 := s) c (by omega) (by rw [f24]; exact b1) c2 (by rw [f24]; omega) (by omega) (by omega) (s.toNat + 1) (x := 0) (by omega) s0 (by omega) (m_fr_refl _ _ _) (fun _ _ => rfl) (fun q hq => by omega) (fun G g1 g2 g3 g4 => ?_)⟩
          rw [f3, p1] at g2 g3 g4 ⊢
          rw [f24, f26] at g4
          have fr : m_fr [2] [0, 3] I G := ⟨fun g h1 h2 => (g1.1 g h1 h2).trans (fr0.1 g (by simp) h2), fun f h1 => by
            simp at h1
            rw [g1.2 f (by simp; omega), fr0.2 f (by simp; omega)]⟩
          have hlen : (((tp ++ w_cpy l y z).length : Nat) : Int) = tp.length + s := by
            rw [List.length_append]
            omega
          rw [← hlen]
          refine q1 l G c hl c2 c3 (by omega) (by omega) ⟨by rw [g2, hlen], by omega, ?_⟩ fr
          rw [fr.2 4 (by decide)]
          refine m_at_app p3 (fun q hq => by rw [g3 q (by omega), fr0.1 2 (by simp) (by decide)]) (fun q w hq => ?_)
          have hqs : q < s.toNat := by
            have := (List.getElem?_eq_some_iff.mp hq).1
            omega
          have e5 := g4 q hqs
          rw [Int.toNat_natCast] at e5
          rw [e5]
          have hq2 : l[y.toNat + q]? = some w := by
            unfold w_cpy at hq
            rw [List.getElem?_take] at hq
            split at hq
            · rw [List.getElem?_drop] at hq
              exact hq
            · cases hq
          have := b5 (y.toNat + q) w hq2
          rw [show (I 24 x.toNat).toNat + (y.toNat + q) = (I 24 x.toNat).toNat + y.toNat + q by omega] at this
          exact this
        · have := uniq l' h.2.1
          subst this
          omega
      have hcl : (w_cpy l y z).length = min z.toNat (l.length - y.toNat) := by
        unfold w_cpy
        rw [List.length_take, List.length_drop]
      refine ⟨fun c5 => go z (by omega) c3 (by omega), fun c5 => ⟨c, by omega, ?_⟩⟩
      intro v55 e55 _
      rw [f25, b2] at e55
      subst e55
      rw [sw_w_s (z := (l.length : Int) - y) (by omega) (by omega)]
      exact go _ (by omega) (by omega) (by omega)
    · have := uniq l' h.2.1
      subst this
      omega
/-- the tape becomes the row -/
theorem m_take_l {Q : Int → sr_V → Prop} (hb0 : 0 ≤ I 1000 3) (hb : I 1000 3 ≤ 1200) : ∀ (n : Nat) {x : Int} {J : sr_V}, 0 ≤ x → x ≤ I 1000 3 → (I 1000 3 - x).toNat < n → m_fr [55] [56] I J → (∀ q : Nat, q < x.toNat → J 55 q = I 2 q) → (∀ G, m_fr [55] [3, 56] I G → G 1000 3 = 0 → G 1000 56 = I 1000 3 → m_row G = m_sl (I 2) 0 (I 1000 3).toNat → Q (I 1000 3) G) → rl_113_5 Q n x J
  | 0, _, _, _, _, h, _, _, _ => by omega
  | n + 1, x, J, h0, h1, hn, fr, a2, k => by
    have f3 : J 1000 3 = I 1000 3 := fr.2 3 (by decide)
    unfold rl_113_5
    intro v1 e1 _
    rw [f3] at e1
    subst e1
    refine ⟨fun c => ?_, fun c => ⟨h0, by omega, ?_⟩⟩
    · intro v4 e4 _ I8 e8 I13 e13 v17 e17 _
      rw [f3] at e4
      subst e4
      rw [e13, su_k (by decide), e8, su_eq] at e17
      subst e17
      have g56 : I13 1000 56 = I 1000 3 := by rw [e13, su_k (by decide), e8, su_eq]
      have g55 : I13 55 = J 55 := by rw [e13, su_f (by decide), e8, su_f (by decide)]
      refine k I13 ⟨fun g b1 b2 => ?_, fun f b1 => ?_⟩ (by rw [e13, su_eq]) g56 ?_
      · rw [e13, su_f b2, e8, su_f b2, fr.1 g b1 b2]
      · simp at b1
        rw [e13, su_k (by omega), e8, su_k (by omega), fr.2 f (by simp; omega)]
      · unfold m_row m_sl
        rw [g56, g55]
        apply List.map_congr_left
        intro q hq
        rw [List.mem_range] at hq
        rw [Nat.zero_add]
        exact a2 q (by omega)
    · intro v20 e20 _
      rw [fr.1 2 (by simp) (by decide)] at e20
      refine ⟨h0, by omega, ?_⟩
      intro I24 e24 y28 e28
      rw [sw_w_s (by omega) (by omega)] at e28
      subst e28
      refine m_take_l hb0 hb n (by omega) (by omega) (by omega) (m_fr_trans fr ⟨fun g b1 b2 => ?_, fun f _ => ?_⟩) (fun q hq => ?_) k
      · simp at b1
        rw [e24, su_f b1]
      · rw [e24, su_f (by decide)]
      · rw [e24, su_at]
        by_cases cq : q = x.toNat
        · rw [if_pos ⟨rfl, cq⟩, cq, e20]
        · rw [if_neg (fun z => cq z.2)]
          exact a2 q (by omega)
theorem m_take {Q : Int → sr_V → Prop} (hb0 : 0 ≤ I 1000 3) (hb : I 1000 3 ≤ 1200) (k : ∀ G, m_fr [55] [3, 56] I G → G 1000 3 = 0 → G 1000 56 = I 1000 3 → m_row G = m_sl (I 2) 0 (I 1000 3).toNat → Q (I 1000 3) G) : rm_113 I Q := by
  unfold rm_113
  intro I2 e2
  have fr0 : m_fr [55] [56] I I2 := ⟨fun g _ b => by rw [e2, su_f b], fun f b => by rw [e2, su_k (by simpa using b)]⟩
  exact ⟨_, m_take_l hb0 hb ((I 1000 3).toNat + 1) (x := 0) (by omega) hb0 (by omega) fr0 (fun q hq => by omega) k⟩
theorem m_flush_l {Q : sr_V → Prop} (hr0 : 0 ≤ I 1000 56) (hr : I 1000 56 ≤ 6000) (hb0 : 0 ≤ I 1000 110) (hb : I 1000 110 + I 1000 56 ≤ 362000) : ∀ (n : Nat) {x : Int} {J : sr_V}, 0 ≤ x → x ≤ I 1000 56 → (I 1000 56 - x).toNat < n → m_fr [26] [] I J → (∀ q : Nat, J 26 q = if I 1000 110 ≤ q ∧ q < I 1000 110 + x then I 55 (q - I 1000 110).toNat else I 26 q) → (∀ G, m_fr [26] [56, 110] I G → G 1000 56 = 0 → G 1000 110 = I 1000 110 + I 1000 56 → (∀ q : Nat, G 26 q = if I 1000 110 ≤ q ∧ q < I 1000 110 + I 1000 56 then I 55 (q - I 1000 110).toNat else I 26 q) → Q G) → rl_78_2 Q n x J
  | 0, _, _, _, _, h, _, _, _ => by omega
  | n + 1, x, J, h0, h1, hn, fr, a2, k => by
    have f56 : J 1000 56 = I 1000 56 := fr.2 56 (by simp)
    have f110 : J 1000 110 = I 1000 110 := fr.2 110 (by simp)
    unfold rl_78_2
    intro v1 e1 _
    rw [f56] at e1
    subst e1
    refine ⟨fun c => ?_, fun c => ?_⟩
    · intro v4 e4 _ v7 e7 _ I11 e11 I16 e16
      rw [f110] at e4
      rw [f56] at e7
      subst e4 e7
      rw [sw_w_s (by omega) (by omega)] at e11
      have hx : x = I 1000 56 := by omega
      refine k I16 ⟨fun g b1 b2 => ?_, fun f b1 => ?_⟩ (by rw [e16, su_eq]) (by rw [e16, su_k (by decide), e11, su_eq]) (fun q => ?_)
      · rw [e16, su_f b2, e11, su_f b2, fr.1 g b1 b2]
      · simp at b1
        rw [e16, su_k (by omega), e11, su_k (by omega), fr.2 f (by simp)]
      · rw [e16, su_f (by decide), e11, su_f (by decide), a2 q, hx]
    · intro v20 e20 _
      rw [f110] at e20
      subst e20
      refine ⟨h0, by omega, ?_⟩
      intro v23 e23 _
      rw [fr.1 55 (by simp) (by decide)] at e23
      rw [sw_w_s (by omega) (by omega)]
      refine ⟨by omega, by omega, ?_⟩
      intro I27 e27 y31 e31
      rw [sw_w_s (by omega) (by omega)] at e31
      subst e31
      refine m_flush_l hr0 hr hb0 hb n (by omega) (by omega) (by omega) (m_fr_trans fr ⟨fun g b1 b2 => ?_, fun f _ => ?_⟩) (fun q => ?_) k
      · simp at b1
        rw [e27, su_f b1]
      · rw [e27, su_f (by decide)]
      · rw [e27, su_at]
        by_cases cq : q = (I 1000 110 + x).toNat
        · rw [if_pos ⟨rfl, cq⟩, if_pos (by omega), e23]
          congr 1
          omega
        · rw [if_neg (fun z => cq z.2), a2 q]
          by_cases c2 : I 1000 110 ≤ q ∧ q < I 1000 110 + x
          · rw [if_pos c2, if_pos (by omega)]
          · rw [if_neg c2, if_neg (by omega)]
theorem m_flush {Q : sr_V → Prop} (hr0 : 0 ≤ I 1000 56) (hr : I 1000 56 ≤ 6000) (hb0 : 0 ≤ I 1000 110) (hb : I 1000 110 + I 1000 56 ≤ 362000) (k : ∀ G, m_fr [26] [56, 110] I G → G 1000 56 = 0 → G 1000 110 = I 1000 110 + I 1000 56 → (∀ q : Nat, G 26 q = if I 1000 110 ≤ q ∧ q < I 1000 110 + I 1000 56 then I 55 (q - I 1000 110).toNat else I 26 q) → Q G) : rm_78 I Q :=
  ⟨_, m_flush_l hr0 hr hb0 hb ((I 1000 56).toNat + 1) (x := 0) (by omega) hr0 (by omega) (m_fr_refl _ _ _) (fun q => by rw [if_neg (by omega)]) k⟩
end
end
