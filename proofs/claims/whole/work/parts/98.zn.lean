/-! ===== the reference: the tape ===== -/
noncomputable section
section
variable {I J : sr_V} {d e : Nat → Wt} {nn : Nat} {K : Wt → Prop} {x : Int} {tl tp : List Wt} {ms : List (List Wt)} {rd : Nat → Int}
/-- a byte as a sign -/
def w_by (b : Int) : Wt := [1000, b.toNat]
/-- signs are laid into an array, from a place on -/
theorem m_at_app {n : Int} {d : Nat → Wt} {f g : Nat → Int} {l m : List Wt} (h : m_at n d f 0 l) (hg : ∀ k, k < l.length → g k = f k) (hm : m_at n d g l.length m) : m_at n d g 0 (l ++ m) := by
  intro k w hk
  rw [Nat.zero_add]
  by_cases c : k < l.length
  · rw [List.getElem?_append_left c] at hk
    have := h k w hk
    rw [Nat.zero_add] at this
    rw [hg k c]
    exact this
  · rw [List.getElem?_append_right (by omega)] at hk
    have := hm (k - l.length) w hk
    rw [show l.length + (k - l.length) = k by omega] at this
    exact this
/-- the bytes that feed puts ready -/
def w_rd (a b c d e : Int) (k : Nat) : Int := ((if k < 4 then a else if k < 8 then b else if k < 12 then c else if k < 16 then d else e) / (2 ^ (24 - 8 * (k % 4)) : Nat)) % 256
theorem m_byte {v : Int} (hv : sw_c v) {y : Int} (h0 : 0 ≤ y) (h1 : y < 20) : sw_byt (sw_shr v (sw_w (24 - sw_w (8 * sw_rem y 4)))) % 256 = (v / (2 ^ (24 - 8 * (y.toNat % 4)) : Nat)) % 256 := by
  rw [sw_byt_eq]
  have key : ∀ k : Fin 20, sw_rem (k.val : Int) 4 = ((k.val % 4 : Nat) : Int) := by decide +kernel
  have hy : sw_rem y 4 = ((y.toNat % 4 : Nat) : Int) := by
    have := key ⟨y.toNat, by omega⟩
    rw [show ((⟨y.toNat, by omega⟩ : Fin 20).val : Int) = y by show (y.toNat : Int) = y; omega] at this
    exact this
  rw [hy]
  have h4 : y.toNat % 4 < 4 := Nat.mod_lt _ (by decide)
  generalize y.toNat % 4 = r at *
  have hsh : sw_shr v (sw_w (24 - sw_w (8 * (r : Int)))) = v / (2 ^ (24 - 8 * r) : Nat) := by
    have : r = 0 ∨ r = 1 ∨ r = 2 ∨ r = 3 := by omega
    rcases this with e | e | e | e
    · subst e; exact sw_shr_k hv (by decide) (by decide)
    · subst e; exact sw_shr_k hv (by decide) (by decide)
    · subst e; exact sw_shr_k hv (by decide) (by decide)
    · subst e; exact sw_shr_k hv (by decide) (by decide)
  rw [hsh]
  generalize v / ((2 ^ (24 - 8 * r) : Nat) : Int) = z
  omega
theorem m_feed_l {a b c d' e' : Int} {Q : sr_V → Prop} (ha : sw_c a) (hb : sw_c b) (hc : sw_c c) (hd : sw_c d') (he : sw_c e') : ∀ (n : Nat) {x : Int} {I : sr_V}, 0 ≤ x → x ≤ 20 → (20 - x).toNat < n → (∀ k : Nat, k < x.toNat → I 1 k % 256 = w_rd a b c d' e' k) → (∀ J, (∀ k : Nat, k < 20 → J 1 k % 256 = w_rd a b c d' e' k) → m_fr [1] [] I J → Q J) → rl_4_5 Q n a b c d' e' x I
  | 0, _, _, _, _, h, _, _ => by omega
  | n + 1, x, I, h0, h1, hn, hi, k => by
    unfold rl_4_5
    have body : ∀ v : Int, x < 20 → sw_c v → v = (if x.toNat < 4 then a else if x.toNat < 8 then b else if x.toNat < 12 then c else if x.toNat < 16 then d' else e') → rb_4_29 Q (rl_4_5 Q n) a b c d' e' x v I := by
      intro v hx hv ev
      unfold rb_4_29
      refine ⟨h0, hx, ?_⟩
      intro I5 e5 y9 e9
      rw [sw_w_s (by omega) (by omega)] at e9
      subst e9
      have f1 : ∀ k, I5 1 k = if k = x.toNat then sw_byt (sw_shr v (sw_w (24 - sw_w (8 * sw_rem x 4)))) else I 1 k := fun k => by
        rw [e5, su_at]
        by_cases ck : k = x.toNat
        · rw [if_pos ⟨rfl, ck⟩, if_pos ck]
        · rw [if_neg (fun z => ck z.2), if_neg ck]
      refine m_feed_l ha hb hc hd he n (by omega) (by omega) (by omega) (fun k' hk' => ?_) (fun J j1 j2 => k J j1 (m_fr_trans ⟨fun g g1 g2 => ?_, fun f _ => ?_⟩ j2))
      · rw [f1]
        by_cases ck : k' = x.toNat
        · rw [if_pos ck, m_byte hv h0 hx, ck]
          unfold w_rd
          rw [← ev]
        · rw [if_neg ck]
          exact hi k' (by omega)
      · simp at g1
        rw [e5, su_f g1]
      · rw [e5, su_f (by decide)]
    refine ⟨fun c => k I (fun k' hk' => hi k' (by omega)) (m_fr_refl _ _ _), fun c0 => ⟨fun c1 => ⟨fun c2 => ⟨fun c3 => ⟨fun c4 => body e' c0 he ?_, fun c4 => body d' c0 hd ?_⟩, fun c3 => body c c0 hc ?_⟩, fun c2 => body b c0 hb ?_⟩, fun c1 => body a c0 ha ?_⟩⟩
    · rw [if_neg (by omega), if_neg (by omega), if_neg (by omega), if_neg (by omega)]
    · rw [if_neg (by omega), if_neg (by omega), if_neg (by omega), if_pos (by omega)]
    · rw [if_neg (by omega), if_neg (by omega), if_pos (by omega)]
    · rw [if_neg (by omega), if_pos (by omega)]
    · rw [if_pos (by omega)]
theorem m_feed {a b c d' e' : Int} {Q : sr_V → Prop} (ha : sw_c a) (hb : sw_c b) (hc : sw_c c) (hd : sw_c d') (he : sw_c e') (k : ∀ J, m_Y J (w_rd a b c d' e') → m_fr [1] [0] I J → Q J) : rm_4 a b c d' e' I Q := by
  unfold rm_4
  intro I2 e2
  have fr0 := m_su0 I 0
  rw [← e2] at fr0
  refine ⟨_, m_feed_l ha hb hc hd he 21 (by omega) (by omega) (by omega) (fun k hk => by omega) (fun J j1 j2 => k J (fun q hq => ⟨j1 q hq, ?_, ?_⟩) ⟨fun g g1 g2 => (j2.1 g g1 g2).trans (fr0.1 g (by simp) g2), fun f f1 => (j2.2 f (by simp)).trans (fr0.2 f f1)⟩)⟩
  · unfold w_rd; omega
  · unfold w_rd; omega
theorem m_end_z {Q : Int → sr_V → Prop} : ∀ (n : Nat) {x : Int} {I : sr_V}, 0 ≤ x → x ≤ 20 → (20 - x).toNat < n → (∀ k : Nat, k < x.toNat → I 1 k = 0) → (∀ J, (∀ k : Nat, k < 20 → J 1 k = 0) → m_fr [1] [] I J → Q (I 1000 3) J) → rl_6_44 Q n x I
  | 0, _, _, _, _, h, _, _ => by omega
  | n + 1, x, I, h0, h1, hn, hi, k => by
    unfold rl_6_44
    refine ⟨fun c => ?_, fun c => ⟨h0, c, ?_⟩⟩
    · intro v e _
      rw [e]
      exact k I (fun k' hk' => hi k' (by omega)) (m_fr_refl _ _ _)
    · intro I5 e5 y9 e9
      rw [sw_w_s (by omega) (by omega)] at e9
      subst e9
      have f3 : I5 1000 3 = I 1000 3 := by rw [e5, su_f (by decide)]
      refine m_end_z n (by omega) (by omega) (by omega) (fun k' hk' => ?_) (fun J j1 j2 => ?_)
      · rw [e5, su_at]
        by_cases ck : k' = x.toNat
        · rw [if_pos ⟨rfl, ck⟩]
        · rw [if_neg (fun z => ck z.2)]
          exact hi k' (by omega)
      · rw [f3]
        refine k J j1 (m_fr_trans ⟨fun g g1 g2 => ?_, fun f _ => ?_⟩ j2)
        · simp at g1
          rw [e5, su_f g1]
        · rw [e5, su_f (by decide)]
theorem m_end_l {Q : Int → sr_V → Prop} (hY : m_Y I rd) {n1 : Int} (h20 : n1 ≤ 20) (hb0 : 0 ≤ I 1000 3) (hb : I 1000 3 + n1 ≤ 1200) : ∀ (n : Nat) {x : Int} {J : sr_V}, 0 ≤ x → x ≤ n1 → (n1 - x).toNat < n → m_fr [2] [] I J → (∀ k : Nat, (k : Int) < I 1000 3 → J 2 k = I 2 k) → (∀ k : Nat, k < x.toNat → J 2 ((I 1000 3).toNat + k) = rd k) → (∀ G, m_Y G (fun _ => 0) → m_fr [1, 2] [3] I G → G 1000 3 = I 1000 3 + n1 → (∀ k : Nat, (k : Int) < I 1000 3 → G 2 k = I 2 k) → (∀ k : Nat, k < n1.toNat → G 2 ((I 1000 3).toNat + k) = rd k) → Q (I 1000 3 + n1) G) → rl_6_18 Q n n1 x J
  | 0, _, _, _, _, h, _, _, _, _ => by omega
  | n + 1, x, J, h0, h1, hn, fr, a1, a2, k => by
    have f3 : J 1000 3 = I 1000 3 := fr.2 3 (by simp)
    unfold rl_6_18
    refine ⟨fun c => ?_, fun c => ?_⟩
    · intro v14 e14 _ I18 e18
      rw [f3] at e14
      subst e14
      rw [sw_w_s (by omega) (by omega)] at e18
      have g3 : I18 1000 3 = I 1000 3 + n1 := by rw [e18, su_eq]
      refine ⟨_, m_end_z 21 (by omega) (by omega) (by omega) (fun k hk => by omega) (fun G j1 j2 => ?_)⟩
      rw [g3]
      have e2 : G 2 = J 2 := by rw [j2.1 2 (by simp) (by decide), e18, su_f (by decide)]
      refine k G (fun q hq => ⟨by rw [j1 q hq]; rfl, by simp, by simp⟩) ⟨fun g b1 b2 => ?_, fun f b1 => ?_⟩ (by rw [j2.2 3 (by simp), g3]) (fun q hq => by rw [e2]; exact a1 q hq) (fun q hq => by rw [e2]; exact a2 q (by omega))
      · simp at b1
        rw [j2.1 g (by simp; omega) b2, e18, su_f b2, fr.1 g (by simp; omega) b2]
      · simp at b1
        rw [j2.2 f (by simp), e18, su_k b1, fr.2 f (by simp)]
    · intro v25 e25 _
      rw [f3] at e25
      subst e25
      refine ⟨h0, by omega, ?_⟩
      intro v28 e28 _
      rw [sw_w_s (by omega) (by omega), sw_and_255]
      refine ⟨by omega, by omega, ?_⟩
      intro I32 e32 y36 e36
      rw [sw_w_s (by omega) (by omega)] at e36
      subst e36
      rw [fr.1 1 (by simp) (by decide)] at e28
      have hr := (hY x.toNat (by omega)).1
      rw [← e28] at hr
      rw [hr, show (I 1000 3 + x).toNat = (I 1000 3).toNat + x.toNat by omega] at e32
      have g2 : ∀ q, I32 2 q = if q = (I 1000 3).toNat + x.toNat then rd x.toNat else J 2 q := fun q => by
        rw [e32, su_at]
        by_cases cq : q = (I 1000 3).toNat + x.toNat
        · rw [if_pos ⟨rfl, cq⟩, if_pos cq]
        · rw [if_neg (fun z => cq z.2), if_neg cq]
      refine m_end_l hY h20 hb0 hb n (by omega) (by omega) (by omega) (m_fr_trans fr ⟨fun g b1 b2 => ?_, fun f _ => ?_⟩) (fun q hq => ?_) (fun q hq => ?_) k
      · simp at b1
        rw [e32, su_f b1]
      · rw [e32, su_f (by decide)]
      · rw [g2, if_neg (by omega)]
        exact a1 q hq
      · rw [g2]
        by_cases cq : q = x.toNat
        · rw [if_pos (by omega), cq]
        · rw [if_neg (by omega)]
          exact a2 q (by omega)
/-- the tape behind end -/
def w_end (tp : List Wt) (rd : Nat → Int) (n : Nat) : List Wt := tp ++ (List.range n).map (fun k => w_by (rd k))
theorem m_end {Q : Int → sr_V → Prop} (hY : m_Y I rd) (hP : m_P I d tp) (q0 : (x < 0 ∨ 20 < x ∨ 1200 < (tp.length : Int) + x) → Q (-1) (su I 1000 0 0)) (q1 : ∀ J, 0 ≤ x → x ≤ 20 → (tp.length : Int) + x ≤ 1200 → m_Y J (fun _ => 0) → m_P J d (w_end tp rd x.toNat) → m_fr [1, 2] [0, 3] I J → Q ((tp.length : Int) + x) J) : rm_6 x I Q := by
  unfold rm_6
  intro I2 e2
  have fr0 := m_su0 I 0
  rw [← e2] at fr0 q0
  obtain ⟨p1, p2, p3⟩ := hP
  have f3 : I2 1000 3 = I 1000 3 := fr0.2 3 (by decide)
  have f4 : I2 1000 4 = I 1000 4 := fr0.2 4 (by decide)
  refine ⟨fun c => q0 (Or.inl c), fun c => ⟨fun c1 => q0 (Or.inr (Or.inl c1)), fun c1 => ?_⟩⟩
  intro v e _
  rw [f3, p1] at e
  subst e
  rw [sw_w_s (by omega) (by omega)]
  refine ⟨fun c2 => ?_, fun c2 => q0 (Or.inr (Or.inr c2))⟩
  have hY2 : m_Y I2 rd := fun k hk => by rw [fr0.1 1 (by simp) (by decide)]; exact hY k hk
  refine ⟨_, m_end_l (I := I2) hY2 c1 (by omega) (by omega) (x.toNat + 1) (x := 0) (by omega) c (by omega) (m_fr_refl _ _ _) (fun _ _ => rfl) (fun k hk => by omega) (fun G g1 g2 g3 g4 g5 => ?_)⟩
  rw [f3, p1] at g3 g4 g5 ⊢
  have fr : m_fr [1, 2] [0, 3] I G := ⟨fun g b1 b2 => (g2.1 g b1 b2).trans (fr0.1 g (by simp) b2), fun f b1 => by
    simp at b1
    rw [g2.2 f (by simp; omega), fr0.2 f (by simp; omega)]⟩
  refine q1 G c c1 c2 g1 ⟨?_, ?_, ?_⟩ fr
  · rw [g3]
    unfold w_end
    simp
    omega
  · unfold w_end
    simp
    omega
  · rw [fr.2 4 (by decide)]
    unfold w_end
    refine m_at_app p3 (fun k hk => ?_) (fun k w hk => ?_)
    · rw [g4 k (by omega), fr0.1 2 (by simp) (by decide)]
    · have hkx : k < x.toNat := by
        have := (List.getElem?_eq_some_iff.mp hk).1
        simpa using this
      rw [List.getElem?_map, List.getElem?_range hkx] at hk
      have hk : w_by (rd k) = w := Option.some.inj hk
      have e5 := g5 k hkx
      rw [Int.toNat_natCast] at e5
      have hr := hY k (by omega)
      rw [e5]
      refine ⟨⟨hr.2.1, Or.inl hr.2.2⟩, ?_⟩
      rw [← hk]
      unfold w_sg
      rw [if_pos hr.2.2]
      rfl
end
end
