/-! ===== the reference: the hash of a node, of a tree ===== -/
noncomputable section
/-- all made, one behind the other -/
def w_tls (mk L : List Wt) : List Wt := L.foldl w_tl mk
theorem w_tls_le : ∀ (L mk : List Wt), w_le mk (w_tls mk L)
  | [], m => w_le_refl m
  | w :: L, m => w_le_trans (w_le_tl m w) (w_tls_le L (w_tl m w))
theorem w_tls_app (mk L M : List Wt) : w_tls mk (L ++ M) = w_tls (w_tls mk L) M := List.foldl_append
/-- y, y + step .. below stop -/
def w_seq (stop step : Nat) : Nat → Nat → List Nat
  | 0, _ => []
  | n + 1, y => if stop ≤ y then [] else y :: w_seq stop step n (y + step)
/-- the nodes of the tree below x, of height h, level by level: n levels from k on -/
def w_ordk (h x : Nat) : Nat → Nat → List Nat
  | 0, _ => []
  | n + 1, k => w_seq (x + 2 ^ h) (2 ^ (k + 1)) 16 (x + 2 ^ k - 2 ^ h) ++ w_ordk h x n (k + 1)
/-- what is made for the tree hash of x -/
def w_mkh (T : w_T) (wo : Int) (x : Nat) (mk : List Wt) : List Wt := w_tls mk ((w_ordk (w_h x) x (w_h x + 1) 0).map (w_th T wo))
/-- y is x or below it -/
def w_in (x y : Nat) : Prop := x + 1 ≤ y + 2 ^ w_h x ∧ y < x + 2 ^ w_h x
theorem w_h_4 (x : Nat) : w_h x ≤ 4 := by unfold w_h; split <;> (try split) <;> (try split) <;> (try split) <;> omega
theorem w_h_mod {x k : Nat} (hx : x < 31) (hk : k ≤ 4) : w_h x = k ↔ x % 2 ^ (k + 1) = 2 ^ k - 1 := by
  have key : ∀ x : Fin 31, ∀ k : Fin 5, w_h x.val = k.val ↔ x.val % 2 ^ (k.val + 1) = 2 ^ k.val - 1 := by decide +kernel
  exact key ⟨x, hx⟩ ⟨k, by omega⟩
theorem w_kids : ∀ x : Fin 31, ∀ y : Fin 31, (x.val + 1 ≤ y.val + 2 ^ w_h x.val ∧ y.val < x.val + 2 ^ w_h x.val) → w_h y.val ≤ w_h x.val ∧ (w_h y.val ≠ 0 → (2 ^ (w_h y.val - 1) ≤ y.val ∧ y.val + 2 ^ (w_h y.val - 1) < 31 ∧ (x.val + 1 ≤ y.val - 2 ^ (w_h y.val - 1) + 2 ^ w_h x.val ∧ y.val - 2 ^ (w_h y.val - 1) < x.val + 2 ^ w_h x.val) ∧ (x.val + 1 ≤ y.val + 2 ^ (w_h y.val - 1) + 2 ^ w_h x.val ∧ y.val + 2 ^ (w_h y.val - 1) < x.val + 2 ^ w_h x.val) ∧ w_h (y.val - 2 ^ (w_h y.val - 1)) = w_h y.val - 1 ∧ w_h (y.val + 2 ^ (w_h y.val - 1)) = w_h y.val - 1)) := by decide +kernel
theorem w_th_0 (T : w_T) (wo : Int) {x : Nat} (h : w_h x = 0) : w_th T wo x = w_t 1 [] [] [] (w_nr T wo 0 x [] []) := by
  unfold w_th
  rw [h]
  rfl
theorem w_th_s (T : w_T) (wo : Int) {y : Nat} (hy : y < 31) (h : w_h y ≠ 0) : w_th T wo y = w_t 1 [] [] [] (w_nr T wo (w_h y) y (w_th T wo (y - 2 ^ (w_h y - 1))) (w_th T wo (y + 2 ^ (w_h y - 1)))) := by
  have pp : 0 < 2 ^ w_h y := Nat.two_pow_pos _
  obtain ⟨_, k⟩ := w_kids ⟨y, hy⟩ ⟨y, hy⟩ ⟨by show y + 1 ≤ y + 2 ^ w_h y; omega, by show y < y + 2 ^ w_h y; omega⟩
  obtain ⟨k1, k2, k3, k4, k5, k6⟩ := k h
  have e : w_h y = (w_h y - 1) + 1 := by omega
  show w_thh T wo (w_h y) y = _
  have k5 : w_h (y - 2 ^ (w_h y - 1)) = w_h y - 1 := k5
  have k6 : w_h (y + 2 ^ (w_h y - 1)) = w_h y - 1 := k6
  unfold w_th
  rw [k5, k6]
  conv => lhs; rw [e]
  show w_t 1 [] [] [] (w_nr T wo (w_h y - 1 + 1) y _ _) = _
  rw [← e]
section
variable {I J : sr_V} {nn : Nat} {K : Wt → Prop} {tl mk mm l : List Wt} {a b c x wo : Int} {Q : Int → sr_V → Prop} {R : sr_V → Prop} {T : w_T} {s : Nat}
/-- terms, the row and hashes alone have changed -/
def m_f2 (I J : sr_V) : Prop := m_fr [6, 7, 8, 9, 10, 11, 12, 15, 17, 55, 87] [4, 5, 19, 56] I J
theorem m_f1_f2 (h : m_f1 I J) : m_f2 I J := m_fr_sub h (by simp) (by simp)
theorem m_f0_f2 (h : m_fr [55] [56] I J) : m_f2 I J := m_fr_sub h (by simp) (by simp)
theorem m_f0_f1 (h : m_fr [55] [56] I J) : m_f1 I J := m_fr_sub h (by simp) (by simp)
theorem sw_and_c (x y : Int) : sw_c (sw_and x y) := sw_c_to _
/-- the end of hashNode -/
theorem r_hash_end {x : Nat} (hx : x < 31) (hL : m_L I mk nn K tl) (h : m_rr I mk l) (hl : l.length ≤ 6000) (bd : m_bd (w_tl mk (w_t 1 [] [] [] l))) (k : ∀ J, m_L J (w_tl mk (w_t 1 [] [] [] l)) nn K tl → w_at (w_tl mk (w_t 1 [] [] [] l)) (J 87 x) (w_t 1 [] [] [] l) → (∀ y, y ≠ x → J 87 y = I 87 y) → m_f2 I J → R J) : rb_245_138 R x I := by
  unfold rb_245_138
  refine r_hash hL h hl bd (fun t J a1 a2 a3 a4 _ => ⟨by omega, by omega, ?_⟩)
  intro I9 e9
  rw [Int.toNat_natCast] at e9
  have f : m_fr [87] [] J I9 := ⟨fun g h1 h2 => by rw [e9]; exact su_f (by simpa using h1), fun f _ => by rw [e9, su_f (by decide)]⟩
  refine k I9 (m_L_fr a1 f (by simp) (by simp) (by simp) (by simp) (by simp)) ?_ (fun y hy => ?_) (m_fr_trans (m_f1_f2 a2) (m_fr_sub f (by simp) (by simp)))
  · rw [e9, su_eq]; exact a4
  · rw [e9, su_k hy, a2.1 87 (by decide) (by decide)]
/-- the end of hashNode for a parent -/
theorem r_hash_par {y : Nat} {hl hr : Wt} (hy : y < 31) (h0 : w_h y ≠ 0) (hL : m_L I mk nn K tl) (hm : mk.length ≤ 44999) (h : m_rr I mk l) (hll : l.length < 5900) (al : w_at mk (I 87 (y - 2 ^ (w_h y - 1))) hl) (ar : w_at mk (I 87 (y + 2 ^ (w_h y - 1))) hr) (bd : m_bd (w_tl mk (w_t 1 [] [] [] (l ++ [hl, hr])))) (k : ∀ J, m_L J (w_tl mk (w_t 1 [] [] [] (l ++ [hl, hr]))) nn K tl → w_at (w_tl mk (w_t 1 [] [] [] (l ++ [hl, hr]))) (J 87 y) (w_t 1 [] [] [] (l ++ [hl, hr])) → (∀ z, z ≠ y → J 87 z = I 87 z) → m_f2 I J → R J) : rb_245_114 R y (w_h y) I := by
  have h4 := w_h_4 y
  have pp : 0 < 2 ^ w_h y := Nat.two_pow_pos _
  obtain ⟨_, kk⟩ := w_kids ⟨y, hy⟩ ⟨y, hy⟩ ⟨by show y + 1 ≤ y + 2 ^ w_h y; omega, by show y < y + 2 ^ w_h y; omega⟩
  have kk := kk h0
  have k1 : 2 ^ (w_h y - 1) ≤ y := kk.1
  have k2 : y + 2 ^ (w_h y - 1) < 31 := kk.2.1
  clear kk
  have sh : sw_shl 1 (sw_w ((w_h y : Int) - 1)) = ((2 ^ (w_h y - 1) : Nat) : Int) := by
    have key : ∀ k : Fin 5, k.val ≠ 0 → sw_shl 1 (sw_w ((k.val : Int) - 1)) = ((2 ^ (k.val - 1) : Nat) : Int) := by decide +kernel
    exact key ⟨w_h y, by omega⟩ h0
  unfold rb_245_114
  rw [sh]
  generalize 2 ^ (w_h y - 1) = p at *
  rw [sw_w_s (z := (y : Int) - (p : Int)) (by omega) (by omega), sw_w_s (z := (y : Int) + (p : Int)) (by omega) (by omega), show (y : Int) - (p : Int) = ((y - p : Nat) : Int) by omega, show (y : Int) + (p : Int) = ((y + p : Nat) : Int) by omega]
  refine ⟨by omega, by omega, ?_⟩
  intro v13 e13 _
  rw [Int.toNat_natCast] at e13
  subst e13
  refine r_term h (by omega) hm al (fun J1 r1 f1 => ⟨by omega, by omega, ?_⟩)
  intro v23 e23 _
  rw [Int.toNat_natCast, f1.1 87 (by decide) (by decide)] at e23
  subst e23
  refine r_term r1 (by rw [List.length_append, List.length_singleton]; omega) hm ar (fun J2 r2 f2 => ?_)
  have f12 := m_fr_trans f1 f2
  rw [List.append_assoc, List.singleton_append] at r2
  refine r_hash_end hy (m_f0_L hL f12) r2 (by simp; omega) bd (fun J a1 a2 a3 a4 => k J a1 a2 (fun z hz => ?_) (m_fr_trans (m_f0_f2 f12) a4))
  rw [a3 z hz, f12.1 87 (by decide) (by decide)]
theorem r_set_l {y : Nat} {z : Int} (hz : sw_c z) (q : ∀ J, m_rr J mk (l ++ (List.range 16).flatMap (fun i => if w_bit z i = 1 then w_b16 i else [])) → m_fr [55] [56] I J → rb_245_114 R y (w_h y) J) (hl : l.length < 5900) : ∀ (n k : Nat) {G : sr_V}, k ≤ 16 → 16 - k < n → m_fr [55] [56] I G → m_rr G mk (l ++ (List.range k).flatMap (fun i => if w_bit z i = 1 then w_b16 i else [])) → rl_245_99 R n y (w_h y) z k G
  | 0, _, _, _, h, _, _ => by omega
  | n + 1, k, G, hk, hn, fr, row => by
    have ln : ((List.range k).flatMap (fun i => if w_bit z i = 1 then w_b16 i else [])).length ≤ 2 * k := by
      have key : ∀ k : Nat, ((List.range k).flatMap (fun i => if w_bit z i = 1 then w_b16 i else [])).length ≤ 2 * k := by
        intro k
        induction k with
        | zero => simp
        | succ k ih =>
          rw [List.range_succ, List.flatMap_append, List.length_append]
          have : ((List.flatMap (fun i : Nat => if w_bit z i = 1 then w_b16 i else []) [k])).length ≤ 2 := by
            simp
            split <;> simp [w_b16]
          omega
      exact key k
    have snoc : (List.range (k + 1)).flatMap (fun i => if w_bit z i = 1 then w_b16 i else []) = (List.range k).flatMap (fun i => if w_bit z i = 1 then w_b16 i else []) ++ (if w_bit z k = 1 then w_b16 k else []) := by
      rw [List.range_succ, List.flatMap_append]
      simp
    unfold rl_245_99
    refine ⟨fun c => ?_, fun c => ⟨fun c1 => ?_, fun c1 => ?_⟩⟩
    · have e : k = 16 := by omega
      rw [e] at row
      exact q G row fr
    · rw [sw_bit hz (by omega)] at c1
      unfold rb_245_112
      intro y33 e33
      rw [sw_w_s (by omega) (by omega)] at e33
      rw [e33, show (k : Int) + 1 = ((k + 1 : Nat) : Int) by omega]
      refine r_set_l hz q hl n (k + 1) (by omega) (by omega) fr ?_
      rw [snoc, if_neg c1, List.append_nil]
      exact row
    · rw [sw_bit hz (by omega)] at c1
      refine r_b16 (by unfold sw_c; omega) row (by rw [List.length_append]; omega) (fun J r f => ?_)
      unfold rb_245_112
      intro y33 e33
      rw [sw_w_s (by omega) (by omega)] at e33
      rw [e33, show (k : Int) + 1 = ((k + 1 : Nat) : Int) by omega]
      refine r_set_l hz q hl n (k + 1) (by omega) (by omega) (m_fr_trans fr f) ?_
      rw [snoc, if_pos c1, ← List.append_assoc]
      exact r
theorem r_hashNode {y : Nat} (hs : s < 49) (hL : m_L I mk nn K tl) (hm : mk.length ≤ 44999) (ht : m_tr I mk s T) (hy : y < t_w T) (hwo : sw_c wo) (kids : w_h y ≠ 0 → w_at mk (I 87 (y - 2 ^ (w_h y - 1))) (w_th T wo (y - 2 ^ (w_h y - 1))) ∧ w_at mk (I 87 (y + 2 ^ (w_h y - 1))) (w_th T wo (y + 2 ^ (w_h y - 1)))) (bd : m_bd (w_tl mk (w_th T wo y))) (k : ∀ J, m_L J (w_tl mk (w_th T wo y)) nn K tl → w_at (w_tl mk (w_th T wo y)) (J 87 y) (w_th T wo y) → (∀ z, z ≠ y → J 87 z = I 87 z) → m_f2 I J → R J) : rm_245 s y wo I R := by
  have w31 := t_w31 ht.1.1
  have hy31 : y < 31 := by omega
  obtain ⟨a1, a2, a3, a4⟩ := ht.2.2.1 y hy
  have um := ht.1.2.1 y hy
  have sp : sw_w ((sw_w (31 * (s : Int))) + (y : Int)) = ((31 * s + y : Nat) : Int) := by
    rw [sw_w_s (z := 31 * (s : Int)) (by omega) (by omega), sw_w_s (by omega) (by omega)]
    omega
  unfold rm_245
  unfold rm_67
  intro _
  rw [sp]
  refine r_height hy31 (fun _ => ?_)
  intro I1 e1
  have E0 := m_e0_56 I 0
  rw [← e1] at E0
  have f0 := m_e0_fr E0
  have L1 := m_L_e0 hL E0
  have r0 : m_rr I1 mk [] := m_rr_0 (by rw [e1, su_eq])
  have h87 : I1 87 = I 87 := f0.1 87 (by decide) (by decide)
  have g : ∀ G, m_fr [55] [56] I G → ∀ f, f ≠ 55 → f ≠ 1000 → G f = I f := fun G fr f h1 h2 => fr.1 f (by simpa using h1) h2
  refine ⟨fun c0 => ?_, fun c0 => ⟨by omega, by omega, ?_⟩⟩
  · have h0 : w_h y ≠ 0 := by omega
    have odd : ¬ y % 2 = 0 := fun e => h0 (by unfold w_h; rw [if_pos e])
    obtain ⟨kl, kr⟩ := kids h0
    rw [w_th_s T wo hy31 h0] at bd k
    unfold w_nr at bd k
    rw [if_neg h0] at bd k
    refine r_b8 r0 (by simp) (fun J2 r2 f2 => ⟨by omega, by omega, ?_⟩)
    have f02 := m_fr_trans f0 f2
    intro v166 e166 _
    rw [Int.toNat_natCast, g J2 f02 36 (by decide) (by decide), a1] at e166
    -- from kind on
    have two : ∀ (kd : Int), (kd = if t_ky T y = [] then 0 else 1) → rb_245_64 R y wo ((31 * s + y : Nat) : Int) (w_h y) kd J2 := by
      intro kd ekd
      have kd01 : kd = 0 ∨ kd = 1 := by rw [ekd]; split <;> omega
      unfold rb_245_64
      refine r_b8 r2 (by simp) (fun J3 r3 f3 => ⟨by omega, by omega, ?_⟩)
      have f03 := m_fr_trans f02 f3
      rw [show kd % 256 = kd by omega] at r3
      intro v53 e53 _
      rw [Int.toNat_natCast, g J3 f03 36 (by decide) (by decide), a1] at e53
      refine ⟨fun c => ?_, fun c => ⟨by omega, by omega, ?_⟩⟩
      · have kb : t_ky T y = [] := by
          by_cases hk : t_ky T y = []
          · exact hk
          · rw [if_neg hk, if_neg odd] at e53; omega
        rw [if_pos kb] at ekd
        rw [if_pos kb] at bd k
        rw [ekd] at r3
        have := r_hash_par (R := R) hy31 h0 (m_f0_L hL f03) hm r3 (by simp) (by rw [g J3 f03 87 (by decide) (by decide)]; exact kl) (by rw [g J3 f03 87 (by decide) (by decide)]; exact kr) bd (fun J b1 b2 b3 b4 => k J b1 b2 (fun z hz => by rw [b3 z hz, g J3 f03 87 (by decide) (by decide)]) (m_fr_trans (m_f0_f2 f03) b4))
        exact this
      · have kb : t_ky T y ≠ [] := fun hk => by
          rw [if_pos hk] at e53; exact c e53
        rw [if_neg kb] at ekd
        rw [if_neg kb] at bd k
        rw [ekd] at r3
        intro v56 e56 _
        rw [Int.toNat_natCast, g J3 f03 37 (by decide) (by decide)] at e56
        subst e56
        refine r_term r3 (by simp) hm (w_az_ne a2 kb) (fun J4 r4 f4 => ⟨by omega, by omega, ?_⟩)
        have f04 := m_fr_trans f03 f4
        intro v66 e66 _
        rw [Int.toNat_natCast, g J4 f04 38 (by decide) (by decide)] at e66
        subst e66
        refine r_perhaps (m_f0_L hL f04) r4 (by simp) hm a3 (fun J5 r5 f5 => ⟨by omega, by omega, ?_⟩)
        have f05 := m_fr_trans f04 f5
        intro v76 e76 _
        rw [Int.toNat_natCast, g J5 f05 39 (by decide) (by decide), a4] at e76
        subst e76
        intro y79 e79
        have hz : sw_c y79 := by rw [e79]; exact sw_and_c _ _
        refine r_ones hz (fun _ => ?_)
        have ob := w_ones_b y79
        rw [sw_w_s (by omega) (by omega)]
        refine r_b16 (by unfold sw_c; omega) r5 (by simp) (fun J6 r6 f6 => ?_)
        have f06 := m_fr_trans f05 f6
        have r6' : m_rr J6 mk (w_by 2 :: w_by 1 :: t_ky T y :: w_pb (t_ph T y) :: w_b16 (2 * w_ones y79)) := r6
        refine ⟨17, r_set_l (I := J6) (l := w_by 2 :: w_by 1 :: t_ky T y :: w_pb (t_ph T y) :: w_b16 (2 * w_ones y79)) hz (fun J7 r7 f7 => ?_) (by show 6 < 5900; decide) 17 0 (by omega) (by omega) (m_fr_refl _ _ _) (by
          rw [show (List.range 0).flatMap (fun i : Nat => if w_bit y79 i = 1 then w_b16 i else []) = ([] : List Wt) from rfl, List.append_nil]
          exact r6')⟩
        have f07 := m_fr_trans f06 f7
        have hl7 : (w_by 2 :: w_by 1 :: t_ky T y :: w_pb (t_ph T y) :: w_b16 (2 * w_ones y79)) ++ (List.range 16).flatMap (fun i : Nat => if w_bit y79 i = 1 then w_b16 i else []) = w_by 2 :: (w_by 1 :: t_ky T y :: w_pb (t_ph T y) :: w_set (sw_and (t_um T y) (sw_xor wo (-1)))) := by
          unfold w_set
          rw [← e79]
          rfl
        rw [hl7] at r7
        have ln7 : (w_by 2 :: (w_by 1 :: t_ky T y :: w_pb (t_ph T y) :: w_set (sw_and (t_um T y) (sw_xor wo (-1))))).length < 5900 := by
          have hs : (w_set (sw_and (t_um T y) (sw_xor wo (-1)))).length ≤ 40 := by
            unfold w_set
            rw [List.length_append]
            have key : ∀ (z : Int) (k : Nat), ((List.range k).flatMap (fun i => if w_bit z i = 1 then w_b16 i else [])).length ≤ 2 * k := by
              intro z k
              induction k with
              | zero => simp
              | succ k ih =>
                rw [List.range_succ, List.flatMap_append, List.length_append]
                have : ((List.flatMap (fun i : Nat => if w_bit z i = 1 then w_b16 i else []) [k])).length ≤ 2 := by
                  simp
                  split <;> simp [w_b16]
                omega
            have := key (sw_and (t_um T y) (sw_xor wo (-1))) 16
            have h2 : (w_b16 (2 * w_ones (sw_and (t_um T y) (sw_xor wo (-1))))).length = 2 := rfl
            omega
          simp
          omega
        exact r_hash_par (R := R) hy31 h0 (m_f0_L hL f07) hm r7 ln7 (by rw [g J7 f07 87 (by decide) (by decide)]; exact kl) (by rw [g J7 f07 87 (by decide) (by decide)]; exact kr) bd (fun J b1 b2 b3 b4 => k J b1 b2 (fun z hz => by rw [b3 z hz, g J7 f07 87 (by decide) (by decide)]) (m_fr_trans (m_f0_f2 f07) b4))
    refine ⟨fun c => two 1 ?_, fun c => two 0 ?_⟩
    · have kb : t_ky T y ≠ [] := fun hk => by rw [if_pos hk] at e166; exact c e166
      rw [if_neg kb]
    · have kb : t_ky T y = [] := by
        by_cases hk : t_ky T y = []
        · exact hk
        · rw [if_neg hk, if_neg odd] at e166; omega
      rw [if_pos kb]
  · have h0 : w_h y = 0 := by omega
    have ev : y % 2 = 0 := by
      unfold w_h at h0
      by_cases e : y % 2 = 0
      · exact e
      · rw [if_neg e] at h0
        split at h0
        · omega
        · split at h0
          · omega
          · split at h0 <;> omega
    have e2k : y = 2 * (y / 2) := by omega
    rw [w_th_0 T wo h0] at bd k
    unfold w_nr at bd k
    rw [if_pos rfl] at bd k
    have dv : sw_div (y : Int) 2 = ((y / 2 : Nat) : Int) := by
      have key : ∀ y : Fin 31, sw_div (y.val : Int) 2 = ((y.val / 2 : Nat) : Int) := by decide +kernel
      exact key ⟨y, hy31⟩
    intro v170 e170 _
    rw [Int.toNat_natCast, g I1 f0 36 (by decide) (by decide), a1] at e170
    have two : ∀ (z : Int), (z = if t_ky T y ≠ [] ∧ w_bit wo (y / 2) = 0 then 1 else 0) → rb_245_30 R y ((31 * s + y : Nat) : Int) z I1 := by
      intro z ez
      unfold rb_245_30
      rw [dv]
      refine r_b8 r0 (by simp) (fun J2 r2 f2 => ?_)
      refine r_b16 (by unfold sw_c; omega) r2 (by simp) (fun J3 r3 f3 => ?_)
      have f03 := m_fr_trans f0 (m_fr_trans f2 f3)
      have tail : ∀ u : Int, (u = 0 ∨ u = 1) → u = z → rb_245_45 R y ((31 * s + y : Nat) : Int) z u J3 := by
        intro u hu euz
        unfold rb_245_45
        refine r_b8 r3 (by simp [w_b16]) (fun J4 r4 f4 => ?_)
        have f04 := m_fr_trans f03 f4
        rw [show u % 256 = u by omega, euz] at r4
        refine ⟨fun c => ?_, fun c => ?_⟩
        · have ni : ¬ (t_ky T y ≠ [] ∧ w_bit wo (y / 2) = 0) := fun h => by rw [if_pos h] at ez; omega
          rw [if_neg ni] at bd k
          rw [c] at r4
          refine r_hash_end hy31 (m_f0_L hL f04) r4 (by simp [w_b16]) bd (fun J b1 b2 b3 b4 => k J b1 b2 (fun z hz => by rw [b3 z hz, g J4 f04 87 (by decide) (by decide)]) (m_fr_trans (m_f0_f2 f04) b4))
        · have is : t_ky T y ≠ [] ∧ w_bit wo (y / 2) = 0 := by
            by_cases h : t_ky T y ≠ [] ∧ w_bit wo (y / 2) = 0
            · exact h
            · rw [if_neg h] at ez; omega
          rw [if_pos is] at bd k
          have z1 : z = 1 := by rw [ez, if_pos is]
          rw [z1] at r4
          rw [show (31 * s + y : Nat) = 31 * s + 2 * (y / 2) by omega]
          refine r_rowLeaf hs (m_f0_L hL f04) hm (m_tr_fr ht f04 (by simp)) (by omega) (by rw [← e2k]; exact is.1) r4 (by simp [w_b16]) (fun J5 r5 f5 => ?_)
          have f05 := m_fr_trans f04 f5
          have hl5 : [] ++ [w_by (1 % 256)] ++ w_b16 ((y / 2 : Nat) : Int) ++ [w_by 1] ++ w_leaf T (y / 2) = w_by 1 :: w_b16 ((y / 2 : Nat) : Int) ++ (w_by 1 :: w_leaf T (y / 2)) := by simp
          rw [hl5] at r5
          have lnl : (w_leaf T (y / 2)).length ≤ 8 := by
            unfold w_leaf
            rw [List.length_append, List.length_append, List.length_append]
            have : ((if t_so T (y / 2) = 3 then [w_pb (t_ph T (2 * (y / 2)))] else []) : List Wt).length ≤ 1 := by split <;> simp
            simp [w_b16]
            omega
          exact r_hash_end hy31 (m_f0_L hL f05) r5 (by simp [w_b16]; omega) bd (fun J b1 b2 b3 b4 => k J b1 b2 (fun z hz => by rw [b3 z hz, g J5 f05 87 (by decide) (by decide)]) (m_fr_trans (m_f0_f2 f05) b4))
      exact ⟨fun c => tail 0 (Or.inl rfl) c.symm, fun c => tail 1 (Or.inr rfl) (by rw [ez] at c ⊢; split at c; rw [if_pos (by assumption)]; exact absurd rfl c)⟩
    have e1k : v170 = 1 ↔ t_ky T y ≠ [] := by
      rw [e170]
      by_cases hk : t_ky T y = []
      · rw [if_pos hk]; simp [hk]
      · rw [if_neg hk, if_pos ev]; simp [hk]
    refine ⟨fun c => two 0 ?_, fun c => ⟨fun c1 => two 0 ?_, fun c1 => two 1 ?_⟩⟩
    · rw [if_neg (fun h => c (e1k.mpr h.1))]
    · rw [dv, sw_bit hwo (by omega)] at c1
      rw [if_neg (fun h => c1 h.2)]
    · rw [dv, sw_bit hwo (by omega)] at c1
      rw [if_pos ⟨e1k.mp c, c1⟩]
end
end
