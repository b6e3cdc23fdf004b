/-! ===== the reference: a new term ===== -/
noncomputable section
theorem m_new_l {Q : Int → sr_V → Prop} : ∀ (n : Nat) {x5 : Int} {I : sr_V}, 0 ≤ x5 → x5 ≤ I 1000 56 → (I 1000 56 - x5).toNat < n → I 1000 56 ≤ 6000 → 0 ≤ I 1000 5 → I 1000 5 + I 1000 56 ≤ 1400000 → (∀ J : sr_V, (∀ g, g ≠ 17 → g ≠ 1000 → J g = I g) → (∀ f, f ≠ 5 → f ≠ 19 → J 1000 f = I 1000 f) → J 1000 5 = I 1000 5 + I 1000 56 → J 1000 19 = 0 → (∀ k : Nat, J 17 k = if I 1000 5 + x5 ≤ k ∧ k < I 1000 5 + I 1000 56 then I 55 (k - I 1000 5).toNat else I 17 k) → Q (I 1000 4) J) → rl_150_46 Q n x5 I
  | 0, _, _, _, _, h, _, _, _, _ => by omega
  | n + 1, x5, I, h0, h1, hn, hr, hs, hb, q => by
    unfold rl_150_46
    intro v1 e1 _
    subst e1
    refine ⟨fun c => ?_, fun c => ?_⟩
    · intro v4 e4 _ v7 e7 _ I11 e11 I16 e16 v20 e20 _
      subst e4 e7
      rw [sw_w_s (by omega) (by omega)] at e11
      have a4 : v20 = I 1000 4 := by rw [e20, e16, su_k (by decide), e11, su_k (by decide)]
      rw [a4]
      refine q I16 (fun g g1 g2 => by rw [e16, e11, su_f g2, su_f g2]) (fun f f1 f2 => by rw [e16, e11, su_k f2, su_k f1]) (by rw [e16, e11, su_k (by decide), su_eq]) (by rw [e16, su_eq]) (fun k => ?_)
      rw [if_neg (by omega), e16, e11, su_f (by decide), su_f (by decide)]
    · intro v23 e23 _
      subst e23
      refine ⟨h0, by omega, ?_⟩
      intro v26 e26 _
      rw [sw_w_s (z := I 1000 5 + x5) (by omega) (by omega)]
      refine ⟨by omega, by omega, ?_⟩
      intro I30 e30 y34 e34
      rw [sw_w_s (by omega) (by omega)] at e34
      subst e34
      have b5 : I30 1000 = I 1000 := by rw [e30, su_f (by decide)]
      have b55 : I30 55 = I 55 := by rw [e30, su_f (by decide)]
      refine m_new_l n (by omega) (by rw [b5]; omega) (by rw [b5]; omega) (by rw [b5]; omega) (by rw [b5]; omega) (by rw [b5]; omega) (fun J j1 j2 j3 j4 j5 => ?_)
      rw [b5] at j2 j3 ⊢
      refine q J (fun g g1 g2 => ?_) j2 j3 j4 (fun k => ?_)
      · rw [j1 g g1 g2, e30, su_f g1]
      · rw [j5 k, b5, b55, e30, su_at, e26]
        by_cases c1 : k = (I 1000 5 + x5).toNat
        · rw [if_neg (by omega), if_pos ⟨rfl, c1⟩, if_pos (by omega)]
          congr 1
          omega
        · by_cases c2 : I 1000 5 + (x5 + 1) ≤ k ∧ k < I 1000 5 + I 1000 56
          · rw [if_pos c2, if_pos (by omega)]
          · rw [if_neg c2, if_neg (by omega), if_neg (by omega)]
/-- what a new term changes -/
def m_nw (I J : sr_V) (s a b c : Int) : Prop := (∀ g, g ≠ 17 → (g < 6 ∨ 11 < g) → g ≠ 1000 → J g = I g) ∧ (∀ f, f ≠ 4 → f ≠ 5 → f ≠ 19 → J 1000 f = I 1000 f) ∧ J 1000 4 = I 1000 4 + 1 ∧ J 1000 5 = I 1000 5 + I 1000 56 ∧ J 1000 19 = 0 ∧ (∀ t : Nat, t ≠ (I 1000 4 + 1).toNat → J 6 t = I 6 t ∧ J 7 t = I 7 t ∧ J 8 t = I 8 t ∧ J 9 t = I 9 t ∧ J 10 t = I 10 t ∧ J 11 t = I 11 t) ∧ J 6 (I 1000 4 + 1).toNat = s ∧ J 7 (I 1000 4 + 1).toNat = a ∧ J 8 (I 1000 4 + 1).toNat = b ∧ J 9 (I 1000 4 + 1).toNat = c ∧ J 10 (I 1000 4 + 1).toNat = I 1000 5 ∧ J 11 (I 1000 4 + 1).toNat = I 1000 56 ∧ (∀ k : Nat, (k : Int) < I 1000 5 → J 17 k = I 17 k) ∧ m_sl (J 17) (I 1000 5).toNat (I 1000 56).toNat = m_row I
theorem m_newTerm {s a b c : Int} {I : sr_V} {Q : Int → sr_V → Prop} (h4 : 0 ≤ I 1000 4) (h4b : I 1000 4 + 1 ≤ 44999) (hr0 : 0 ≤ I 1000 56) (hr : I 1000 56 ≤ 6000) (hs : 0 ≤ I 1000 5) (hb : I 1000 5 + I 1000 56 ≤ 1400000) (k : ∀ J, m_nw I J s a b c → Q (I 1000 4 + 1) J) : rm_150 s a b c I Q := by
  unfold rm_150
  intro v39 e39 _ I43 e43 v47 e47 _
  subst e39
  rw [sw_w_s (by omega) (by omega)] at e43
  rw [e43, su_eq] at e47
  subst e47
  refine ⟨by omega, by omega, ?_⟩
  intro I51 e51 v55 e55 _
  rw [e51, su_f (by decide), e43, su_eq] at e55
  subst e55
  refine ⟨by omega, by omega, ?_⟩
  intro I59 e59 v63 e63 _
  rw [e59, su_f (by decide), e51, su_f (by decide), e43, su_eq] at e63
  subst e63
  refine ⟨by omega, by omega, ?_⟩
  intro I67 e67 v71 e71 _
  rw [e67, su_f (by decide), e59, su_f (by decide), e51, su_f (by decide), e43, su_eq] at e71
  subst e71
  refine ⟨by omega, by omega, ?_⟩
  intro I75 e75 v79 e79 _ v82 e82 _
  have f75 : I75 1000 = su I 1000 4 (I 1000 4 + 1) 1000 := by rw [e75, su_f (by decide), e67, su_f (by decide), e59, su_f (by decide), e51, su_f (by decide), e43]
  rw [f75, su_eq] at e79
  rw [f75, su_k (by decide)] at e82
  subst e79 e82
  refine ⟨by omega, by omega, ?_⟩
  intro I86 e86 v90 e90 _ v93 e93 _
  have f86 : I86 1000 = su I 1000 4 (I 1000 4 + 1) 1000 := by rw [e86, su_f (by decide), f75]
  rw [f86, su_eq] at e90
  rw [f86, su_k (by decide)] at e93
  subst e90 e93
  refine ⟨by omega, by omega, ?_⟩
  intro I97 e97
  have f97 : I97 1000 = su I 1000 4 (I 1000 4 + 1) 1000 := by rw [e97, su_f (by decide), f86]
  have q4 : I97 1000 4 = I 1000 4 + 1 := by rw [f97, su_eq]
  have q5 : I97 1000 5 = I 1000 5 := by rw [f97, su_k (by decide)]
  have q56 : I97 1000 56 = I 1000 56 := by rw [f97, su_k (by decide)]
  have q55 : I97 55 = I 55 := by rw [e97, su_f (by decide), e86, su_f (by decide), e75, su_f (by decide), e67, su_f (by decide), e59, su_f (by decide), e51, su_f (by decide), e43, su_f (by decide)]
  have q17 : I97 17 = I 17 := by rw [e97, su_f (by decide), e86, su_f (by decide), e75, su_f (by decide), e67, su_f (by decide), e59, su_f (by decide), e51, su_f (by decide), e43, su_f (by decide)]
  refine ⟨_, m_new_l ((I 1000 56).toNat + 1) (by omega) (by omega) (by omega) (by omega) (by omega) (by omega) (fun J j1 j2 j3 j4 j5 => ?_)⟩
  rw [q4]
  rw [q5, q56, q55, q17] at j5
  have c6 : J 6 = su I 6 (I 1000 4 + 1).toNat s 6 := by rw [j1 6 (by decide) (by decide), e97, su_f (by decide), e86, su_f (by decide), e75, su_f (by decide), e67, su_f (by decide), e59, su_f (by decide), e51]; funext i; rw [su_at, su_at, e43, su_f (by decide)]
  have c7 : J 7 = su I 7 (I 1000 4 + 1).toNat a 7 := by rw [j1 7 (by decide) (by decide), e97, su_f (by decide), e86, su_f (by decide), e75, su_f (by decide), e67, su_f (by decide), e59]; funext i; rw [su_at, su_at, e51, su_f (by decide), e43, su_f (by decide)]
  have c8 : J 8 = su I 8 (I 1000 4 + 1).toNat b 8 := by rw [j1 8 (by decide) (by decide), e97, su_f (by decide), e86, su_f (by decide), e75, su_f (by decide), e67]; funext i; rw [su_at, su_at, e59, su_f (by decide), e51, su_f (by decide), e43, su_f (by decide)]
  have c9 : J 9 = su I 9 (I 1000 4 + 1).toNat c 9 := by rw [j1 9 (by decide) (by decide), e97, su_f (by decide), e86, su_f (by decide), e75]; funext i; rw [su_at, su_at, e67, su_f (by decide), e59, su_f (by decide), e51, su_f (by decide), e43, su_f (by decide)]
  have c10 : J 10 = su I 10 (I 1000 4 + 1).toNat (I 1000 5) 10 := by rw [j1 10 (by decide) (by decide), e97, su_f (by decide), e86]; funext i; rw [su_at, su_at, e75, su_f (by decide), e67, su_f (by decide), e59, su_f (by decide), e51, su_f (by decide), e43, su_f (by decide)]
  have c11 : J 11 = su I 11 (I 1000 4 + 1).toNat (I 1000 56) 11 := by rw [j1 11 (by decide) (by decide), e97]; funext i; rw [su_at, su_at, e86, su_f (by decide), e75, su_f (by decide), e67, su_f (by decide), e59, su_f (by decide), e51, su_f (by decide), e43, su_f (by decide)]
  refine k J ⟨fun g g1 g2 g3 => ?_, fun f f1 f2 f3 => ?_, ?_, ?_, j4, fun t ht => ?_, ?_, ?_, ?_, ?_, ?_, ?_, fun k hk => ?_, ?_⟩
  · rw [j1 g g1 g3, e97, su_f (by omega), e86, su_f (by omega), e75, su_f (by omega), e67, su_f (by omega), e59, su_f (by omega), e51, su_f (by omega), e43, su_f g3]
  · rw [j2 f f2 f3, f97, su_k f1]
  · rw [j2 4 (by decide) (by decide), q4]
  · rw [j3, q5, q56]
  · rw [c6, c7, c8, c9, c10, c11, su_k ht, su_k ht, su_k ht, su_k ht, su_k ht, su_k ht]
    exact ⟨rfl, rfl, rfl, rfl, rfl, rfl⟩
  · rw [c6, su_eq]
  · rw [c7, su_eq]
  · rw [c8, su_eq]
  · rw [c9, su_eq]
  · rw [c10, su_eq]
  · rw [c11, su_eq]
  · rw [j5 k, if_neg (by omega)]
  · unfold m_sl m_row
    apply List.map_congr_left
    intro k hk
    rw [List.mem_range] at hk
    rw [j5, if_pos (by omega)]
    congr 1
    omega
end
