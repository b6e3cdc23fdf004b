/-! ===== the reference: deliverWelcome, its end ===== -/
noncomputable section
/-- what joining touches -/
def m_pjn (m f k : Nat) : Prop := m_p2 f k ∨ m_pl 48 f k ∨ m_pl m f k ∨ ((f = 27 ∨ f = 46 ∨ f = 47 ∨ f = 28 ∨ f = 45) ∧ k = m) ∨ ((f = 48 ∨ f = 49 ∨ f = 50) ∧ 8 * m ≤ k ∧ k < 8 * m + 8)
variable {I I0 J X : sr_V} {nn fr i m l : Nat} {K K' S : Wt → Prop} {tl mk m0 mm lm : List Wt} {Q : Int → sr_V → Prop} {L : List (Nat × Wt × Wt)} {T : w_T} {cf cm es : Wt} {ep : Int} {hd : Nat → Wt}
/-- a kept PACKAGE at a place -/
def m_pke (I : sr_V) (mk : List Wt) (m j : Nat) (e : Nat × Wt × Wt) : Prop := I 48 (8 * m + j) = e.1 ∧ w_at mk (I 49 (8 * m + j)) e.2.1 ∧ w_at mk (I 50 (8 * m + j)) e.2.2
theorem w_8k {m k : Nat} (hm : m < 24) (k8 : k < 8) : sw_w ((sw_w ((sw_w (8 * (m : Int))) + (k : Int))) + 1) = ((8 * m + (k + 1) : Nat) : Int) := by
  rw [w_8i hm k8, sw_w_s (by omega) (by omega)]
  omega
theorem r_dp_222 (hm : m < 24) (hi : i < L.length) (h8 : L.length ≤ 8) (q : ∀ J, m_pk J mk m (L.eraseIdx i) → m_gp (fun f k => (f = 48 ∨ f = 49 ∨ f = 50) ∧ 8 * m ≤ k ∧ k < 8 * m + 8) I0 J → Q 0 J) : ∀ (n k : Nat) {I : sr_V}, m_gp (fun f k => (f = 48 ∨ f = 49 ∨ f = 50) ∧ 8 * m ≤ k ∧ k < 8 * m + 8) I0 I → I 45 m = ((L.length - 1 : Nat) : Int) → i ≤ k → k ≤ L.length - 1 → L.length - 1 - k < n → (∀ (j : Nat) e, j < k → (L.eraseIdx i)[j]? = some e → m_pke I mk m j e) → (∀ (j : Nat) e, k < j → L[j]? = some e → m_pke I mk m j e) → rl_111_222 Q n m k I
  | 0, _, _, _, _, _, _, h, _, _ => by omega
  | n + 1, k, I, gI, h45, hik, hk, hn, i1, i2 => by
    unfold rl_111_222
    refine ⟨by omega, by omega, ?_⟩
    intro v1 e1 _
    rw [Int.toNat_natCast, h45] at e1
    refine ⟨fun c => ?_, fun c => ?_⟩
    · have le : (L.eraseIdx i).length = L.length - 1 := by rw [List.length_eraseIdx, if_pos hi]
      refine q I ⟨by rw [h45, le], by omega, fun j kk u v hj => ?_⟩ gI
      have := i1 j (kk, u, v) (by have := (List.getElem?_eq_some_iff.mp hj).1; omega) hj
      exact this
    have kl : k + 1 < L.length := by omega
    obtain ⟨⟨kk, u, v⟩, he⟩ : ∃ e, L[k + 1]? = some e := ⟨_, List.getElem?_eq_getElem kl⟩
    obtain ⟨a1, a2, a3⟩ := i2 (k + 1) _ (by omega) he
    have k8 : k < 8 := by omega
    rw [w_8k hm k8, w_8i hm k8]
    refine ⟨by omega, by omega, ?_⟩
    intro v4 e4 _
    refine ⟨by omega, by omega, ?_⟩
    intro I8 e8
    refine ⟨by omega, by omega, ?_⟩
    intro v12 e12 _
    refine ⟨by omega, by omega, ?_⟩
    intro I16 e16
    refine ⟨by omega, by omega, ?_⟩
    intro v20 e20 _
    refine ⟨by omega, by omega, ?_⟩
    intro I24 e24 y28 e28
    rw [sw_s1 (by omega)] at e28
    rw [e28]
    rw [Int.toNat_natCast] at e4 e8 e12 e16 e20 e24
    have g8 : m_gp (fun f j => f = 48 ∧ j = 8 * m + k) I I8 := by rw [e8]; exact m_gp_su _ _ _ _
    have g16 : m_gp (fun f j => f = 49 ∧ j = 8 * m + k) I8 I16 := by rw [e16]; exact m_gp_su _ _ _ _
    have g24 : m_gp (fun f j => f = 50 ∧ j = 8 * m + k) I16 I24 := by rw [e24]; exact m_gp_su _ _ _ _
    have gA : m_gp (fun f j => (f = 48 ∨ f = 49 ∨ f = 50) ∧ j = 8 * m + k) I I24 := m_gp_trans (m_gp_sub g8 (fun f j p => by omega)) (m_gp_trans (m_gp_sub g16 (fun f j p => by omega)) (m_gp_sub g24 (fun f j p => by omega)))
    have v48 : I24 48 (8 * m + k) = kk := by rw [g24 48 _ (by omega), g16 48 _ (by omega), e8, su_eq, e4]; exact a1
    have v49 : w_at mk (I24 49 (8 * m + k)) u := by
      rw [g24 49 _ (by omega), e16, su_eq, e12, g8 49 _ (by omega)]
      exact a2
    have v50 : w_at mk (I24 50 (8 * m + k)) v := by
      rw [e24, su_eq, e20, g16 50 _ (by omega), g8 50 _ (by omega)]
      exact a3
    clear e8 e16 e24
    refine r_dp_222 hm hi h8 q n (k + 1) (m_gp_trans gI (m_gp_sub gA (fun f j p => by omega))) (by rw [gA 45 m (by omega)]; exact h45) (by omega) (by omega) (by omega) (fun j e hj hej => ?_) (fun j e hj hej => ?_)
    · by_cases c2 : j = k
      · subst c2
        rw [List.getElem?_eraseIdx, if_neg (by omega), he] at hej
        rw [← Option.some.inj hej]
        exact ⟨v48, v49, v50⟩
      · obtain ⟨b1, b2, b3⟩ := i1 j e (by omega) hej
        unfold m_pke
        rw [gA 48 _ (by omega), gA 49 _ (by omega), gA 50 _ (by omega)]
        exact ⟨b1, b2, b3⟩
    · obtain ⟨b1, b2, b3⟩ := i2 j e (by omega) hej
      unfold m_pke
      rw [gA 48 _ (by omega), gA 49 _ (by omega), gA 50 _ (by omega)]
      exact ⟨b1, b2, b3⟩
theorem r_we_fin (hm : m < 24) (hL : m_L I mk nn K tl) (hT : m_tr I mk 48 T) (h104 : w_at mk (I 1000 104) cm) (h33 : w_az mk (I 33 48) cf) (h29 : I 29 48 = ep) (h34 : w_at mk (I 34 48) es) (hh : ∀ x, x < t_w T → w_az mk (I 44 (1488 + x)) (hd x)) (hth : ∀ x, x < t_w T → w_th T 0 x ∈ mk) (hok : gg_ok (ep, l, T, w_int cf cm, cf, es, hd)) (hb : m_bS S mk) (hS : S (w_int cf cm)) (hP : m_pk I mk m L) (hi : i < L.length) (q : ∀ J mm, w_mo S mk mm → m_bS S mm → m_L J mm nn K tl → m_st J mm m (ep, l, T, w_int cf cm, cf, es, hd) → J 27 m = 1 → J 46 m = 0 → J 47 m = 0 → J 28 m = 0 → m_pk J mm m (L.eraseIdx i) → m_gp (m_pjn m) I J → Q 0 J) : rb_111_186 Q m i l I := by
  have w31 := t_w_4 hT.1.1
  unfold rb_111_186
  intro v33 e33 _
  rw [← e33] at h104
  refine r_interim (s := 48) (by decide) hL h33 h104 (hb _ (w_mo_tl hS) (w_tl_nd (m_L_nd hL))) (fun t J1 L1 a1 f1 => ?_)
  intro _
  have mo1 : w_mo S mk (w_tl mk (w_int cf cm)) := w_mo_tl hS
  have g1 := m_f1_gp f1
  refine ⟨by decide, ?_⟩
  intro I44 e44
  have g44 : m_gp (fun f k => f = 32 ∧ k = 48) J1 I44 := by rw [e44]; exact m_gp_su _ _ _ _
  refine ⟨by decide, ?_⟩
  intro I49 e49
  have g49 : m_gp (fun f k => f = 30 ∧ k = 48) I44 I49 := by rw [e49]; exact m_gp_su _ _ _ _
  have gA : m_gp (fun f k => m_p2 f k ∨ ((f = 32 ∨ f = 30) ∧ k = 48)) I I49 := m_gp_trans (m_gp_sub g1 (fun f k p => Or.inl p)) (m_gp_trans (m_gp_sub g44 (fun f k p => Or.inr ⟨Or.inl p.1, p.2⟩)) (m_gp_sub g49 (fun f k p => Or.inr ⟨Or.inr p.1, p.2⟩)))
  have L49 := m_L_gp (m_L_gp L1 g44 (fun f k p => by omega)) g49 (fun f k p => by omega)
  have nA : ∀ f k, (f = 29 ∨ f = 31 ∨ f = 33 ∨ f = 34 ∨ (36 ≤ f ∧ f ≤ 50)) → I49 f k = I f k := fun f k hf => gA f k (by unfold m_p2; omega)
  have st49 : m_st I49 (w_tl mk (w_int cf cm)) 48 (ep, l, T, w_int cf cm, cf, es, hd) := by
    refine ⟨hok, (nA 29 48 (by omega)).trans h29, by rw [e49, su_eq]; rfl, m_tr_le (m_tr_eq hT (nA 31 48 (by omega)) (fun f x h1 h2 h3 => nA f _ (by omega))) mo1.1, ?_, ?_, ?_, fun x hx => ?_, fun x hx => ?_⟩
    · rw [g49 32 48 (by omega), e44, su_eq]; exact a1
    · rw [nA 33 48 (by omega)]; exact w_le_az mo1.1 h33
    · rw [nA 34 48 (by omega)]; exact w_le_at mo1.1 h34
    · rw [nA 44 _ (by omega), show 31 * 48 + x = 1488 + x by omega]; exact w_le_az mo1.1 (hh x hx)
    · obtain ⟨l', hl'⟩ := mo1.1
      rw [hl']
      exact List.mem_append_left _ (hth x hx)
  refine r_copyState (s := 48) (by decide) (by omega) (by omega) (fun J2 c1 c2 g2 => ?_)
  have st2 := m_st_eq (J := J2) (u := m) st49 (fun f h1 h2 => c1 f h1 h2) (fun f x h1 h2 h3 => c2 f x h1 h2 h3)
  have L2 := m_L_gp L49 g2 (fun f k p => by unfold m_pl at p; omega)
  refine ⟨by omega, by omega, ?_⟩
  intro I61 e61
  rw [Int.toNat_natCast] at e61
  have g61 : m_gp (fun f k => f = 27 ∧ k = m) J2 I61 := by rw [e61]; exact m_gp_su _ _ _ _
  refine r_forgetEpoch hm (fun J3 j1 j2 j3 g3 => ?_)
  refine ⟨by omega, by omega, ?_⟩
  intro v72 e72 _
  refine ⟨by omega, by omega, ?_⟩
  intro I76 e76
  rw [Int.toNat_natCast] at e72 e76
  have g76 : m_gp (fun f k => f = 45 ∧ k = m) J3 I76 := by rw [e76]; exact m_gp_su _ _ _ _
  -- all of it
  have gB : m_gp (fun f k => f = 27 ∧ k = m ∨ (f = 46 ∨ f = 47 ∨ f = 28 ∨ f = 45) ∧ k = m) J2 I76 := m_gp_trans (m_gp_sub g61 (fun f k p => Or.inl p)) (m_gp_trans (m_gp_sub g3 (fun f k p => Or.inr ⟨by omega, p.2⟩)) (m_gp_sub g76 (fun f k p => Or.inr ⟨by omega, p.2⟩)))
  have gAll : m_gp (m_pjn m) I I76 := m_gp_trans (m_gp_sub gA (fun f k p => by
    rcases p with p | p
    · exact Or.inl p
    · exact Or.inr (Or.inl (Or.inl ⟨by omega, by omega, p.2⟩)))) (m_gp_trans (m_gp_sub g2 (fun f k p => Or.inr (Or.inr (Or.inl p)))) (m_gp_sub gB (fun f k p => Or.inr (Or.inr (Or.inr (Or.inl (by omega)))))))
  have n45 : ∀ f k, f = 45 ∨ (48 ≤ f ∧ f ≤ 50) → J3 f k = I f k := fun f k hf => by
    rw [g3 f k (by omega), g61 f k (by omega), g2 f k (by unfold m_pl; omega), nA f k (by omega)]
  have n48 : ∀ f k, 48 ≤ f ∧ f ≤ 50 → I76 f k = I f k := fun f k hf => by rw [g76 f k (by omega), n45 f k (by omega)]
  obtain ⟨p1, p2, p3⟩ := id hP
  rw [n45 45 m (by omega), p1] at e72
  have ew : sw_w (v72 - 1) = ((L.length - 1 : Nat) : Int) := by rw [e72, sw_w_s (by omega) (by omega)]; omega
  have v45 : I76 45 m = ((L.length - 1 : Nat) : Int) := by rw [e76, su_eq, ew]
  have v27 : I76 27 m = 1 := by rw [g76 27 m (by omega), g3 27 m (by omega), e61, su_eq]
  have pke : ∀ (j : Nat) e, L[j]? = some e → m_pke I76 (w_tl mk (w_int cf cm)) m j e := fun j e hj => by
    obtain ⟨kk, u, v⟩ := e
    obtain ⟨b1, b2, b3⟩ := p3 j kk u v hj
    unfold m_pke
    rw [n48 48 _ (by omega), n48 49 _ (by omega), n48 50 _ (by omega)]
    exact ⟨b1, w_le_at mo1.1 b2, w_le_at mo1.1 b3⟩
  have L76 := m_L_gp L2 gB (fun f k p => by omega)
  have st76 := m_st_gp st2 gB (fun f k p q => by unfold m_pl at p; omega)
  refine ⟨L.length + 1, r_dp_222 (mk := w_tl mk (w_int cf cm)) (I0 := I76) hm hi p2 (fun J pk gJ => ?_) _ i (m_gp_refl _ _) v45 (Nat.le_refl _) (by omega) (by omega) (fun j e hj hej => ?_) (fun j e hj hej => pke j e hej)⟩
  · refine q J _ mo1 (m_bS_mo hb mo1) (m_L_gp L76 gJ (fun f k p => by omega)) (m_st_gp st76 gJ (fun f k p q => by unfold m_pl at p; omega)) ?_ ?_ ?_ ?_ pk (m_gp_trans gAll (m_gp_sub gJ (fun f k p => Or.inr (Or.inr (Or.inr (Or.inr p))))))
    · rw [gJ 27 m (by omega)]; exact v27
    · rw [gJ 46 m (by omega), g76 46 m (by omega)]; exact j1
    · rw [gJ 47 m (by omega), g76 47 m (by omega)]; exact j2
    · rw [gJ 28 m (by omega), g76 28 m (by omega)]; exact j3
  · rw [List.getElem?_eraseIdx, if_pos (by omega)] at hej
    exact pke j e hej
end
