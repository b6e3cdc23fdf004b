/-! ===== the reference: propose ===== -/
noncomputable section
/-- a PROPOSAL up to its signature; its signature, its tag; all of it -/
def w_prB (G : w_G) (kd : Int) (c : List Wt) : List Wt := w_by 2 :: (w_b32 (gg_ep G) ++ (w_b16 (gg_lf G) ++ (w_by kd :: c)))
def w_prS (G : w_G) (m : Nat) (b : List Wt) : Wt := w_t 7 (w_nm m) [] [] (b ++ w_cx G)
def w_prT (G : w_G) (m : Nat) (b : List Wt) : Wt := w_t 2 (w_mem G) [] [] (b ++ [w_prS G m b])
def w_prM (G : w_G) (m : Nat) (b : List Wt) : List Wt := b ++ [w_prS G m b] ++ [w_prT G m b]
def w_hs (l : List Wt) : Wt := w_t 1 [] [] [] l
def w_prE (G : w_G) (m : Nat) (b : List Wt) : List Wt := [w_prS G m b, w_mem G, w_prT G m b, w_hs (w_prM G m b)]
variable {I J Z : sr_V} {nn nm fr us : Nat} {K K' : Wt → Prop} {tl tl' mk mm l l1 l2 cx L1 L2 b : List Wt} {ms : List (List Wt)} {a x y n kd : Int} {Q : Int → sr_V → Prop} {R : sr_V → Prop} {w g p k ph ik ws : Wt} {G : w_G} {P : Nat → Nat → Prop} {s m : Nat} {L : List (Wt × Nat)} {U : List (Wt × Wt)}
theorem m_up_gp (h : m_up I mk m U) (f : m_gp P I J) (p : ∀ f k, P f k → ¬ (f = 47 ∧ k = m) ∧ ¬ ((f = 53 ∨ f = 54) ∧ 40 * m ≤ k ∧ k < 40 * m + 40)) (hl : w_le mk mm) : m_up J mm m U := by
  obtain ⟨h1, h2, h3⟩ := h
  refine ⟨by rw [f 47 m (fun c => (p _ _ c).1 ⟨rfl, rfl⟩)]; exact h1, h2, fun i u v hi => ?_⟩
  have hlt := (List.getElem?_eq_some_iff.mp hi).1
  obtain ⟨k1, k2⟩ := h3 i u v hi
  rw [f 53 _ (fun c => (p _ _ c).2 ⟨Or.inl rfl, by omega, by omega⟩), f 54 _ (fun c => (p _ _ c).2 ⟨Or.inr rfl, by omega, by omega⟩)]
  exact ⟨w_le_at hl k1, w_le_at hl k2⟩
theorem m_pp_gp {ms' : List (List Wt)} (h : m_pp I mk ms m L) (f : m_gp P I J) (p : ∀ f k, P f k → ¬ m_kq m f k) (hl : w_le mk mm) (hms : ∀ (i : Nat) (pp : List Wt), ms[i]? = some pp → ms'[i]? = some pp) : m_pp J mm ms' m L := by
  obtain ⟨h1, h2, h3⟩ := h
  refine ⟨by rw [f 46 m (fun c => p _ _ c (Or.inl ⟨rfl, rfl⟩))]; exact h1, h2, fun i kk u hi => ?_⟩
  have hlt := (List.getElem?_eq_some_iff.mp hi).1
  obtain ⟨k1, k2, pm, k3, k4⟩ := h3 i kk u hi
  rw [f 51 _ (fun c => p _ _ c (Or.inr ⟨Or.inl rfl, by omega, by omega⟩)), f 52 _ (fun c => p _ _ c (Or.inr ⟨Or.inr rfl, by omega, by omega⟩))]
  exact ⟨w_le_at hl k1, k2, pm, hms _ _ k3, k4⟩
theorem r_infer (hL : m_L I mk nn K tl) (q : ∀ J, m_L J mk nn K tl → (∀ t, m_R J t → (m_k J t ↔ K (w_d mk t))) → m_fr [16] [19] I J → R J) : rm_83 I R := by
  obtain ⟨T, hK, hN, h4, h5⟩ := id hL
  refine m_infer T hK.1 hK.2.2.1 hK.2.2.2.1 (fun J hi => ?_)
  obtain ⟨k1, k2, k3⟩ := m_K_infer T hK hi
  have fr : m_fr [16] [19] I J := ⟨fun g hg h0 => hi.1 g (by simpa using hg) h0, fun f hf => hi.2.1 f (by simpa using hf)⟩
  exact q J (m_L_K hL k1 fr (by simp) (by simp) (by simp) (by simp)) k3 fr
def m_pv (m us : Nat) (f k : Nat) : Prop := m_pw us f k ∨ f = 16 ∨ f = 24 ∨ f = 25 ∨ m_kq m f k ∨ (f = 47 ∧ k = m) ∨ ((f = 53 ∨ f = 54) ∧ 40 * m ≤ k ∧ k < 40 * m + 40) ∨ (f = 1000 ∧ (k = 0 ∨ k = 22 ∨ k = 23 ∨ (57 ≤ k ∧ k ≤ 75)))
theorem w_i960 {m n : Nat} (hm : m < 24) (hn : n < 40) : sw_w ((sw_w (40 * (m : Int))) + (n : Int)) = ((40 * m + n : Nat) : Int) ∧ ((40 * m + n : Nat) : Int) < 960 := by
  rw [sw_w_s (z := 40 * (m : Int)) (by omega) (by omega), sw_w_s (by omega) (by omega)]
  omega
theorem m_kq_n {f k : Nat} (h : f ≠ 46 ∧ f ≠ 51 ∧ f ≠ 52) : ¬ m_kq m f k := by
  unfold m_kq; omega
theorem r_prop_tail (hm : m < 24) (hw : m_wr I mk nn K tl ms us) (h110 : I 1000 110 = us) (hr : m_rr I mk b) (hb : b.length ≤ 1100) (hcx : m_cx I mk (w_cx G)) (hst : m_st I mk m G) (h300 : ms.length < 300) (hP : m_pp I mk ms m L) (hL3 : L.length < 340) (hU : m_up I mk m U) (hU4 : kd = 2 → U.length < 40 ∧ w_at mk x ws) (bd : m_bd (w_tls mk (w_prE G m b))) (q : ∀ J, m_L J (w_tls mk (w_prE G m b)) nn (w_lrs K (w_prM G m b)) tl → m_M J (w_d (w_tls mk (w_prE G m b))) (ms ++ [w_prM G m b]) → m_pp J (w_tls mk (w_prE G m b)) (ms ++ [w_prM G m b]) m (w_kp L (w_hs (w_prM G m b)) ms.length) → m_up J (w_tls mk (w_prE G m b)) m (if kd = 2 then U ++ [(w_hs (w_prM G m b), ws)] else U) → J 1000 0 = I 1000 0 → m_gp (m_pv m us) I J → Q ms.length J) : rb_17_176 Q m kd m x I := by
  have ed : w_tls mk (w_prE G m b) = w_tl (w_tl (w_tl (w_tl mk (w_prS G m b)) (w_mem G)) (w_prT G m b)) (w_hs (w_prM G m b)) := rfl
  rw [ed] at bd q
  have b3 := m_bd_le (w_le_tl _ _) bd
  have b2 := m_bd_le (w_le_tl _ _) b3
  have b1 := m_bd_le (w_le_tl _ _) b2
  unfold rb_17_176
  refine r_flush hr (m_tx_0 hw h110) (by simp; omega) (fun J1 t1 r1 g1 => ?_)
  rw [List.nil_append] at t1
  have w1 := m_wr_pw hw (m_L_pf hw.1 g1) (w_le_refl _) (m_gp_fw g1)
  refine r_signSoFar hm w1.1 w1.2.1 t1 (m_cx_pf hcx g1) (by omega) b1 (fun t2 J2 L2 a2 f2 _ => ?_)
  have e2 := w_le_tl mk (w_prS G m b)
  have g2 := m_f1_gp f2
  have w2 := m_wr_pw w1 L2 e2 (m_gp_2w g2)
  refine r_flushTerm L2 b1.1 (m_tx_pw t1 e2 g2) a2 (by omega) (fun J3 L3 t3 r3 g3 => ?_)
  have w3 := m_wr_pw w2 L3 (w_le_refl _) (m_gp_fw g3)
  have g13 : m_gp (m_pw us) I J3 := m_gp_trans (m_gp_fw g1) (m_gp_trans (m_gp_2w g2) (m_gp_fw g3))
  refine r_membership (s := m) (by omega) L3 (m_st_pw hst g13 e2) b2 (fun t4 J4 L4 a4 f4 _ => ?_)
  have e4 := w_le_tl (w_tl mk (w_prS G m b)) (w_mem G)
  have g4 := m_f1_gp f4
  have w4 := m_wr_pw w3 L4 e4 (m_gp_2w g4)
  have t4' := m_tx_pw t3 e4 g4
  refine r_tagSoFar L4 t4' a4 (by rw [List.length_append]; simp; omega) b3 (fun t5 J5 L5 a5 f5 _ => ?_)
  have e5 := w_le_tl (w_tl (w_tl mk (w_prS G m b)) (w_mem G)) (w_prT G m b)
  have g5 := m_f1_gp f5
  have w5 := m_wr_pw w4 L5 e5 (m_gp_2w g5)
  refine r_flushTerm L5 b3.1 (m_tx_pw t4' e5 g5) a5 (by rw [List.length_append]; simp; omega) (fun J6 L6 t6 r6 g6 => ?_)
  have w6 := m_wr_pw w5 L6 (w_le_refl _) (m_gp_fw g6)
  have g16 : m_gp (m_pw us) I J6 := m_gp_trans g13 (m_gp_trans (m_gp_2w g4) (m_gp_trans (m_gp_2w g5) (m_gp_fw g6)))
  have ln : (w_prM G m b).length = b.length + 2 := by unfold w_prM; simp
  refine m_close (mk := 1) (l := w_prM G m b) L6.1 L6.2.1 w6.2.2.1 h300 (by rw [ln]; omega) (by rw [t6.1, t6.2.1]; show ((us + (w_prM G m b).length : Nat) : Int) = _; omega) (by rw [t6.1, Int.toNat_natCast, L6.2.2.2.1]; exact t6.2.2.1) (fun J7 K7 S7 f7 _ => ?_)
  rw [if_neg (by decide)] at K7
  have L7 := m_L_K L6 K7 f7 (fun g hg => by simp at hg; omega) (by simp) (by simp) (by simp)
  have hms : (ms ++ [w_prM G m b])[ms.length]? = some (w_prM G m b) := by rw [List.getElem?_append_right (Nat.le_refl _), Nat.sub_self]; rfl
  refine r_textHash L7 S7 hms bd (fun t8 J8 L8 a8 f8 _ => ?_)
  have e8 := w_le_tl (w_tl (w_tl (w_tl mk (w_prS G m b)) (w_mem G)) (w_prT G m b)) (w_hs (w_prM G m b))
  have g8 := m_f1_gp f8
  have S8 := m_M_p2 L7 L8 e8 S7 g8
  have le8 : w_le mk (w_tl (w_tl (w_tl (w_tl mk (w_prS G m b)) (w_mem G)) (w_prT G m b)) (w_hs (w_prM G m b))) := w_le_trans e2 (w_le_trans e4 (w_le_trans e5 e8))
  have gv : m_gp (m_pv m us) I J8 := m_gp_trans (m_gp_sub g16 (fun f k p => Or.inl p)) (m_gp_trans (m_gp_sub (m_fr_gp f7) (fun f k p => by
    simp only [List.mem_cons, List.not_mem_nil, or_false] at p
    unfold m_pv m_pw m_p2
    rcases p with ⟨_, p | p | p⟩ | ⟨p1, p | p | p⟩
    · exact Or.inr (Or.inl p)
    · exact Or.inr (Or.inr (Or.inl p))
    · exact Or.inr (Or.inr (Or.inr (Or.inl p)))
    · exact Or.inl (Or.inl (Or.inr (Or.inr (Or.inr (Or.inr (Or.inr ⟨p1, Or.inr (Or.inr (Or.inl p))⟩))))))
    · exact Or.inr (Or.inr (Or.inr (Or.inr (Or.inr (Or.inr (Or.inr ⟨p1, Or.inr (Or.inl p)⟩))))))
    · exact Or.inr (Or.inr (Or.inr (Or.inr (Or.inr (Or.inr (Or.inr ⟨p1, Or.inr (Or.inr (Or.inl p))⟩)))))))) (m_gp_sub g8 (fun f k p => Or.inl (Or.inl p))))
  have sm : ∀ f k, (30 ≤ f ∧ f ≤ 54) ∨ (f = 1000 ∧ k = 0) → J8 f k = I f k := by
    intro f k h
    rw [g8 f k (m_p2_n (by omega)), (m_fr_gp f7) f k (by simp; omega), g16 f k (m_pw_n (by omega))]
  have gq : m_gp (fun f k => ¬ ((30 ≤ f ∧ f ≤ 54) ∨ (f = 1000 ∧ k = 0))) I J8 := fun f k h => sm f k (Decidable.byContradiction h)
  have hms' : ∀ (i : Nat) (p : List Wt), ms[i]? = some p → (ms ++ [w_prM G m b])[i]? = some p := fun i p h => by
    rw [List.getElem?_append_left (List.getElem?_eq_some_iff.mp h).1]; exact h
  have P8 := m_pp_gp (m := m) hP gq (fun f k h c => h (by unfold m_kq at c; omega)) le8 hms'
  have U8 := m_up_gp (m := m) hU gq (fun f k h => ⟨fun c => h (by omega), fun c => h (by omega)⟩) le8
  refine r_keepProposal hm (m_L_nd L8) P8 a8 hL3 hms rfl (fun J9 P9 g9 => ?_)
  obtain ⟨us8, eus8⟩ : ∃ u : Nat, J8 1000 23 = u := ⟨(J8 1000 23).toNat, by have := S8.2.2.1; omega⟩
  have L9 := m_L_gp L8 g9 (fun f k p => by unfold m_kq at p; omega)
  have S9 := m_M_gp S8 eus8 g9 (fun f k p => by unfold m_kq at p; omega)
  have U9 := m_up_gp (m := m) U8 g9 (fun f k p => by unfold m_kq at p; omega) (w_le_refl _)
  have gv9 : m_gp (m_pv m us) I J9 := m_gp_trans gv (m_gp_sub g9 (fun f k p => Or.inr (Or.inr (Or.inr (Or.inr (Or.inl p))))))
  have z9 : J9 1000 0 = I 1000 0 := by rw [g9 1000 0 (m_kq_n (by decide)), sm 1000 0 (by omega)]
  refine ⟨fun c => ⟨by omega, by omega, ?_⟩, fun c => ?_⟩
  · obtain ⟨u1, u2⟩ := hU4 c
    obtain ⟨i1, i2⟩ := w_i960 hm u1
    have x47 : J9 47 m = U.length := U9.1
    intro v70 e70 _
    rw [Int.toNat_natCast, x47] at e70
    rw [e70, i1]
    refine ⟨Int.natCast_nonneg _, i2, ?_⟩
    intro I74 e74
    refine ⟨Int.natCast_nonneg _, w_24 hm, ?_⟩
    intro v78 e78 _
    rw [e74, su_f (by decide), Int.toNat_natCast, x47] at e78
    rw [e78, i1]
    refine ⟨Int.natCast_nonneg _, i2, ?_⟩
    intro I82 e82
    refine ⟨Int.natCast_nonneg _, w_24 hm, ?_⟩
    intro v86 e86 _
    rw [e82, su_f (by decide), e74, su_f (by decide), Int.toNat_natCast, x47] at e86
    refine ⟨Int.natCast_nonneg _, w_24 hm, ?_⟩
    intro I90 e90
    rw [Int.toNat_natCast] at e74 e82 e90
    clear i1
    rw [e86, sw_w_s (by omega) (by omega)] at e90
    have gz : m_gp (fun f k => ((f = 53 ∨ f = 54) ∧ k = 40 * m + U.length) ∨ (f = 47 ∧ k = m)) J9 I90 := by
      intro f k hp
      rw [e90, e82, e74]
      simp only [su_at]
      rw [if_neg (by omega), if_neg (by omega), if_neg (by omega)]
    have x53 : I90 53 (40 * m + U.length) = t8 := by rw [e90, e82, e74]; simp [su_at]
    have x54 : I90 54 (40 * m + U.length) = x := by rw [e90, e82]; simp [su_at]
    have y47 : I90 47 m = U.length + 1 := by rw [e90]; simp [su_at]
    clear e74 e82 e90
    obtain ⟨us9, eus9⟩ : ∃ u : Nat, J9 1000 23 = u := ⟨(J9 1000 23).toNat, by have := S9.2.2.1; omega⟩
    refine q I90 (m_L_gp L9 gz (fun f k p => by omega)) (m_M_gp S9 eus9 gz (fun f k p => by omega)) (m_pp_gp (m := m) P9 gz (fun f k p c => by unfold m_kq at c; omega) (w_le_refl _) (fun _ _ h => h)) ?_ (by rw [gz 1000 0 (by omega), z9]) (m_gp_trans gv9 (m_gp_sub gz (fun f k p => by
      unfold m_pv
      rcases p with ⟨p1, p2⟩ | p
      · exact Or.inr (Or.inr (Or.inr (Or.inr (Or.inr (Or.inr (Or.inl ⟨p1, by omega, by omega⟩))))))
      · exact Or.inr (Or.inr (Or.inr (Or.inr (Or.inr (Or.inl p))))))))
    rw [if_pos c]
    refine ⟨by rw [y47, List.length_append]; simp, by rw [List.length_append]; simp; omega, fun i h v hi => ?_⟩
    by_cases ci : i < U.length
    · rw [List.getElem?_append_left ci] at hi
      obtain ⟨k1, k2⟩ := U9.2.2 i h v hi
      rw [gz 53 _ (by omega), gz 54 _ (by omega)]
      exact ⟨k1, k2⟩
    · have ei : i = U.length := by
        have := (List.getElem?_eq_some_iff.mp hi).1
        rw [List.length_append] at this
        simp at this
        omega
      subst ei
      rw [List.getElem?_append_right (by omega), Nat.sub_self] at hi
      have hi := Option.some.inj hi
      rw [Prod.mk.injEq] at hi
      obtain ⟨j1, j2⟩ := hi
      rw [x53, x54, ← j1, ← j2]
      exact ⟨a8, w_le_at le8 u2⟩
  · exact q J9 L9 S9 P9 (by rw [if_neg c]; exact U9) z9 gv9
end
