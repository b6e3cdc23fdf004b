/-! ===== the reference: propose, all of it ===== -/
noncomputable section
variable {I J Z : sr_V} {nn nm fr us : Nat} {K K' : Wt → Prop} {tl tl' mk mm l l1 l2 cx L1 L2 b c : List Wt} {ms : List (List Wt)} {a x y n kd of x7 s0 : Int} {Q : Int → sr_V → Prop} {R : sr_V → Prop} {w g p k ph ik ws ky sgn : Wt} {G : w_G} {P : Nat → Nat → Prop} {s m : Nat} {L : List (Wt × Nat)} {U : List (Wt × Wt)}
theorem r_prop_body (hm : m < 24) (hw : m_wr I mk nn K tl ms us) (hcx : m_cx I mk (w_cx G)) (hst : m_st I mk m G) (h300 : ms.length < 300) (hP : m_pp I mk ms m L) (hL3 : L.length < 340) (hU : m_up I mk m U) (hU4 : kd = 2 → U.length < 40 ∧ w_at mk x ws) (hk : (kd = 1 ∧ ∃ (oi : Nat) (lp : List Wt), of = oi ∧ ms[oi]? = some lp ∧ lp.length ≤ 1000 ∧ c = w_b16 lp.length ++ lp) ∨ (kd = 2 ∧ w_at mk x7 ky ∧ w_at mk s0 sgn ∧ c = w_lh m ky (w_pub m) 2 [] ++ [sgn]) ∨ (kd = 3 ∧ sw_c of ∧ c = w_b16 of)) (bd : m_bd (w_tls mk (w_prE G m (w_prB G kd c)))) (q : ∀ J, m_L J (w_tls mk (w_prE G m (w_prB G kd c))) nn (w_lrs K (w_prM G m (w_prB G kd c))) tl → m_M J (w_d (w_tls mk (w_prE G m (w_prB G kd c)))) (ms ++ [w_prM G m (w_prB G kd c)]) → m_pp J (w_tls mk (w_prE G m (w_prB G kd c))) (ms ++ [w_prM G m (w_prB G kd c)]) m (w_kp L (w_hs (w_prM G m (w_prB G kd c))) ms.length) → m_up J (w_tls mk (w_prE G m (w_prB G kd c))) m (if kd = 2 then U ++ [(w_hs (w_prM G m (w_prB G kd c)), ws)] else U) → J 1000 0 = I 1000 0 → m_gp (m_pv m us) I J → Q ms.length J) : rb_17_109 Q m kd of m x x7 s0 I := by
  have bm := m_bd_le (w_tls_le (w_prE G m (w_prB G kd c)) mk) bd
  have us3 := m_wr_us hw
  obtain ⟨g1, g2, g3, g4, g5, g6, _⟩ := id hst
  have lf16 : (gg_lf G : Int) < 65536 := by
    have := g1.2.1
    have := t_w31 g4.1.1
    omega
  unfold rb_17_109
  intro v98 e98 _ I102 e102 I107 e107
  rw [hw.2.2.2] at e98
  rw [e98] at e102
  obtain ⟨w1, gp1⟩ := m_wr_su hw e102 (Or.inr rfl)
  obtain ⟨L2', r2, f2⟩ := r_rs0 w1.1 e107
  have h110 : I107 1000 110 = us := by rw [f2.2 110 (by decide), e102, su_eq]
  refine r_b8 r2 (by simp) (fun J3 r3 f3 => ⟨by omega, by omega, ?_⟩)
  have f13 := m_fr_trans f2 f3
  have go : ∀ {X : sr_V}, m_fr [55] [56] I102 X → m_gp (m_pw us) I X := fun {X} f => m_gp_trans gp1 (m_gp_2w (m_f0_gp f))
  intro v118 e118 _
  rw [Int.toNat_natCast, (go f13) 29 m (m_pw_n (by omega)), g2] at e118
  rw [e118]
  refine r_b32 g1.1 r3 (by simp) (fun J4 r4 f4 => ⟨by omega, by omega, ?_⟩)
  have f14 := m_fr_trans f13 f4
  intro v128 e128 _
  rw [Int.toNat_natCast, (go f14) 30 m (m_pw_n (by omega)), g3] at e128
  rw [e128]
  refine r_b16 (by unfold sw_c; omega) r4 (by simp [w_b32, w_b16]) (fun J5 r5 f5 => ?_)
  have f15 := m_fr_trans f14 f5
  refine r_b8 r5 (by simp [w_b32, w_b16]) (fun J6 r6 f6 => ?_)
  have f16 := m_fr_trans f15 f6
  have kd3 : 1 ≤ kd ∧ kd ≤ 3 := by
    rcases hk with h | h | h
    · omega
    · omega
    · omega
  have ekd : kd % 256 = kd := by omega
  rw [ekd] at r6
  -- behind the content
  have fin : ∀ J7, m_fr [55] [56] J6 J7 → m_rr J7 mk (w_prB G kd c) → (w_prB G kd c).length ≤ 1100 → rb_17_176 Q m kd m x J7 := by
    intro J7 f7 r7 l7
    have f17 := m_fr_trans f16 f7
    have gp := go f17
    have L7 : m_L J7 mk nn K tl := m_f0_L w1.1 f17
    have gq : m_gp (fun f k => ¬ ((30 ≤ f ∧ f ≤ 54) ∨ (f = 1000 ∧ k = 0))) I J7 := fun f k h => gp f k (m_pw_n (by have := Decidable.byContradiction h; omega))
    refine r_prop_tail hm (m_wr_pw hw L7 (w_le_refl _) gp) (by rw [f7.2 110 (by decide), f6.2 110 (by decide), f5.2 110 (by decide), f4.2 110 (by decide), f3.2 110 (by decide)]; exact h110) r7 l7 ?_ (m_st_pw hst gp (w_le_refl _)) h300 ?_ hL3 ?_ hU4 bd (fun J8 a1 a2 a3 a4 a5 a6 => ?_)
    · have c1 : m_cx I102 mk (w_cx G) := m_cx_gp hcx (by rw [e102]; exact m_gp_su I 1000 110 us) (fun f k p => by omega)
      exact m_cx_p2 c1 (m_f0_gp f17) (w_le_refl _)
    · exact m_pp_gp (m := m) hP gq (fun f k h c => h (by unfold m_kq at c; omega)) (w_le_refl _) (fun _ _ h => h)
    · exact m_up_gp (m := m) hU gq (fun f k h => ⟨fun c => h (by omega), fun c => h (by omega)⟩) (w_le_refl _)
    · refine q J8 a1 a2 a3 a4 (by rw [a5, gp 1000 0 (m_pw_n (by omega))]) (m_gp_trans (m_gp_sub gp (fun f k p => Or.inl p)) a6)
  have hd : [] ++ [w_by (2 % 256)] ++ w_b32 (gg_ep G) ++ w_b16 (gg_lf G) ++ [w_by kd] ++ c = w_prB G kd c := by
    unfold w_prB
    simp
  have L6 : m_L J6 mk nn K tl := m_f0_L w1.1 f16
  have M6 : m_me J6 mk := m_me_p2 w1.2.1 (m_f0_gp f16)
  have hl8 : ∀ c' : List Wt, ([] ++ [w_by (2 % 256)] ++ w_b32 (gg_ep G) ++ w_b16 (gg_lf G) ++ [w_by kd] ++ c' : List Wt).length = 8 + c'.length := fun c' => by
    simp [w_b32, w_b16]; omega
  have hl80 : ([] ++ [w_by (2 % 256)] ++ w_b32 (gg_ep G) ++ w_b16 (gg_lf G) ++ [w_by kd] : List Wt).length = 8 := by
    simp [w_b32, w_b16]
  refine ⟨fun c1 => ⟨fun c2 => ?_, fun c2 => ?_⟩, fun c1 => ?_⟩
  · have hk3 : sw_c of ∧ c = w_b16 of := by
      rcases hk with h | h | h
      · omega
      · omega
      · exact h.2
    obtain ⟨h1, h2⟩ := hk3
    refine r_b16 h1 r6 (by rw [hl80]; omega) (fun J7 r7 f7 => fin J7 f7 ?_ ?_)
    · rw [← hd, h2]; exact r7
    · rw [← hd, hl8, h2]; show 8 + 2 ≤ 1100; omega
  · have hk2 : w_at mk x7 ky ∧ w_at mk s0 sgn ∧ c = w_lh m ky (w_pub m) 2 [] ++ [sgn] := by
      rcases hk with h | h | h
      · omega
      · exact h.2
      · omega
    obtain ⟨h1, h2, h3⟩ := hk2
    have ll := w_lh_len m ky (w_pub m) 2 []
    refine r_leafHead (ph := []) hm L6 M6 bm.1 h1 (by omega) (by omega) (Or.inl ⟨rfl, rfl⟩) r6 (by rw [hl80]; omega) (fun J7 r7 f7 => ?_)
    refine r_term r7 (by rw [hl8]; omega) bm.1 h2 (fun J8 r8 f8 => fin J8 (m_fr_trans f7 f8) ?_ ?_)
    · rw [← hd, h3, ← List.append_assoc]; exact r8
    · rw [← hd, hl8, h3, List.length_append]; simp; omega
  · have hk1 : ∃ (oi : Nat) (lp : List Wt), of = oi ∧ ms[oi]? = some lp ∧ lp.length ≤ 1000 ∧ c = w_b16 lp.length ++ lp := by
      rcases hk with h | h | h
      · exact h.2
      · omega
      · omega
    obtain ⟨oi, lp, h1, h2, h3, h4⟩ := hk1
    subst h1
    have w6 := m_wr_pw w1 L6 (w_le_refl _) (m_gp_2w (m_f0_gp f16))
    obtain ⟨m1, m2, m3, m4, m5⟩ := w6.2.2.1
    obtain ⟨a1, a2, a3, a4, a5⟩ := m5 oi lp h2
    have olt : oi < ms.length := (List.getElem?_eq_some_iff.mp h2).1
    have u6 := w6.2.2.2
    refine ⟨by omega, by omega, ?_⟩
    intro v167 e167 _
    rw [Int.toNat_natCast, a2] at e167
    rw [e167]
    refine r_b16 (by unfold sw_c; omega) r6 (by rw [hl80]; omega) (fun J7 r7 f7 => ⟨by omega, by omega, ?_⟩)
    intro v177 e177 _
    refine ⟨by omega, by omega, ?_⟩
    intro v180 e180 _
    refine ⟨by omega, by omega, ?_⟩
    intro v183 e183 _
    rw [Int.toNat_natCast, f7.1 24 (by simp) (by simp)] at e177 e180
    rw [Int.toNat_natCast, f7.1 25 (by simp) (by simp), a2] at e183
    obtain ⟨fr, efr⟩ : ∃ fr : Nat, J6 24 oi = fr := ⟨(J6 24 oi).toNat, by omega⟩
    rw [efr] at e177 e180 a4 a5
    rw [Int.toNat_natCast] at a5
    rw [e177, e180, e183, sw_w_s (by omega) (by omega)]
    refine r_bText (fr := fr) (l := lp) r7 ?_ (by omega) (by omega) (by rw [hl8]; show 8 + 2 + lp.length ≤ 6000; omega) (fun J8 r8 f8 => fin J8 (m_fr_trans f7 f8) ?_ ?_)
    · rw [f7.1 26 (by simp) (by simp), ← L6.2.2.2.1]; exact a5
    · rw [← hd, h4, ← List.append_assoc]; exact r8
    · rw [← hd, hl8, h4, List.length_append]; show 8 + (2 + lp.length) ≤ 1100; omega
/-- what a proposal says, and what is made for it before it is signed -/
def w_prC (m nn : Nat) (G : w_G) (kd of : Int) (lp : List Wt) : List Wt := if kd = 1 then w_b16 lp.length ++ lp else if kd = 2 then w_lh m (w_ky nn) (w_pub m) 2 [] ++ [w_lsg m (w_ky nn) 2 [] (gg_lf G)] else w_b16 of
def w_prP (m nn : Nat) (G : w_G) (kd : Int) : List Wt := if kd = 2 then [w_nm nn, w_ky nn, w_lsg m (w_ky nn) 2 [] (gg_lf G)] else []
def w_prA (m nn : Nat) (G : w_G) (kd of : Int) (lp : List Wt) : List Wt := w_prP m nn G kd ++ w_prE G m (w_prB G kd (w_prC m nn G kd of lp))
/-- where reading and asking write -/
def m_pi (f k : Nat) : Prop := f = 16 ∨ f = 55 ∨ (f = 1000 ∧ (k = 0 ∨ k = 19 ∨ k = 56 ∨ (57 ≤ k ∧ k ≤ 75)))
theorem m_pi_v {f k : Nat} (h : m_pi f k) : m_pv m us f k := by
  unfold m_pi at h
  unfold m_pv m_pw m_p2
  rcases h with h | h | ⟨h1, h | h | h | h⟩
  · exact Or.inr (Or.inl h)
  · exact Or.inl (Or.inl (Or.inr (Or.inr (Or.inr (Or.inl h)))))
  · exact Or.inr (Or.inr (Or.inr (Or.inr (Or.inr (Or.inr (Or.inr ⟨h1, Or.inl h⟩))))))
  · exact Or.inl (Or.inl (Or.inr (Or.inr (Or.inr (Or.inr (Or.inr ⟨h1, Or.inr (Or.inr (Or.inl h))⟩))))))
  · exact Or.inl (Or.inl (Or.inr (Or.inr (Or.inr (Or.inr (Or.inr ⟨h1, Or.inr (Or.inr (Or.inr h))⟩))))))
  · exact Or.inr (Or.inr (Or.inr (Or.inr (Or.inr (Or.inr (Or.inr ⟨h1, Or.inr (Or.inr (Or.inr h))⟩))))))
theorem m_wr_pi (h : m_wr I mk nn K tl ms us) (hJ : m_L J mk nn K tl) (f : m_gp m_pi I J) : m_wr J mk nn K tl ms us := by
  obtain ⟨hL, hM, hMs, hu⟩ := h
  refine ⟨hJ, m_me_gp hM f (fun f k p => by unfold m_pi at p; omega), m_M_gp hMs hu f (fun f k p => by unfold m_pi at p; omega), by rw [f 1000 23 (by unfold m_pi; omega)]; exact hu⟩
theorem r_prop_go (hm : m < 24) (hw : m_wr I mk nn K tl ms us) (hst : m_st I mk m G) (h300 : ms.length < 300) (hP : m_pp I mk ms m L) (hL3 : L.length < 340) (hU : m_up I mk m U) (hU4 : U.length < 40) (hk : (kd = 1 ∧ ∃ (oi : Nat), of = oi ∧ ms[oi]? = some l ∧ l.length ≤ 1000) ∨ kd = 2 ∨ (kd = 3 ∧ sw_c of)) (bd : m_bd (w_tls mk (w_prA m nn G kd of l))) (q : ∀ J, m_L J (w_tls mk (w_prA m nn G kd of l)) (if kd = 2 then nn + 1 else nn) (w_lrs K (w_prM G m (w_prB G kd (w_prC m nn G kd of l)))) tl → m_M J (w_d (w_tls mk (w_prA m nn G kd of l))) (ms ++ [w_prM G m (w_prB G kd (w_prC m nn G kd of l))]) → m_pp J (w_tls mk (w_prA m nn G kd of l)) (ms ++ [w_prM G m (w_prB G kd (w_prC m nn G kd of l))]) m (w_kp L (w_hs (w_prM G m (w_prB G kd (w_prC m nn G kd of l)))) ms.length) → m_up J (w_tls mk (w_prA m nn G kd of l)) m (if kd = 2 then U ++ [(w_hs (w_prM G m (w_prB G kd (w_prC m nn G kd of l))), w_nm nn)] else U) → J 1000 0 = 0 → m_gp (m_pv m us) I J → Q ms.length J) : rb_17_66 Q m kd of 0 I := by
  have bm := m_bd_le (w_tls_le _ mk) bd
  unfold rb_17_66
  intro I1 e1 v2 e2 _
  have g1 := m_gp_su I 1000 0 0
  rw [← e1] at g1
  have p1 : m_gp m_pi I I1 := m_gp_sub g1 (fun f k p => by unfold m_pi; omega)
  have L1 := m_L_gp hw.1 g1 (fun f k p => by omega)
  have w1 := m_wr_pi hw L1 p1
  have z1 : I1 1000 0 = 0 := by rw [e1, su_eq]
  rw [z1] at e2
  have st1 : m_st I1 mk m G := m_st_gp hst g1 (fun f k h c => by unfold m_pl at h; omega)
  refine ⟨fun _ => ?_, fun c => by omega⟩
  refine r_keepContext (s := m) (by omega) w1 st1 bm (fun J2 w2 cx2 r2 g2 => ?_)
  have st2 := m_st_pw st1 g2 (w_le_refl _)
  have g12 : m_gp (m_pv m us) I J2 := m_gp_trans (m_gp_sub p1 (fun f k p => m_pi_v p)) (m_gp_sub g2 (fun f k p => Or.inl p))
  have gq : m_gp (fun f k => ¬ (30 ≤ f ∧ f ≤ 54)) I J2 := fun f k h => by
    have h := Decidable.byContradiction h
    rw [g2 f k (m_pw_n (by omega)), g1 f k (by omega)]
  have P2 : m_pp J2 mk ms m L := m_pp_gp (m := m) hP gq (fun f k h c => h (by unfold m_kq at c; omega)) (w_le_refl _) (fun _ _ h => h)
  have U2 : m_up J2 mk m U := m_up_gp (m := m) hU gq (fun f k h => ⟨fun c => h (by omega), fun c => h (by omega)⟩) (w_le_refl _)
  have z2 : J2 1000 0 = 0 := by rw [g2 1000 0 (m_pw_n (by omega)), z1]
  refine ⟨fun c => ?_, fun c => ?_⟩
  · -- ADD and REMOVE
    have eP : w_prA m nn G kd of l = w_prE G m (w_prB G kd (w_prC m nn G kd of l)) := by
      unfold w_prA w_prP
      rw [if_neg c]
      rfl
    rw [eP] at bd q
    rw [if_neg c] at q
    unfold rb_17_84
    refine ⟨fun _ => ?_, fun c' => absurd c' c⟩
    unfold rb_17_93
    refine ⟨fun _ => ?_, fun c' => absurd c' c⟩
    refine r_prop_body (ws := []) (ky := []) (sgn := []) hm w2 cx2 st2 h300 P2 hL3 U2 (fun c' => absurd c' c) ?_ bd (fun J a1 a2 a3 a4 a5 a6 => q J a1 a2 a3 (by rw [if_neg c] at a4 ⊢; exact a4) (by rw [a5, z2]) (m_gp_trans g12 a6))
    rcases hk with ⟨h1, oi, h2, h3, h4⟩ | h | ⟨h1, h2⟩
    · refine Or.inl ⟨h1, oi, l, h2, h3, h4, ?_⟩
      unfold w_prC
      rw [if_pos h1]
    · exact absurd h c
    · refine Or.inr (Or.inr ⟨h1, h2, ?_⟩)
      unfold w_prC
      rw [if_neg (by omega), if_neg c]
  · -- UPDATE
    have eP : w_tls mk (w_prA m nn G kd of l) = w_tls (w_tl (w_tl (w_tl mk (w_nm nn)) (w_ky nn)) (w_lsg m (w_ky nn) 2 [] (gg_lf G))) (w_prE G m (w_prB G kd (w_prC m nn G kd of l))) := by
      unfold w_prA w_prP
      rw [if_pos c, w_tls_app]
      rfl
    rw [eP] at bd q
    rw [if_pos c] at q
    have b3 := m_bd_le (w_tls_le _ _) bd
    have b2 := m_bd_le (w_le_tl _ _) b3
    have b1 := m_bd_le (w_le_tl _ _) b2
    obtain ⟨g1', g2', g3', g4', _⟩ := id st2
    have lf16 : (gg_lf G : Int) < 65536 := by
      have := g1'.2.1
      have := t_w31 g4'.1.1
      omega
    refine m_nameT w2.1 b1 (fun t3 J3 L3 f3 a3 _ => ?_)
    unfold rb_17_84
    refine ⟨fun c' => absurd c c', fun _ => ?_⟩
    refine r_public L3 a3 b2 (fun t4 J4 L4 f4 _ a4 _ => ?_)
    have f34 := m_fr_trans f3 f4
    have le4 : w_le mk (w_tl (w_tl mk (w_nm nn)) (w_ky nn)) := w_le_trans (w_le_tl _ _) (w_le_tl _ _)
    unfold rb_17_93
    refine ⟨fun c' => absurd c c', fun _ => ⟨by omega, by omega, ?_⟩⟩
    intro v197 e197 _
    rw [Int.toNat_natCast, m_f1_gp f34 30 m (by unfold m_p2; omega), g3'] at e197
    rw [e197]
    refine r_signLeaf (ph := []) hm L4 (m_me_le (m_me_p2 w2.2.1 (m_f1_gp f34)) le4) a4 (by omega) (by omega) (Or.inl ⟨rfl, rfl⟩) (by unfold sw_c; omega) b3 (fun t5 J5 L5 a5 f5 _ => ?_)
    have f35 := m_fr_trans f34 f5
    have gp5 := m_f1_gp f35
    have le5 := w_le_trans le4 (w_le_tl (w_tl (w_tl mk (w_nm nn)) (w_ky nn)) (w_lsg m (w_ky nn) 2 [] (gg_lf G)))
    have w5 := m_wr_pw w2 L5 le5 (m_gp_2w gp5)
    have gq5 : m_gp (fun f k => ¬ (30 ≤ f ∧ f ≤ 54)) J2 J5 := fun f k h => by
      have h := Decidable.byContradiction h
      exact gp5 f k (m_p2_n (by omega))
    refine r_prop_body (ws := w_nm nn) (ky := w_ky nn) (sgn := w_lsg m (w_ky nn) 2 [] (gg_lf G)) hm w5 (m_cx_p2 cx2 gp5 le5) (m_st_pw (us := us) st2 (m_gp_2w gp5) le5) h300 (m_pp_gp (m := m) P2 gq5 (fun f k h c => h (by unfold m_kq at c; omega)) le5 (fun _ _ h => h)) hL3 (m_up_gp (m := m) U2 gq5 (fun f k h => ⟨fun c => h (by omega), fun c => h (by omega)⟩) le5) (fun _ => ⟨hU4, w_le_at (w_le_trans (w_le_tl _ _) (w_le_tl _ _)) a3⟩) ?_ bd (fun J a1 a2 a3 a4 a5 a6 => q J a1 a2 a3 (by rw [if_pos c] at a4 ⊢; exact a4) (by rw [a5, gp5 1000 0 (by unfold m_p2; omega), z2]) (m_gp_trans g12 (m_gp_trans (m_gp_sub gp5 (fun f k p => Or.inl (Or.inl p))) a6)))
    refine Or.inr (Or.inl ⟨c, w_le_at (w_le_tl _ _) a4, a5, ?_⟩)
    unfold w_prC
    rw [if_neg (by omega), if_pos c]
end
