/-! ===== the reference: offer ===== -/
noncomputable section
/-- a PACKAGE, up to its last signature; and all of it -/
def w_pkb (m : Nat) (ik ky : Wt) : List Wt := w_by 1 :: ik :: (w_lh m ky (w_pub m) 1 [] ++ [w_lsg m ky 1 [] 0])
def w_pkg (m : Nat) (ik ky : Wt) : List Wt := w_pkb m ik ky ++ [w_t 7 (w_nm m) [] [] (w_pkb m ik ky)]
theorem w_pkb_len (m : Nat) (ik ky : Wt) : (w_pkb m ik ky).length = 8 := rfl
/-- what the reference's offer makes -/
def w_ofL (m nn : Nat) : List Wt := [w_nm nn, w_nm (nn + 1), w_ky nn, w_ky (nn + 1), w_lsg m (w_ky (nn + 1)) 1 [] 0, w_t 7 (w_nm m) [] [] (w_pkb m (w_ky nn) (w_ky (nn + 1)))]
theorem w_ofL_tls (mk : List Wt) (m nn : Nat) : w_tls mk (w_ofL m nn) = w_tl (w_tl (w_tl (w_tl (w_tl (w_tl mk (w_nm nn)) (w_nm (nn + 1))) (w_ky nn)) (w_ky (nn + 1))) (w_lsg m (w_ky (nn + 1)) 1 [] 0)) (w_t 7 (w_nm m) [] [] (w_pkb m (w_ky nn) (w_ky (nn + 1)))) := rfl
section
variable {I J : sr_V} {nn us : Nat} {K K' : Wt → Prop} {tl mk mm l l0 l1 l2 cx : List Wt} {ms : List (List Wt)} {a b c x wo : Int} {Q : Int → sr_V → Prop} {R : sr_V → Prop} {T : w_T} {s : Nat} {G : w_G} {P : Nat → Nat → Prop}
theorem m_L_K {A F : List Nat} (h : m_L I mk nn K tl) (hK : m_K J (w_d mk) K') (f : m_fr A F I J) (hA : ∀ g ∈ A, ¬ (6 ≤ g ∧ g ≤ 15 ∨ g = 17)) (h4 : 4 ∉ F) (h5 : 5 ∉ F) (h18 : 18 ∉ F) : m_L J mk nn K' tl := by
  obtain ⟨h1, h2, h3, e4, e5⟩ := h
  refine ⟨m_T_fr f (fun g hg => by have := hA g hg; omega) h4 h5 h1, hK, m_N_same (f.1 13 (fun hm => hA _ hm (by omega)) (by decide)) (f.1 14 (fun hm => hA _ hm (by omega)) (by decide)) (f.2 18 h18) (f.2 4 h4) h3, by rw [f.2 4 h4]; exact e4, by rw [f.2 5 h5]; exact e5⟩
/-- what a member keeps of its packages: message, secrets of init and leaf -/
def m_pk (I : sr_V) (mk : List Wt) (m : Nat) (L : List (Nat × Wt × Wt)) : Prop := I 45 m = L.length ∧ L.length ≤ 8 ∧ ∀ (i k : Nat) (u v : Wt), L[i]? = some (k, u, v) → I 48 (8 * m + i) = k ∧ w_at mk (I 49 (8 * m + i)) u ∧ w_at mk (I 50 (8 * m + i)) v
theorem m_pk_gp {m : Nat} {L : List (Nat × Wt × Wt)} (h : m_pk I mk m L) (f : m_gp P I J) (p : ∀ f k, P f k → ¬ (f = 45 ∧ k = m) ∧ ¬ ((f = 48 ∨ f = 49 ∨ f = 50) ∧ 8 * m ≤ k ∧ k < 8 * m + 8)) (hl : w_le mk mm) : m_pk J mm m L := by
  obtain ⟨h1, h2, h3⟩ := h
  refine ⟨by rw [f 45 m (fun q => (p _ _ q).1 ⟨rfl, rfl⟩)]; exact h1, h2, fun i k u v hi => ?_⟩
  have il : i < L.length := by
    rcases Nat.lt_or_ge i L.length with c | c
    · exact c
    · rw [List.getElem?_eq_none c] at hi
      exact absurd hi (by simp)
  obtain ⟨k1, k2, k3⟩ := h3 i k u v hi
  rw [f 48 _ (fun q => (p _ _ q).2 ⟨by omega, by omega, by omega⟩), f 49 _ (fun q => (p _ _ q).2 ⟨by omega, by omega, by omega⟩), f 50 _ (fun q => (p _ _ q).2 ⟨by omega, by omega, by omega⟩)]
  exact ⟨k1, w_le_at hl k2, w_le_at hl k3⟩
/-- where offer writes -/
def m_po (m us : Nat) (f k : Nat) : Prop := m_p2 f k ∨ f = 16 ∨ f = 24 ∨ f = 25 ∨ (f = 26 ∧ us ≤ k) ∨ (f = 45 ∧ k = m) ∨ ((f = 48 ∨ f = 49 ∨ f = 50) ∧ 8 * m ≤ k ∧ k < 8 * m + 8) ∨ (f = 1000 ∧ (k = 0 ∨ k = 22 ∨ k = 23 ∨ k = 109 ∨ k = 110))
theorem m_po_pf {m us f k : Nat} (p : m_pf us f k) : m_po m us f k := by
  rcases p with p | p | ⟨p1, p2⟩
  · exact Or.inr (Or.inr (Or.inr (Or.inr (Or.inl p))))
  · exact Or.inl (Or.inr (Or.inr (Or.inr (Or.inl p))))
  · rcases p2 with p2 | p2
    · exact Or.inl (Or.inr (Or.inr (Or.inr (Or.inr (Or.inr ⟨p1, Or.inr (Or.inr (Or.inr p2))⟩)))))
    · exact Or.inr (Or.inr (Or.inr (Or.inr (Or.inr (Or.inr (Or.inr ⟨p1, Or.inr (Or.inr (Or.inr (Or.inr p2)))⟩))))))
theorem m_po_i {m us f k : Nat} (p : f = 1000 ∧ (k = 0 ∨ k = 22 ∨ k = 23 ∨ k = 109 ∨ k = 110)) : m_po m us f k := Or.inr (Or.inr (Or.inr (Or.inr (Or.inr (Or.inr (Or.inr p))))))
theorem m_po_c {m us f k : Nat} (p : (f ≠ 1000 ∧ (f = 16 ∨ f = 24 ∨ f = 25)) ∨ (f = 1000 ∧ (k = 19 ∨ k = 22 ∨ k = 23))) : m_po m us f k := by
  rcases p with ⟨_, p | p | p⟩ | ⟨p1, p | p | p⟩
  · exact Or.inr (Or.inl p)
  · exact Or.inr (Or.inr (Or.inl p))
  · exact Or.inr (Or.inr (Or.inr (Or.inl p)))
  · exact Or.inl (Or.inr (Or.inr (Or.inr (Or.inr (Or.inr ⟨p1, Or.inr (Or.inr (Or.inl p))⟩)))))
  · exact m_po_i ⟨p1, Or.inr (Or.inl p)⟩
  · exact m_po_i ⟨p1, Or.inr (Or.inr (Or.inl p))⟩
theorem m_po_k {m us f k n : Nat} (hn : n < 8) (p : ((f = 48 ∨ f = 49 ∨ f = 50) ∧ k = 8 * m + n) ∨ (f = 45 ∧ k = m)) : m_po m us f k := by
  rcases p with ⟨p1, p2⟩ | p
  · exact Or.inr (Or.inr (Or.inr (Or.inr (Or.inr (Or.inr (Or.inl ⟨p1, by omega, by omega⟩))))))
  · exact Or.inr (Or.inr (Or.inr (Or.inr (Or.inr (Or.inl p)))))
theorem m_p2_n {f k : Nat} (h : (18 ≤ f ∧ f ≤ 54) ∨ (f = 1000 ∧ (k = 0 ∨ k = 22 ∨ k = 23))) : ¬ m_p2 f k := by unfold m_p2; omega
theorem m_pf_n {us f k : Nat} (h : (18 ≤ f ∧ f ≤ 54 ∧ f ≠ 26) ∨ (f = 1000 ∧ (k = 0 ∨ k = 22 ∨ k = 23))) : ¬ m_pf us f k := by unfold m_pf; omega
theorem w_192 {m n : Nat} (hm : m < 24) (hn : n < 8) : ((8 * m + n : Nat) : Int) < 192 := by omega
theorem w_24 {m : Nat} (hm : m < 24) : (m : Int) < 24 := by omega
theorem r_offer_go {m : Nat} {L : List (Nat × Wt × Wt)} (hm : m < 24) (hL : m_L I mk nn K tl) (hM : m_me I mk) (hMs : m_M I (w_d mk) ms) (h300 : ms.length < 300) (hP : m_pk I mk m L) (h8 : L.length < 8) (bd : m_bd (w_tls mk (w_ofL m nn))) (q : ∀ J, m_L J (w_tls mk (w_ofL m nn)) (nn + 2) (w_lrs K (w_pkg m (w_ky nn) (w_ky (nn + 1)))) tl → m_M J (w_d (w_tls mk (w_ofL m nn))) (ms ++ [w_pkg m (w_ky nn) (w_ky (nn + 1))]) → m_pk J (w_tls mk (w_ofL m nn)) m (L ++ [(ms.length, w_nm nn, w_nm (nn + 1))]) → J 1000 0 = 0 → m_gp (m_po m (I 1000 23).toNat) I J → Q ms.length J) : rb_15_21 Q m 0 I := by
  rw [w_ofL_tls] at bd q
  have b5 := m_bd_le (w_le_tl _ _) bd
  have b4 := m_bd_le (w_le_tl _ _) b5
  have b3 := m_bd_le (w_le_tl _ _) b4
  have b2 := m_bd_le (w_le_tl _ _) b3
  have b1 := m_bd_le (w_le_tl _ _) b2
  obtain ⟨us, eus⟩ : ∃ us : Nat, I 1000 23 = us := ⟨(I 1000 23).toNat, by have := hMs.2.2.1; omega⟩
  rw [eus, Int.toNat_natCast] at q
  have us3 : us ≤ 360000 := by have := hMs.2.2.2.1; omega
  unfold rb_15_21
  intro I1 e1
  have g1 := m_gp_su I 1000 0 0
  rw [← e1] at g1
  have L1 := m_L_gp hL g1 (fun f k p => by omega)
  have M1 := m_me_gp hM g1 (fun f k p => by omega)
  have S1 : m_M I1 (w_d mk) ms := m_M_gp hMs eus g1 (fun f k p => by omega)
  have z1 : I1 1000 0 = 0 := by rw [e1, su_eq]
  intro v ev _
  rw [z1] at ev
  refine ⟨fun _ => ?_, fun c => by omega⟩
  refine m_nameT L1 b1 (fun t1 J2 L2 f2 a2 _ => ?_)
  refine m_nameT L2 b2 (fun t2 J3 L3 f3 a3 _ => ?_)
  refine r_public L3 (w_le_at (w_le_tl _ _) a2) b3 (fun t3 J4 L4 f4 _ a4 _ => ?_)
  refine r_public L4 (w_le_at (w_le_tl _ _) a3) b4 (fun t4 J5 L5 f5 _ a5 _ => ?_)
  have f15 := m_fr_trans f2 (m_fr_trans f3 (m_fr_trans f4 f5))
  have le5 : w_le mk (w_tl (w_tl (w_tl (w_tl mk (w_nm nn)) (w_nm (nn + 1))) (w_ky nn)) (w_ky (nn + 1))) := w_le_trans (w_le_tl _ _) (w_le_trans (w_le_tl _ _) (w_le_trans (w_le_tl _ _) (w_le_tl _ _)))
  have M5 : m_me J5 (w_tl (w_tl (w_tl (w_tl mk (w_nm nn)) (w_nm (nn + 1))) (w_ky nn)) (w_ky (nn + 1))) := m_me_le (m_me_p2 M1 (m_f1_gp f15)) le5
  refine r_signLeaf (ph := []) hm L5 M5 a5 (by omega) (by omega) (Or.inl ⟨rfl, rfl⟩) (by unfold sw_c; omega) b5 (fun t6 J6 L6 a6 f6 _ => ?_)
  have f16 := m_fr_trans f15 f6
  have le6 := w_le_trans le5 (w_le_tl (w_tl (w_tl (w_tl (w_tl mk (w_nm nn)) (w_nm (nn + 1))) (w_ky nn)) (w_ky (nn + 1))) (w_lsg m (w_ky (nn + 1)) 1 [] 0))
  have M6 := m_me_le (m_me_p2 M5 (m_f1_gp f6)) (w_le_tl _ (w_lsg m (w_ky (nn + 1)) 1 [] 0))
  have S6 := m_M_p2 L1 L6 le6 S1 (m_f1_gp f16)
  have u6 : J6 1000 23 = us := by rw [f16.2 23 (by decide), g1 1000 23 (by omega), eus]
  intro v59 e59 _ I63 e63 I68 e68
  rw [u6] at e59
  rw [e59] at e63
  have g63 := m_gp_su J6 1000 110 (us : Int)
  rw [← e63] at g63
  have L63 := m_L_gp L6 g63 (fun f k p => by omega)
  obtain ⟨L7, r7, f7⟩ := r_rs0 L63 e68
  have M7 := m_me_p2 (m_me_gp M6 g63 (fun f k p => by omega)) (m_f0_gp f7)
  have t7 : m_tx I68 (w_tl (w_tl (w_tl (w_tl (w_tl mk (w_nm nn)) (w_nm (nn + 1))) (w_ky nn)) (w_ky (nn + 1))) (w_lsg m (w_ky (nn + 1)) 1 [] 0)) us [] := by
    refine ⟨by rw [f7.2 23 (by decide), g63 1000 23 (by omega), u6], by rw [f7.2 110 (by decide), e63, su_eq]; simp, fun k w hk => by simp at hk, us3⟩
  refine r_b8 r7 (by simp) (fun J8 r8 f8 => ?_)
  refine r_term r8 (by simp) b5.1 (w_le_at (w_le_trans (w_le_tl _ _) (w_le_tl _ _)) a4) (fun J9 r9 f9 => ?_)
  have f79 := m_fr_trans f8 f9
  refine r_leafHead (ph := []) hm (m_f0_L L7 f79) (m_me_p2 M7 (m_f0_gp f79)) b5.1 (w_le_at (w_le_tl _ _) a5) (by omega) (by omega) (Or.inl ⟨rfl, rfl⟩) r9 (by simp) (fun J10 r10 f10 => ?_)
  have f710 := m_fr_trans f79 f10
  have lh : (w_lh m (w_t 5 (w_nm (nn + 1)) [] [] []) (w_pub m) 1 []).length ≤ 6 := w_lh_len m (w_ky (nn + 1)) (w_pub m) 1 []
  refine r_term r10 (by simp; omega) b5.1 a6 (fun J11 r11 f11 => ?_)
  have f711 := m_fr_trans f710 f11
  have er : [] ++ [w_by (1 % 256)] ++ [w_ky nn] ++ w_lh m (w_ky (nn + 1)) (w_pub m) 1 [] ++ [w_lsg m (w_ky (nn + 1)) 1 [] 0] = w_pkb m (w_ky nn) (w_ky (nn + 1)) := by
    unfold w_pkb
    simp
  have r11' : m_rr J11 (w_tl (w_tl (w_tl (w_tl (w_tl mk (w_nm nn)) (w_nm (nn + 1))) (w_ky nn)) (w_ky (nn + 1))) (w_lsg m (w_ky (nn + 1)) 1 [] 0)) (w_pkb m (w_ky nn) (w_ky (nn + 1))) := by
    rw [← er]
    exact r11
  refine r_flush r11' (m_tx_p2 t7 (m_f0_gp f711)) (by rw [w_pkb_len]; simp) (fun J12 t12 r12 g12 => ?_)
  rw [List.nil_append] at t12
  have L12 := m_L_pf (m_f0_L L7 f711) g12
  have M12 := m_me_gp (m_me_p2 M7 (m_f0_gp f711)) g12 (fun f k p => by unfold m_pf at p; omega)
  intro I108 e108
  have g108 := m_gp_su J12 1000 109 0
  rw [← e108] at g108
  have L108 := m_L_gp L12 g108 (fun f k p => by omega)
  have M108 := m_me_gp M12 g108 (fun f k p => by omega)
  have t108 := m_tx_gp t12 g108 (fun f k p => by omega)
  have cx108 : m_cx I108 (w_tl (w_tl (w_tl (w_tl (w_tl mk (w_nm nn)) (w_nm (nn + 1))) (w_ky nn)) (w_ky (nn + 1))) (w_lsg m (w_ky (nn + 1)) 1 [] 0)) [] := ⟨by rw [e108, su_eq]; rfl, by simp, fun k w hk => by simp at hk⟩
  refine r_signSoFar hm L108 M108 t108 cx108 (by rw [w_pkb_len]; omega) (by rw [List.append_nil]; exact bd) (fun t13 J13 L13 a13 f13 _ => ?_)
  rw [List.append_nil] at L13 a13
  have t13' := m_tx_le (m_tx_p2 t108 (m_f1_gp f13)) (w_le_tl _ (w_t 7 (w_nm m) [] [] (w_pkb m (w_ky nn) (w_ky (nn + 1)))))
  refine r_flushTerm L13 bd.1 t13' a13 (by rw [w_pkb_len]; omega) (fun J14 L14 t14 r14 g14 => ⟨by omega, by omega, ?_⟩)
  -- from I to J14
  have le14 := w_le_trans le6 (w_le_tl _ (w_t 7 (w_nm m) [] [] (w_pkb m (w_ky nn) (w_ky (nn + 1)))))
  have ga : m_gp (m_po m us) I J14 := by
    refine m_gp_trans (m_gp_sub g1 (fun f k p => m_po_i ⟨p.1, Or.inl p.2⟩)) (m_gp_trans (m_gp_sub (m_f1_gp f16) (fun f k p => Or.inl p)) (m_gp_trans (m_gp_sub g63 (fun f k p => m_po_i ⟨p.1, Or.inr (Or.inr (Or.inr (Or.inr p.2)))⟩)) (m_gp_trans (m_gp_sub (m_f0_gp (m_fr_trans f7 f711)) (fun f k p => Or.inl p)) (m_gp_trans (m_gp_sub g12 (fun f k p => m_po_pf p)) (m_gp_trans (m_gp_sub g108 (fun f k p => m_po_i ⟨p.1, Or.inr (Or.inr (Or.inr (Or.inl p.2)))⟩)) (m_gp_trans (m_gp_sub (m_f1_gp f13) (fun f k p => Or.inl p)) (m_gp_sub g14 (fun f k p => m_po_pf p))))))))
  have gb : ∀ f k, (24 ≤ f ∧ f ≤ 25) ∨ (45 ≤ f ∧ f ≤ 50) ∨ (f = 1000 ∧ (k = 0 ∨ k = 22 ∨ k = 23)) → J14 f k = I1 f k := by
    intro f k h
    have h2 : (18 ≤ f ∧ f ≤ 54) ∨ (f = 1000 ∧ (k = 0 ∨ k = 22 ∨ k = 23)) := by omega
    have h3 : (18 ≤ f ∧ f ≤ 54 ∧ f ≠ 26) ∨ (f = 1000 ∧ (k = 0 ∨ k = 22 ∨ k = 23)) := by omega
    rw [g14 f k (m_pf_n h3), m_f1_gp f13 f k (m_p2_n h2), g108 f k (by omega), g12 f k (m_pf_n h3), m_f0_gp (m_fr_trans f7 f711) f k (m_p2_n h2), g63 f k (by omega), m_f1_gp f16 f k (m_p2_n h2)]
  have S12 : m_M J12 (w_d (w_tl (w_tl (w_tl (w_tl (w_tl mk (w_nm nn)) (w_nm (nn + 1))) (w_ky nn)) (w_ky (nn + 1))) (w_lsg m (w_ky (nn + 1)) 1 [] 0))) ms := by
    have s63 := m_M_gp S6 u6 g63 (fun f k p => by omega)
    have s7 := m_M_p2 L63 (m_f0_L L7 f711) (w_le_refl _) s63 (m_f0_gp (m_fr_trans f7 f711))
    exact m_M_gp s7 (m_tx_p2 t7 (m_f0_gp f711)).1 g12 (fun f k p => by unfold m_pf at p; omega)
  have S13 := m_M_p2 L108 L13 (w_le_tl _ _) (m_M_gp S12 t12.1 g108 (fun f k p => by omega)) (m_f1_gp f13)
  have S14 := m_M_gp S13 t13'.1 g14 (fun f k p => by unfold m_pf at p; omega)
  have e45 : J14 45 m = L.length := by rw [gb 45 m (by omega), g1 45 m (by omega)]; exact hP.1
  intro v126 e126 _ y129 e129
  rw [Int.toNat_natCast, e45] at e126
  have ey : y129 = ((8 * m + L.length : Nat) : Int) := by
    rw [e129, e126, sw_w_s (z := 8 * (m : Int)) (by omega) (by omega), sw_w_s (by omega) (by omega)]
    omega
  rw [ey]
  clear lh e129 ey
  refine m_close (mk := 1) (l := w_pkg m (w_ky nn) (w_ky (nn + 1))) L14.1 L14.2.1 S14 h300 (show 9 ≤ 1200 by decide) (by rw [t14.1, t14.2.1]; rfl) (by rw [t14.1, Int.toNat_natCast, L14.2.2.2.1]; exact t14.2.2.1) (fun J15 K15 S15 f15' _ => ?_)
  rw [if_neg (by decide)] at K15
  have L15 := m_L_K L14 K15 f15' (fun g hg => by simp at hg; omega) (by simp) (by simp) (by simp)
  have g15 : m_gp (m_po m us) J14 J15 := m_gp_sub (m_fr_gp f15') (fun f k p => m_po_c (by simpa using p))
  refine ⟨Int.natCast_nonneg _, w_192 hm h8, ?_⟩
  intro I144 e144
  refine ⟨Int.natCast_nonneg _, w_192 hm h8, ?_⟩
  intro I149 e149
  refine ⟨Int.natCast_nonneg _, w_192 hm h8, ?_⟩
  intro I154 e154
  refine ⟨Int.natCast_nonneg _, w_24 hm, ?_⟩
  intro v158 e158 _
  refine ⟨Int.natCast_nonneg _, w_24 hm, ?_⟩
  intro I162 e162
  rw [Int.toNat_natCast] at e144 e149 e154 e158 e162
  have e45' : v158 = L.length := by
    rw [e158, e154, su_f (by decide), e149, su_f (by decide), e144, su_f (by decide), f15'.1 45 (by decide) (by decide), e45]
  rw [e45', sw_w_s (by omega) (by omega)] at e162
  have gz : m_gp (fun f k => ((f = 48 ∨ f = 49 ∨ f = 50) ∧ k = 8 * m + L.length) ∨ (f = 45 ∧ k = m)) J15 I162 := by
    intro f k hp
    rw [e162, e154, e149, e144]
    simp only [su_at]
    rw [if_neg (by omega), if_neg (by omega), if_neg (by omega), if_neg (by omega)]
  have x48 : I162 48 (8 * m + L.length) = ms.length := by rw [e162, e154, e149, e144]; simp [su_at]
  have x49 : I162 49 (8 * m + L.length) = t1 := by rw [e162, e154, e149]; simp [su_at]
  have x50 : I162 50 (8 * m + L.length) = t2 := by rw [e162, e154]; simp [su_at]
  have x45 : I162 45 m = L.length + 1 := by rw [e162]; simp [su_at]
  clear e144 e149 e154 e158 e162
  have le2 : w_le (w_tl mk (w_nm nn)) (w_tl (w_tl (w_tl (w_tl (w_tl (w_tl mk (w_nm nn)) (w_nm (nn + 1))) (w_ky nn)) (w_ky (nn + 1))) (w_lsg m (w_ky (nn + 1)) 1 [] 0)) (w_t 7 (w_nm m) [] [] (w_pkb m (w_ky nn) (w_ky (nn + 1))))) := w_le_trans (w_le_tl _ _) (w_le_trans (w_le_tl _ _) (w_le_trans (w_le_tl _ _) (w_le_trans (w_le_tl _ _) (w_le_tl _ _))))
  have le3 : w_le (w_tl (w_tl mk (w_nm nn)) (w_nm (nn + 1))) (w_tl (w_tl (w_tl (w_tl (w_tl (w_tl mk (w_nm nn)) (w_nm (nn + 1))) (w_ky nn)) (w_ky (nn + 1))) (w_lsg m (w_ky (nn + 1)) 1 [] 0)) (w_t 7 (w_nm m) [] [] (w_pkb m (w_ky nn) (w_ky (nn + 1))))) := w_le_trans (w_le_tl _ _) (w_le_trans (w_le_tl _ _) (w_le_trans (w_le_tl _ _) (w_le_tl _ _)))
  obtain ⟨us15, eus15⟩ : ∃ u : Nat, J15 1000 23 = u := ⟨(J15 1000 23).toNat, by have := S15.2.2.1; omega⟩
  refine q I162 (m_L_gp L15 gz (fun f k p => by omega)) (m_M_gp S15 eus15 gz (fun f k p => by omega)) ?_ ?_ (m_gp_trans ga (m_gp_trans g15 (m_gp_sub gz (fun f k p => m_po_k h8 p))))
  · refine ⟨by rw [x45, List.length_append]; simp, by rw [List.length_append]; simp; omega, fun i k u v hi => ?_⟩
    by_cases ci : i < L.length
    · rw [List.getElem?_append_left ci] at hi
      obtain ⟨k1, k2, k3⟩ := hP.2.2 i k u v hi
      have ev : ∀ f, f = 48 ∨ f = 49 ∨ f = 50 → I162 f (8 * m + i) = I f (8 * m + i) := fun f hf => by
        rw [gz f _ (by omega), f15'.1 f (by simp; omega) (by omega), gb f _ (by omega), g1 f _ (by omega)]
      rw [ev 48 (by omega), ev 49 (by omega), ev 50 (by omega)]
      exact ⟨k1, w_le_at le14 k2, w_le_at le14 k3⟩
    · have ei : i = L.length := by
        have : i < (L ++ [(ms.length, w_nm nn, w_nm (nn + 1))]).length := by
          rcases Nat.lt_or_ge i (L ++ [(ms.length, w_nm nn, w_nm (nn + 1))]).length with c | c
          · exact c
          · rw [List.getElem?_eq_none c] at hi
            exact absurd hi (by simp)
        rw [List.length_append] at this
        simp at this
        omega
      subst ei
      rw [List.getElem?_append_right (by omega), Nat.sub_self] at hi
      have hi := Option.some.inj hi
      rw [Prod.mk.injEq, Prod.mk.injEq] at hi
      obtain ⟨i1, i2, i3⟩ := hi
      rw [x48, x49, x50, ← i1, ← i2, ← i3]
      exact ⟨rfl, w_le_at le2 a2, w_le_at le3 a3⟩
  · rw [gz 1000 0 (by omega), f15'.2 0 (by decide), gb 1000 0 (by omega), z1]
theorem r_offer {Lk : Nat → List (Nat × Wt × Wt)} (hL : m_L I mk nn K tl) (hM : m_me I mk) (hMs : m_M I (w_d mk) ms) (hP : ∀ m : Nat, m < 24 → m_pk I mk m (Lk m)) (bd : ∀ m : Nat, x = m → m < 24 → ms.length < 300 → (Lk m).length < 8 → m_bd (w_tls mk (w_ofL m nn))) (q1 : ¬ (0 ≤ x ∧ x < 24) → Q 0 (su I 1000 0 1)) (q2 : ∀ m : Nat, x = m → m < 24 → ms.length = 300 ∨ (Lk m).length = 8 → Q 0 (su I 1000 0 2)) (q : ∀ (m : Nat) J, x = m → m < 24 → ms.length < 300 → (Lk m).length < 8 → m_L J (w_tls mk (w_ofL m nn)) (nn + 2) (w_lrs K (w_pkg m (w_ky nn) (w_ky (nn + 1)))) tl → m_M J (w_d (w_tls mk (w_ofL m nn))) (ms ++ [w_pkg m (w_ky nn) (w_ky (nn + 1))]) → m_pk J (w_tls mk (w_ofL m nn)) m (Lk m ++ [(ms.length, w_nm nn, w_nm (nn + 1))]) → J 1000 0 = 0 → m_gp (m_po m (I 1000 23).toNat) I J → Q ms.length J) : rm_15 x I Q := by
  have thr : ∀ z : Int, 0 < z → Q 0 (su I 1000 0 z) → rb_15_21 Q x z I := by
    intro z hz hR
    unfold rb_15_21
    intro I1 e1 v ev _
    have ev : v = z := by rw [ev, e1, su_eq]
    refine ⟨fun c => by omega, fun _ => ?_⟩
    rw [e1]
    exact hR
  have h22 := hMs.1
  have h300 := hMs.2.1
  unfold rm_15
  refine ⟨fun c => thr 1 (by omega) (q1 (by omega)), fun c => ⟨fun c1 => ?_, fun c1 => thr 1 (by omega) (q1 (by omega))⟩⟩
  obtain ⟨m, em⟩ : ∃ m : Nat, x = m := ⟨x.toNat, by omega⟩
  subst em
  have pm := hP m (by omega)
  intro v ev _
  refine ⟨fun c2 => thr 2 (by omega) (q2 m rfl (by omega) (by omega)), fun c2 => ⟨by omega, by omega, ?_⟩⟩
  intro w ew _
  have p45 := pm.1
  rw [Int.toNat_natCast, p45] at ew
  have p8 := pm.2.1
  refine ⟨fun c3 => ?_, fun c3 => thr 2 (by omega) (q2 m rfl (by omega) (by omega))⟩
  exact r_offer_go (by omega) hL hM hMs (by omega) pm (by omega) (bd m rfl (by omega) (by omega) (by omega)) (fun J => q m J rfl (by omega) (by omega) (by omega))
end
end
