/-! ===== the reference: the end of a commit ===== -/
noncomputable section
/-- signature, confirmation, tag, message and next group of a commit whose text is lt -/
def w_cS (G : w_G) (m : Nat) (lt : List Wt) : Wt := w_t 7 (w_nm m) [] [] (lt ++ w_cx G)
def w_cf2 (G : w_G) (m : Nat) (lt : List Wt) : Wt := w_cfn G (lt ++ [w_cS G m lt])
def w_es2 (G : w_G) (T : w_T) (m : Nat) (cs : Wt) (lt : List Wt) : Wt := w_esn G T cs (lt ++ [w_cS G m lt])
def w_cm2 (G : w_G) (T : w_T) (m : Nat) (cs : Wt) (lt : List Wt) : Wt := w_cfm (w_es2 G T m cs lt) (w_cf2 G m lt)
def w_cT (G : w_G) (T : w_T) (m : Nat) (cs : Wt) (lt : List Wt) : Wt := w_t 2 (w_mem G) [] [] (lt ++ [w_cS G m lt] ++ [w_cm2 G T m cs lt])
def w_cM (G : w_G) (T : w_T) (m : Nat) (cs : Wt) (lt : List Wt) : List Wt := lt ++ [w_cS G m lt] ++ [w_cm2 G T m cs lt] ++ [w_cT G T m cs lt]
def w_Gn (G : w_G) (T : w_T) (m : Nat) (cs : Wt) (lt : List Wt) (hd : Nat → Wt) : w_G := (w_epn G, gg_lf G, T, w_int (w_cf2 G m lt) (w_cm2 G T m cs lt), w_cf2 G m lt, w_es2 G T m cs lt, hd)
/-- what the end of a commit makes -/
def w_cmS (G : w_G) (T : w_T) (m : Nat) (cs : Wt) (lt : List Wt) (v : Wt) : Prop := v = w_cS G m lt ∨ v = w_ini G ∨ v = w_jnr G cs ∨ v = w_cf2 G m lt ∨ v = w_es2 G T m cs lt ∨ v = w_dr (w_es2 G T m cs lt) 2 ∨ v = w_cm2 G T m cs lt ∨ v = w_mem G ∨ v = w_cT G T m cs lt ∨ v = w_int (w_cf2 G m lt) (w_cm2 G T m cs lt) ∨ ∃ y ∈ w_ordk (w_h (t_top T)) (t_top T) (w_h (t_top T) + 1) 0, v = w_th T 0 y
/-- what it touches -/
def m_pcm (m us f k : Nat) : Prop := m_pw us f k ∨ f = 16 ∨ f = 24 ∨ f = 25 ∨ (f = 1000 ∧ (k = 22 ∨ k = 23)) ∨ m_pl 48 f k ∨ m_pl (24 + m) f k ∨ ((f = 28 ∨ f = 35) ∧ k = m)
variable {I I0 J X : sr_V} {nn nm s u k h us : Nat} {K K' K2 : Wt → Prop} {tl tl' mk mm l0 l1 l2 lw lt : List Wt} {a b c y n msk lf : Int} {Q : Int → sr_V → Prop} {R : sr_V → Prop} {x i e l m : Nat} {P : Nat → Nat → Prop} {S : Wt → Prop} {w ls n0 cs : Wt} {L : List w_Ch} {d : w_Ch} {G : w_G} {T : w_T} {ms : List (List Wt)} {hd : Nat → Wt}
theorem m_gp_48 (g : m_gp (fun f k => m_p2 f k ∨ ((f = 29 ∨ f = 33 ∨ f = 34) ∧ k = 48)) I J) : m_gp (m_pcm m us) I J := m_gp_sub g (fun f k p => by
  rcases p with p | p
  · exact Or.inl (m_pw_2 p)
  · exact Or.inr (Or.inr (Or.inr (Or.inr (Or.inr (Or.inl (Or.inl (by omega)))))))) 
/-- messages stay where terms are made and text is written behind them -/
theorem m_M_up (hL : m_L I mk nn K tl) (hJ : m_L J mm nm K' tl') (hl : w_le mk mm) (h : m_M I (w_d mk) ms) (hu : I 1000 23 = (us : Nat)) (g : m_gp P I J) (hP : ∀ f k, P f k → f ≠ 24 ∧ f ≠ 25 ∧ (f = 26 → us ≤ k) ∧ (f = 1000 → k ≠ 22 ∧ k ≠ 23)) : m_M J (w_d mm) ms := by
  obtain ⟨h1, h2, h3, h4, h5⟩ := h
  have e22 : J 1000 22 = I 1000 22 := g 1000 22 (fun q => ((hP _ _ q).2.2.2 rfl).1 rfl)
  have e23 : J 1000 23 = I 1000 23 := g 1000 23 (fun q => ((hP _ _ q).2.2.2 rfl).2 rfl)
  unfold m_M
  rw [e22, e23]
  refine ⟨h1, h2, h3, h4, fun i l hi => ?_⟩
  obtain ⟨k1, k2, k3, k4, k5⟩ := h5 i l hi
  rw [g 24 i (fun q => (hP _ _ q).1 rfl), g 25 i (fun q => (hP _ _ q).2.1 rfl), hJ.2.2.2.1]
  rw [hL.2.2.2.1] at k5
  refine ⟨k1, k2, k3, k4, m_at_le (m_at_cg k5 (fun k hk => g 26 _ (fun q => ?_))) hl⟩
  have := (hP _ _ q).2.2.1 rfl
  omega
theorem r_cm_tail {x5 x6 : Int} (hm : m < 24) (hw : m_wr I mk nn K tl ms us) (hcx : m_cx I mk (w_cx G)) (hst : m_st I mk m G) (hT : m_tr I mk 48 T) (hcs : w_at mk x6 cs) (ht : m_tx I mk us lt) (hlt : lt.length ≤ 1100) (hh : ∀ x, x < t_w T → w_az mk (I 44 (31 * 48 + x)) (hd x)) (hok : gg_ok (w_Gn G T m cs lt hd)) (hb : m_bS S mk) (hS : ∀ v, w_cmS G T m cs lt v → S v) (h300 : ms.length < 300) (q : ∀ z26 z36 J mm, w_mo S mk mm → m_bS S mm → m_L J mm nn (w_lrs K (w_cM G T m cs lt)) tl → m_me J mm → m_M J (w_d mm) (ms ++ [w_cM G T m cs lt]) → m_st J mm (24 + m) (w_Gn G T m cs lt hd) → m_st J mm 48 (w_Gn G T m cs lt hd) → w_at mm z26 (w_jnr G cs) → w_at mm z36 (w_cm2 G T m cs lt) → J 28 m = 1 → J 35 m = (ms.length : Nat) → (∀ t, I 16 t = 1 → J 16 t = 1) → J 1000 23 = ((us + (w_cM G T m cs lt).length : Nat) : Int) → m_gp (m_pcm m us) I J → (J 1000 84 ≤ 0 → Q ms.length J) ∧ (0 < J 1000 84 → rm_106 48 z26 x5 z36 m J (fun I117 => Q ms.length I117))) : rb_19_239 Q m m (gg_lf G) x5 x6 I := by
  have hSS : ∀ {v}, w_cmS G T m cs lt v → S v := fun {v} h => hS v h
  have us1 := ht.2.2.2
  unfold rb_19_239
  have s1 : S (w_cS G m lt) := hSS (Or.inl rfl)
  refine r_signSoFar hm hw.1 hw.2.1 ht hcx (by omega) (m_bS_tl hb (m_L_nd hw.1) s1) (fun t2 J2 L2 a2 f2 => ?_)
  intro _
  have mo2 := w_mo_tl (mk := mk) s1
  have b2 := m_bS_mo hb mo2
  have g2 := m_f1_gp f2
  have w2 := m_wr_pw hw L2 mo2.1 (m_gp_2w g2)
  refine r_flushTerm L2 (b2 _ w_mo_refl (m_L_nd L2)).1 (m_tx_pw ht mo2.1 g2) a2 (by omega) (fun J3 L3 t3 r3 g3 => ?_)
  have w3 := m_wr_pw w2 L3 (w_le_refl _) (m_gp_fw g3)
  have g13 : m_gp (m_pw us) I J3 := m_gp_trans (m_gp_2w g2) (m_gp_fw g3)
  have st3 := m_st_pw hst g13 mo2.1
  have T3 : m_tr J3 (w_tl mk (w_cS G m lt)) 48 T := m_tr_le (m_tr_gp hT g13 (fun f k p c => m_pw_n (by unfold m_pl at p; omega) c)) mo2.1
  intro v15 e15 _ v18 e18 _
  rw [t3.1] at e15
  rw [t3.2.1] at e18
  subst e15
  subst e18
  refine r_openNext (S := S) (G := G) (T := T) (cs := cs) hm L3 b2 st3 T3 (w_le_at mo2.1 hcs) t3 (by rw [List.length_append]; simp; omega) (hSS (Or.inr (Or.inl rfl))) (hSS (Or.inr (Or.inr (Or.inl rfl)))) (hSS (Or.inr (Or.inr (Or.inr (Or.inl rfl))))) (fun y hy => hSS (Or.inr (Or.inr (Or.inr (Or.inr (Or.inr (Or.inr (Or.inr (Or.inr (Or.inr (Or.inr ⟨y, hy, rfl⟩))))))))))) (hSS (Or.inr (Or.inr (Or.inr (Or.inr (Or.inl rfl)))))) (fun z26 J4 m4 mo4 b4 L4 wj w33 e29 w34 th4 g4 => ?_)
  intro _
  -- confirmation
  have s5a : S (w_dr (w_es2 G T m cs lt) 2) := hSS (Or.inr (Or.inr (Or.inr (Or.inr (Or.inr (Or.inl rfl))))))
  have s5b : S (w_cm2 G T m cs lt) := hSS (Or.inr (Or.inr (Or.inr (Or.inr (Or.inr (Or.inr (Or.inl rfl)))))))
  have mo5 : w_mo S m4 (w_tl (w_tl m4 (w_dr (w_es2 G T m cs lt) 2)) (w_cm2 G T m cs lt)) := w_mo_trans (w_mo_tl s5a) (w_mo_tl s5b)
  refine r_confirmation (s := 48) (cf := w_cf2 G m lt) (es := w_es2 G T m cs lt) (by decide) L4 w34 (Or.inr w33) (b4 _ mo5 (w_tl_nd (w_tl_nd (m_L_nd L4)))) (fun z36 J5 L5 wc f5 => ?_)
  intro _
  have b5 := m_bS_mo b4 mo5
  have g5 := m_f1_gp f5
  have g15 : m_gp (m_pcm m us) I J5 := m_gp_trans (m_gp_sub g13 (fun f k p => Or.inl p)) (m_gp_trans (m_gp_48 g4) (m_gp_sub g5 (fun f k p => Or.inl (m_pw_2 p))))
  have t5 : m_tx J5 (w_tl (w_tl m4 (w_dr (w_es2 G T m cs lt) 2)) (w_cm2 G T m cs lt)) us (lt ++ [w_cS G m lt]) := m_tx_pw (m_tx_le (m_tx_gp t3 g4 (fun f k p => by unfold m_p2 at p; omega)) mo4.1) mo5.1 g5
  refine r_flushTerm L5 (b5 _ w_mo_refl (m_L_nd L5)).1 t5 wc (by rw [List.length_append]; simp; omega) (fun J6 L6 t6 r6 g6 => ?_)
  have le6 : w_le mk (w_tl (w_tl m4 (w_dr (w_es2 G T m cs lt) 2)) (w_cm2 G T m cs lt)) := w_le_trans mo2.1 (w_le_trans mo4.1 mo5.1)
  have g16 : m_gp (m_pcm m us) I J6 := m_gp_trans g15 (m_gp_sub g6 (fun f k p => Or.inl (m_pw_f p)))
  have n16 : ∀ f k, (30 ≤ f ∧ f ≤ 32 ∧ k = m) ∨ ((f = 29 ∨ f = 33 ∨ f = 34) ∧ k = m) ∨ (36 ≤ f ∧ f ≤ 44) ∨ (f = 31 ∧ k = 48) ∨ f = 20 ∨ f = 21 → J6 f k = I f k := fun f k hf => by
    rw [g6 f k (by unfold m_pf; omega), g5 f k (by unfold m_p2; omega), g4 f k (by unfold m_p2; omega), g13 f k (m_pw_n (by omega))]
  have st6 : m_st J6 (w_tl (w_tl m4 (w_dr (w_es2 G T m cs lt) 2)) (w_cm2 G T m cs lt)) m G := m_st_le (m_st_eq hst (fun f h1 h2 => n16 f m (by omega)) (fun f x h1 h2 h3 => n16 f _ (by omega))) le6
  -- membership and tag
  have s7 : S (w_mem G) := hSS (Or.inr (Or.inr (Or.inr (Or.inr (Or.inr (Or.inr (Or.inr (Or.inl rfl))))))))
  refine r_membership (s := m) (by omega) L6 st6 (m_bS_tl b5 (m_L_nd L6) s7) (fun t7 J7 L7 a7 f7 => ?_)
  intro _
  have mo7 := w_mo_tl (mk := w_tl (w_tl m4 (w_dr (w_es2 G T m cs lt) 2)) (w_cm2 G T m cs lt)) s7
  have b7 := m_bS_mo b5 mo7
  have g7 := m_f1_gp f7
  have t7' := m_tx_pw t6 mo7.1 g7
  have s8 : S (w_cT G T m cs lt) := hSS (Or.inr (Or.inr (Or.inr (Or.inr (Or.inr (Or.inr (Or.inr (Or.inr (Or.inl rfl)))))))))
  refine r_tagSoFar L7 t7' a7 (by rw [List.length_append, List.length_append]; simp; omega) (m_bS_tl b7 (m_L_nd L7) s8) (fun t8 J8 L8 a8 f8 => ?_)
  intro _
  have mo8 := w_mo_tl (mk := w_tl (w_tl (w_tl m4 (w_dr (w_es2 G T m cs lt) 2)) (w_cm2 G T m cs lt)) (w_mem G)) s8
  have b8 := m_bS_mo b7 mo8
  have g8 := m_f1_gp f8
  refine r_flushTerm L8 (b8 _ w_mo_refl (m_L_nd L8)).1 (m_tx_pw t7' mo8.1 g8) a8 (by rw [List.length_append, List.length_append]; simp; omega) (fun J9 L9 t9 r9 g9 => ?_)
  -- interim
  have le9 : w_le (w_tl (w_tl m4 (w_dr (w_es2 G T m cs lt) 2)) (w_cm2 G T m cs lt)) (w_tl (w_tl (w_tl (w_tl m4 (w_dr (w_es2 G T m cs lt) 2)) (w_cm2 G T m cs lt)) (w_mem G)) (w_cT G T m cs lt)) := w_le_trans mo7.1 mo8.1
  have n9 : ∀ f k, (18 ≤ f ∧ f ≤ 54 ∧ f ≠ 26) ∨ (f = 1000 ∧ (k = 22 ∨ k = 83 ∨ k = 84)) → J9 f k = J5 f k := fun f k hf => by
    rw [g9 f k (by unfold m_pf; omega), g8 f k (by unfold m_p2; omega), g7 f k (by unfold m_p2; omega), g6 f k (by unfold m_pf; omega)]
  have w33' : w_at (w_tl (w_tl (w_tl (w_tl m4 (w_dr (w_es2 G T m cs lt) 2)) (w_cm2 G T m cs lt)) (w_mem G)) (w_cT G T m cs lt)) (J9 33 48) (w_cf2 G m lt) := by
    rw [n9 33 48 (by omega), g5 33 48 (by unfold m_p2; omega)]
    exact w_le_at (w_le_trans mo5.1 le9) w33
  have s10 : S (w_int (w_cf2 G m lt) (w_cm2 G T m cs lt)) := hSS (Or.inr (Or.inr (Or.inr (Or.inr (Or.inr (Or.inr (Or.inr (Or.inr (Or.inr (Or.inl rfl))))))))))
  refine r_interim (s := 48) (cf := w_cf2 G m lt) (by decide) L9 (Or.inr w33') (w_le_at le9 wc) (m_bS_tl b8 (m_L_nd L9) s10) (fun z74 J10 L10 wi f10 => ?_)
  intro _
  have mo10 := w_mo_tl (mk := w_tl (w_tl (w_tl (w_tl m4 (w_dr (w_es2 G T m cs lt) 2)) (w_cm2 G T m cs lt)) (w_mem G)) (w_cT G T m cs lt)) s10
  have b10 := m_bS_mo b8 mo10
  have g10 := m_f1_gp f10
  refine ⟨by decide, ?_⟩
  intro I77 e77
  refine ⟨by decide, ?_⟩
  intro I82 e82
  obtain ⟨mz, emz⟩ : ∃ mz, mz = w_tl (w_tl (w_tl (w_tl (w_tl m4 (w_dr (w_es2 G T m cs lt) 2)) (w_cm2 G T m cs lt)) (w_mem G)) (w_cT G T m cs lt)) (w_int (w_cf2 G m lt) (w_cm2 G T m cs lt)) := ⟨_, rfl⟩
  have L10 : m_L J10 mz nn K tl := by rw [emz]; exact L10
  have wi : w_at mz z74 (w_int (w_cf2 G m lt) (w_cm2 G T m cs lt)) := by rw [emz]; exact wi
  rw [← emz] at mo10 b10
  have leA : w_le mk mz := w_le_trans le6 (w_le_trans le9 mo10.1)
  have moA : w_mo S mk mz := w_mo_trans mo2 (w_mo_trans mo4 (w_mo_trans mo5 (w_mo_trans mo7 (w_mo_trans mo8 mo10))))
  have g82 : m_gp (fun f k => (f = 32 ∨ f = 30) ∧ k = 48) J10 I82 := by
    rw [e82, e77]
    exact m_gp_trans (m_gp_sub (m_gp_su _ _ _ _) (fun f k p => by omega)) (m_gp_sub (m_gp_su _ _ _ _) (fun f k p => by omega))
  have L82 : m_L I82 mz nn K tl := m_L_gp L10 g82 (fun f k p => by omega)
  have n82 : ∀ f k, ((f = 29 ∨ f = 33 ∨ f = 34 ∨ f = 31) ∧ k = 48) ∨ (36 ≤ f ∧ f ≤ 44) ∨ (f = 1000 ∧ (k = 22 ∨ k = 83 ∨ k = 84)) ∨ f = 20 ∨ f = 21 → I82 f k = J5 f k := fun f k hf => by
    rw [g82 f k (by omega), g10 f k (by unfold m_p2; omega), n9 f k (by omega)]
  have n5 : ∀ f k, (f = 31 ∧ k = 48) ∨ (36 ≤ f ∧ f ≤ 44) ∨ f = 20 ∨ f = 21 → J5 f k = I f k := fun f k hf => by
    rw [g5 f k (by unfold m_p2; omega), g4 f k (by unfold m_p2; omega), g13 f k (m_pw_n (by omega))]
  have st82 : m_st I82 mz 48 (w_Gn G T m cs lt hd) := by
    have w31 := t_w_4 hT.1.1
    refine ⟨hok, ?_, ?_, ?_, ?_, ?_, ?_, fun x hx => ?_, fun x hx => ?_⟩
    · rw [n82 29 48 (by omega), g5 29 48 (by unfold m_p2; omega)]; exact e29
    · rw [e82, su_eq]; rfl
    · exact m_tr_le (m_tr_eq hT (by rw [n82 31 48 (by omega), n5 31 48 (by omega)]) (fun f x h1 h2 h3 => by rw [n82 f _ (by omega), n5 f _ (by omega)])) leA
    · rw [e82, su_f (by decide), e77, su_eq]; exact wi
    · rw [n82 33 48 (by omega), g5 33 48 (by unfold m_p2; omega)]; exact Or.inr (w_le_at (w_le_trans mo5.1 (w_le_trans le9 mo10.1)) w33)
    · rw [n82 34 48 (by omega), g5 34 48 (by unfold m_p2; omega)]; exact w_le_at (w_le_trans mo5.1 (w_le_trans le9 mo10.1)) w34
    · rw [n82 44 _ (by omega), n5 44 _ (by omega)]
      exact w_le_az leA (hh x hx)
    · have h1 := th4 x hx
      obtain ⟨l', hl'⟩ := w_le_trans mo5.1 (w_le_trans le9 mo10.1)
      rw [hl']
      exact List.mem_append_left _ h1
  have g82J : m_gp (fun f k => m_pw us f k ∨ (29 ≤ f ∧ f ≤ 34 ∧ k = 48)) I I82 := by
    refine m_gp_trans (m_gp_sub g13 (fun f k p => Or.inl p)) (m_gp_trans (m_gp_sub g4 (fun f k p => p.elim (fun p => Or.inl (m_pw_2 p)) (fun p => Or.inr (by omega)))) ?_)
    refine m_gp_trans (m_gp_sub (m_gp_trans (m_gp_2w g5) (m_gp_trans (m_gp_fw g6) (m_gp_trans (m_gp_2w g7) (m_gp_trans (m_gp_2w g8) (m_gp_trans (m_gp_fw g9) (m_gp_2w g10)))))) (fun f k p => Or.inl p)) ?_
    exact m_gp_sub g82 (fun f k p => Or.inr (by omega))
  have t82 : m_tx I82 mz us (w_cM G T m cs lt) := m_tx_gp (m_tx_pw t9 mo10.1 g10) g82 (fun f k p => by omega)
  have M82 : m_M I82 (w_d mz) ms := m_M_up hw.1 L82 leA hw.2.2.1 hw.2.2.2 g82J (fun f k p => by unfold m_pw m_p2 at p; omega)
  have me82 : m_me I82 mz := m_me_le (m_me_gp hw.2.1 g82J (fun f k p => by unfold m_pw m_p2 at p; omega)) leA
  have ln : (w_cM G T m cs lt).length = lt.length + 3 := by unfold w_cM; simp
  refine r_close_more (Q := fun z A => z = (ms.length : Nat) ∧ m_K A (w_d mz) (w_lrs K (w_cM G T m cs lt)) ∧ m_M A (w_d mz) (ms ++ [w_cM G T m cs lt]) ∧ m_fr [16, 24, 25] [19, 22, 23] I82 A) (fun z A hz m16 m23 => ?_) (m_close (mk := 1) (l := w_cM G T m cs lt) L82.1 L82.2.1 M82 h300 (by rw [ln]; omega) (by rw [t82.1, t82.2.1]; omega) (by rw [t82.1, Int.toNat_natCast, L82.2.2.2.1]; exact t82.2.2.1) (fun A KA MA fA => ⟨rfl, by rw [if_neg (by decide)] at KA; exact KA, MA, fA⟩))
  obtain ⟨ez, KA, MA, fA⟩ := hz
  subst ez
  intro _
  have LA := m_L_K L82 KA fA (fun g hg => by simp at hg; omega) (by simp) (by simp) (by simp)
  have gA : m_gp (fun f k => f = 16 ∨ f = 24 ∨ f = 25 ∨ (f = 1000 ∧ (k = 19 ∨ k = 22 ∨ k = 23))) I82 A := m_gp_sub (m_fr_gp fA) (fun f k p => by simp at p; omega)
  have eu : sw_w (24 + (m : Int)) = ((24 + m : Nat) : Int) := by rw [sw_w_s (by omega) (by omega)]; omega
  rw [eu]
  refine r_copyState (s := 48) (u := 24 + m) (by decide) (by omega) (by omega) (fun B c1 c2 gB => ?_)
  refine ⟨by omega, by omega, ?_⟩
  intro I104 e104
  refine ⟨by omega, by omega, ?_⟩
  intro I109 e109
  rw [Int.toNat_natCast] at e104 e109
  have gC : m_gp (fun f k => (f = 28 ∨ f = 35) ∧ k = m) B I109 := by
    rw [e109, e104]
    exact m_gp_trans (m_gp_sub (m_gp_su _ _ _ _) (fun f k p => by omega)) (m_gp_sub (m_gp_su _ _ _ _) (fun f k p => by omega))
  have LB : m_L I109 mz nn (w_lrs K (w_cM G T m cs lt)) tl := m_L_gp (m_L_gp LA gB (fun f k p => by unfold m_pl at p; omega)) gC (fun f k p => by omega)
  have stA : m_st A mz 48 (w_Gn G T m cs lt hd) := m_st_gp st82 gA (fun f k p c => by unfold m_pl at p; omega)
  have stB : m_st I109 mz (24 + m) (w_Gn G T m cs lt hd) := m_st_gp (m_st_eq stA c1 c2) gC (fun f k p c => by unfold m_pl at p; omega)
  have stC : m_st I109 mz 48 (w_Gn G T m cs lt hd) := m_st_gp (m_st_gp stA gB (fun f k p c => by unfold m_pl at p c; omega)) gC (fun f k p c => by unfold m_pl at p; omega)
  obtain ⟨ua, eua⟩ : ∃ ua : Nat, A 1000 23 = ua := ⟨(A 1000 23).toNat, by have := MA.2.2.1; omega⟩
  have gBC : m_gp (fun f k => m_pl (24 + m) f k ∨ ((f = 28 ∨ f = 35) ∧ k = m)) A I109 := m_gp_trans (m_gp_sub gB (fun f k p => Or.inl p)) (m_gp_sub gC (fun f k p => Or.inr p))
  have MB : m_M I109 (w_d mz) (ms ++ [w_cM G T m cs lt]) := m_M_up LA LB (w_le_refl _) MA eua gBC (fun f k p => by unfold m_pl at p; omega)
  have meB : m_me I109 mz := m_me_gp (m_me_gp me82 gA (fun f k p => by omega)) gBC (fun f k p => by unfold m_pl at p; omega)
  have gall : m_gp (m_pcm m us) I I109 := by
    refine m_gp_trans (m_gp_sub g82J (fun f k p => ?_)) (m_gp_trans (m_gp_sub gA (fun f k p => ?_)) (m_gp_sub gBC (fun f k p => ?_)))
    · rcases p with p | p
      · exact Or.inl p
      · exact Or.inr (Or.inr (Or.inr (Or.inr (Or.inr (Or.inl (Or.inl p))))))
    · by_cases c : f = 1000 ∧ k = 19
      · exact Or.inl (Or.inl (by unfold m_p2; omega))
      · unfold m_pcm; omega
    · rcases p with p | p
      · exact Or.inr (Or.inr (Or.inr (Or.inr (Or.inr (Or.inr (Or.inl p))))))
      · exact Or.inr (Or.inr (Or.inr (Or.inr (Or.inr (Or.inr (Or.inr p))))))
  intro v113 e113 _
  rw [e113]
  have x16 : ∀ t, I 16 t = 1 → I109 16 t = 1 := fun t ht => by
    rw [gBC 16 t (by unfold m_pl; omega)]
    exact m16 t (by rw [g82J 16 t (by unfold m_pw m_p2; omega)]; exact ht)
  have x23 : I109 1000 23 = ((us + (w_cM G T m cs lt).length : Nat) : Int) := by
    rw [gBC 1000 23 (by unfold m_pl; omega), m23]
    exact t82.2.1
  exact q z26 z36 I109 mz moA b10 LB meB MB stB stC (w_le_at (w_le_trans mo5.1 (w_le_trans le9 mo10.1)) wj) (w_le_at (w_le_trans le9 mo10.1) wc) (by rw [e109, su_f (by decide), e104, su_eq]) (by rw [e109, su_eq]) x16 x23 gall
end
