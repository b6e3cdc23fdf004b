/-! ===== the reference: putWelcome, to its end ===== -/
noncomputable section
variable {I I0 J X : sr_V} {nn nm s u k h us : Nat} {K K' K2 : Wt → Prop} {tl tl' mk mm l0 l1 l2 lw lt lp : List Wt} {a b c y n msk lf wp : Int} {Q : Int → sr_V → Prop} {R : sr_V → Prop} {x i e l m : Nat} {P : Nat → Nat → Prop} {S : Wt → Prop} {w ls n0 cs cm jn : Wt} {G : w_G} {T : w_T} {ms : List (List Wt)} {L : List w_Ch} {d : w_Ch} {ad : List (Nat × Nat)}
/-- the text of a WELCOME -/
def w_weH (T : w_T) (l : Nat) (n0 : Wt) (wp : Int) (jn : Wt) (L : List w_Ch) (ad : List (Nat × Nat)) : List Wt := w_by 4 :: (w_b16 (2 * ad.length : Nat) ++ w_wl T l n0 wp jn L ad)
def w_weM (m : Nat) (G : w_G) (cm : Wt) (lw : List Wt) : List Wt := lw ++ w_inf G cm ++ [w_t 7 (w_nm m) [] [] (w_inf G cm)]
/-- what it touches -/
def m_pwm (us f k : Nat) : Prop := m_pwf us f k ∨ f = 16 ∨ f = 24 ∨ f = 25 ∨ (f = 1000 ∧ (k = 19 ∨ k = 22 ∨ k = 23))
theorem r_putWelcome {x2 x4 : Int} (hm : m < 24) (hw : m_wr I mk nn K tl ms us) (hst : m_st I mk 48 G) (hl : l < 2 ^ t_dp T) (h4 : t_dp T ≤ 4) (ha16 : ad.length ≤ 32) (hwp : wp = 0 ∨ wp = 1) (hadx : ∀ (i p j : Nat), ad[i]? = some (p, j) → p < 2 ^ t_dp T ∧ (wp ≠ 0 → ∃ k, k < t_dp T ∧ t_cb T l k ≠ 0 ∧ t_ab p (k + 1) = t_ab l (k + 1)) ∧ ∃ c : w_Ch, L[j]? = some c ∧ c.1.1 = 1) (hS : ∀ (p j : Nat) (c : w_Ch), (p, j) ∈ ad → L[j]? = some c → ∀ v ∈ w_w1 T l n0 wp jn p c, S v) (hS1 : ∀ y ∈ w_ordk (w_h (t_top (gg_T G))) (t_top (gg_T G)) (w_h (t_top (gg_T G)) + 1) 0, S (w_th (gg_T G) 0 y)) (hS2 : S (w_t 7 (w_nm m) [] [] (w_inf G cm))) (hb : m_bS S mk) (hli : m_li I mk K2 L) (hc : m_wc I mk T l n0 wp ad) (hj : w_at mk x2 jn) (hcm : w_at mk x4 cm) (h300 : ms.length < 300) (q : ∀ J mm, w_mo S mk mm → m_bS S mm → m_L J mm nn (w_lrs K (w_weM m G cm (w_weH T l n0 wp jn L ad))) tl → m_me J mm → m_M J (w_d mm) (ms ++ [w_weM m G cm (w_weH T l n0 wp jn L ad)]) → m_gp (m_pwm us) I J → R J) : rm_106 48 x2 wp x4 m I R := by
  have us1 := m_wr_us hw
  unfold rm_106
  intro v115 e115 _ I119 e119 I124 e124
  rw [hw.2.2.2] at e115
  subst e115
  have L119 : m_L I119 mk nn K tl := by rw [e119]; exact m_L_gp hw.1 (m_gp_su _ _ _ _) (fun f k p => by omega)
  have g119 : m_gp (m_pwf us) I I119 := by rw [e119]; exact m_gp_sub (m_gp_su _ _ _ _) (fun f k p => by unfold m_pwf m_pf; omega)
  have t119 : m_tx I119 mk us [] := ⟨by rw [e119, su_k (by decide)]; exact hw.2.2.2, by rw [e119, su_eq]; simp, fun k w hk => by simp at hk, us1⟩
  obtain ⟨L124, r124, f124⟩ := r_rs0 L119 e124
  refine r_b8 (x := 4) r124 (by simp) (fun A rA fA => ?_)
  intro v135 e135 _
  have f2 := m_fr_trans f124 fA
  have e84 : A 1000 84 = (ad.length : Nat) := by rw [f2.2 84 (by simp), g119 1000 84 (by unfold m_pwf m_p2 m_pf; omega)]; exact hc.1
  rw [e84] at e135
  have e2 : sw_w (2 * v135) = ((2 * ad.length : Nat) : Int) := by rw [e135]; exact sw_2k (by omega)
  rw [e2]
  clear e2
  refine r_b16 (by unfold sw_c; omega) rA (by simp) (fun B rB fB => ?_)
  have f3 := m_fr_trans f2 fB
  have LB := m_f0_L L119 f3
  have tB := m_tx_p2 t119 (m_f0_gp f3)
  refine r_flush rB tB (by simp [w_b16]) (fun D tD _ gD => ?_)
  have gI : m_gp (m_pwf us) I D := m_gp_trans g119 (m_gp_trans (m_pwf_2 (m_f0_gp f3)) (m_pwf_f gD))
  have LD := m_L_pf LB gD
  obtain ⟨lw, elw⟩ : ∃ lw, lw = w_by 4 :: w_b16 (2 * ad.length : Nat) := ⟨_, rfl⟩
  have lwl : lw.length = 3 := by rw [elw]; rfl
  have tD2 : m_tx D mk us (lw ++ w_wl T l n0 wp jn L (ad.take 0)) := by
    have : w_wl T l n0 wp jn L (ad.take 0) = [] := by rw [List.take_zero]; rfl
    rw [this, List.append_nil, elw]
    exact tD
  have eH : lw ++ w_wl T l n0 wp jn L ad = w_weH T l n0 wp jn L ad := by rw [elw]; rfl
  have wl := w_wl_len (T := T) (l := l) (n0 := n0) (wp := wp) (jn := jn) (L := L) ad
  have Hl : (w_weH T l n0 wp jn L ad).length ≤ 67 := by rw [← eH, List.length_append]; omega
  refine ⟨ad.length + 1, r_pw_20 hl h4 ha16 hwp hadx hS (by omega) _ 0 hb LD (m_li_pwf hli LD (w_le_refl _) hw.2.2.2 gI) (m_wc_gp hc gI (w_le_refl _)) hj tD2 (by omega) (by omega) (fun E me e1 e2 LE tE gE => ?_)⟩
  rw [eH] at tE
  have gE2 := m_gp_trans gI gE
  have stE : m_st E me 48 G := m_st_le (m_st_gp hst gE2 (fun f k p c => by unfold m_pl at p; unfold m_pwf m_p2 m_pf at c; omega)) e1.1
  have meE : m_me E me := m_me_le (m_me_gp hw.2.1 gE2 (fun f k p => by unfold m_pwf m_p2 m_pf at p; omega)) e1.1
  refine r_putInfo hm LE e2 meE stE (w_le_at e1.1 hcm) tE (by omega) hS1 hS2 (fun F mf f1 f2' LF tF gF => ?_)
  have gF2 : m_gp (m_pwf us) I F := m_gp_trans gE2 (m_gp_sub gF (fun f k p => p.elim Or.inl (fun p => Or.inr (Or.inl p))))
  have moF : w_mo S mk mf := w_mo_trans e1 f1
  have MF : m_M F (w_d mf) ms := m_M_up hw.1 LF moF.1 hw.2.2.1 hw.2.2.2 gF2 (fun f k p => by unfold m_pwf m_p2 m_pf at p; omega)
  have il := w_inf_len (G := G) (cm := cm) hst.2.2.2.1.1.1
  have ln : (w_weM m G cm (w_weH T l n0 wp jn L ad)).length ≤ 800 := by
    unfold w_weM
    rw [List.length_append, List.length_append, List.length_singleton]
    omega
  have tF : m_tx F mf us (w_weM m G cm (w_weH T l n0 wp jn L ad)) := tF
  refine m_close (mk := 1) (l := w_weM m G cm (w_weH T l n0 wp jn L ad)) LF.1 LF.2.1 MF h300 (by omega) (by rw [tF.1, tF.2.1]; omega) (by rw [tF.1, Int.toNat_natCast, LF.2.2.2.1]; exact tF.2.2.1) (fun N KN MN fN => ?_)
  rw [if_neg (by decide)] at KN
  intro _
  have LN := m_L_K LF KN fN (fun g hg => by simp at hg; omega) (by simp) (by simp) (by simp)
  have gN : m_gp (fun f k => f = 16 ∨ f = 24 ∨ f = 25 ∨ (f = 1000 ∧ (k = 19 ∨ k = 22 ∨ k = 23))) F N := m_gp_sub (m_fr_gp fN) (fun f k p => by simp at p; omega)
  have meN : m_me N mf := m_me_gp (m_me_le (m_me_gp hw.2.1 gF2 (fun f k p => by unfold m_pwf m_p2 m_pf at p; omega)) moF.1) gN (fun f k p => by omega)
  exact q N mf moF f2' LN meN MN (m_gp_trans (m_gp_sub gF2 (fun f k p => Or.inl p)) (m_gp_sub gN (fun f k p => Or.inr p)))
end
