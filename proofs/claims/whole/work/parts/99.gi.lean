/-! ===== the reference: commit joined, behind the gathering ===== -/
noncomputable section
/-- what a commit touches -/
def m_pco (m us f k : Nat) : Prop := m_pcw m us f k ∨ m_pga f k ∨ m_pcp us f k
variable {I I0 J X : sr_V} {nn nm s u k h us : Nat} {K K' K2 Kr : Wt → Prop} {tl tl' mk mm l0 l1 l2 lw lt lp lx : List Wt} {a b c y n msk lf wp x1 x2 : Int} {Q : Int → sr_V → Prop} {R : sr_V → Prop} {x i e l m mi : Nat} {P : Nat → Nat → Prop} {S : Wt → Prop} {w ls n0 cs cm jn : Wt} {G : w_G} {T T1 : w_T} {ms : List (List Wt)} {L C : List w_Ch} {d : w_Ch}
theorem r_cmt_end {x6 : Int} (hm : m < 24) (hi : g_iv m G) (hg : gg_ok G) (hd : L = [] ∨ h_done (gg_T G) L (gg_lf G)) (hok : ∀ c ∈ L, p_cok c.1) (h5 : h_p5 L) (hwp : wp = 0 ∨ wp = 1) (h300 : ms.length < 300) (h299 : k_ad G L ≠ [] → ms.length < 299)
    (z2 : m_bS (k_S G m nn wp L) mk) (wZ : m_wr I mk (k_nn G nn wp L) K tl ms us) (cZ : m_cx I mk (w_cx G)) (stZ : m_st I mk m G) (TZ : m_tr I mk 48 (k_T2 G m nn wp L)) (csZ : w_at mk x6 (k_cs G nn wp L)) (tZ : m_tx I mk us (k_lt G m nn wp L)) (lZ : (k_lt G m nn wp L).length ≤ 1100) (hZ : ∀ x, x < t_w (k_T2 G m nn wp L) → w_az mk (I 44 (31 * 48 + x)) (k_hd G nn wp L x)) (liZ : m_li I mk Kr L) (wcZ : m_wc I mk (k_T1 G L) (gg_lf G) (w_nm (nn + 1)) wp (k_ad G L))
    (q : ∀ J mm, w_mo (k_S G m nn wp L) mk mm → m_L J mm (k_nn G nn wp L) (k_K K G m nn wp L) tl → m_me J mm → m_M J (w_d mm) (ms ++ k_ms2 G m nn wp L) → m_st J mm (24 + m) (k_G G m nn wp L) → J 28 m = 1 → J 35 m = (ms.length : Nat) → m_gp (m_pco m us) I J → Q ms.length J) : rb_19_239 Q m m (gg_lf G) wp x6 I := by
  obtain ⟨a1, a2, a3, a4, a5⟩ := k_T1_ok hg hi hok h5 hd
  obtain ⟨c1, c2, c3⟩ := k_ad_ok hg hi hok h5 hd
  have iv := k_iv (wp := wp) (nn := nn) hm hg hi hok h5 hd
  refine r_cm_fin (S := k_S G m nn wp L) (T1 := k_T1 G L) (l := gg_lf G) (n0 := w_nm (nn + 1)) (ad := k_ad G L) (L := L) (T := k_T2 G m nn wp L) (cs := k_cs G nn wp L) (lt := k_lt G m nn wp L) (hd := k_hd G nn wp L) hm wZ cZ stZ TZ csZ tZ lZ hZ iv.1 z2 (fun v hv => Or.inr (Or.inl hv)) h300 liZ wcZ a5.1 a1.1 (by omega) hwp (fun i p j hp => ⟨(c3 i p j hp).1, fun _ => (c3 i p j hp).2.1, (c3 i p j hp).2.2⟩) (fun p j c hp hc v hv => Or.inr (Or.inr (Or.inl ⟨p, j, c, hp, hc, hv⟩))) (Or.inr (Or.inr (Or.inr rfl))) h299 (fun J mm ms' Ke m1 m2 LJ meJ MJ stJ e28 e35 k1 k2 gJ => ?_)
  have e : ms' = ms ++ k_ms2 G m nn wp L ∧ Ke = k_K K G m nn wp L := by
    unfold k_K k_ms2
    by_cases ea : k_ad G L = []
    · rw [if_pos ea]; exact k1 ea
    · rw [if_neg ea]
      obtain ⟨x1, x2⟩ := k2 ea
      exact ⟨by rw [x1, List.append_assoc]; rfl, x2⟩
  rw [e.1] at MJ
  rw [e.2] at LJ
  exact q J mm m1 LJ meJ MJ stJ e28 e35 (m_gp_sub gJ (fun f k p => Or.inl p))
theorem w_ch0_len (hok : ∀ c ∈ L, p_cok c.1) (h : L.length ≤ 32) : (w_ch0 G L).length ≤ 430 := by
  have a := w_pps_len (lf := gg_lf G) hok L.length (Nat.le_refl _)
  rw [List.take_length] at a
  have e4 : (w_b32 (gg_ep G)).length = 4 := rfl
  have e2 : (w_b16 (gg_lf G)).length = 2 := rfl
  have e3 : (w_b16 ((w_pps (gg_lf G) L).length : Nat)).length = 2 := rfl
  unfold w_ch0
  rw [List.length_append, List.length_cons, List.length_append, List.length_append, e4, e2, e3]
  omega
theorem k_len (hi : g_iv m G) (hok : ∀ c ∈ L, p_cok c.1) (hd : L = [] ∨ h_done (gg_T G) L (gg_lf G)) : L.length ≤ 32 := by
  rcases hd with e | e
  · rw [e]; exact Nat.zero_le _
  · exact h_len hi.2.2.2.2.2.1 hok e
theorem r_cmt_go (hm : m < 24) (hw : m_wr I mk nn K tl ms us) (hst : m_st I mk m G) (hli : m_li I mk K L) (hT : m_tr I mk 48 (k_T1 G L)) (hh : ∀ x, x < t_w (k_T1 G L) → w_az mk (I 44 (31 * 48 + x)) (w_hcy G (k_T1 G L) x)) (had : m_ad I (h_0 (gg_T G) L) L L.length) (hd : L = [] ∨ h_done (gg_T G) L (gg_lf G)) (hok : ∀ c ∈ L, p_cok c.1) (hne : ∀ c ∈ L, c.2.2 ≠ []) (hi : g_iv m G) (h5 : h_p5 L) (hz : w_at mk 1 w_z) (hwp : wp = 0 ∨ wp = 1) (hb : m_bS (k_S G m nn wp L) mk) (h300 : ms.length < 300) (h299 : k_ad G L ≠ [] → ms.length < 299)
    (q : ∀ J mm, w_mo (k_S G m nn wp L) mk mm → m_L J mm (k_nn G nn wp L) (k_K K G m nn wp L) tl → m_me J mm → m_M J (w_d mm) (ms ++ k_ms2 G m nn wp L) → m_st J mm (24 + m) (k_G G m nn wp L) → J 28 m = 1 → J 35 m = (ms.length : Nat) → m_gp (m_pco m us) I J → Q ms.length J) : rb_19_117 Q m m (gg_lf G) wp I := by
  obtain ⟨a1, a2, a3, a4, a5⟩ := k_T1_ok hst.1 hi hok h5 hd
  obtain ⟨c1, c2, c3⟩ := k_ad_ok hst.1 hi hok h5 hd
  have d16 := t_d_16 a1.1
  have d4 := a1.1
  have l16 : gg_lf G < 16 := by have := a5.1; omega
  have bd := hb mk w_mo_refl (m_L_nd hw.1)
  have l32 := k_len hi hok hd
  have chl := w_ch0_len (G := G) hok l32
  refine r_cm_117 hm hw hst bd hli (by omega) hne hwp (fun J wJ cJ liJ tJ rJ gJ => ?_)
  have noJ : ∀ f k, (27 ≤ f ∧ f ≤ 54) ∨ (83 ≤ f ∧ f ≤ 86) ∨ (90 ≤ f ∧ f ≤ 99) ∨ (f = 1000 ∧ (k = 83 ∨ k = 84)) → J f k = I f k := fun f k hf => gJ f k (by unfold m_phd m_pw m_p2; omega)
  have stJ : m_st J mk m G := m_st_gp hst gJ (fun f k p c => by unfold m_pl at p; unfold m_phd m_pw m_p2 at c; omega)
  have TJ : m_tr J mk 48 (k_T1 G L) := m_tr_gp hT gJ (fun f k p c => by unfold m_pl at p; unfold m_phd m_pw m_p2 at c; omega)
  have hJ : ∀ x, x < t_w (k_T1 G L) → w_az mk (J 44 (31 * 48 + x)) (w_hcy G (k_T1 G L) x) := fun x hx => by rw [noJ _ _ (by omega)]; exact hh x hx
  have gI : m_gp (m_pco m us) I J := m_gp_sub gJ (fun f k p => by
    rcases p with p | p
    · exact Or.inl (Or.inl (Or.inl p))
    · exact Or.inl (Or.inr p))
  obtain ⟨ad1, ad2, ad3⟩ := had
  rcases hwp with e0 | e1
  · subst e0
    have ecs : k_cs G nn 0 L = w_z := if_pos rfl
    have enn : k_nn G nn 0 L = nn := if_pos rfl
    have eT2 : k_T2 G m nn 0 L = k_T1 G L := if_pos rfl
    have elt : k_lt G m nn 0 L = w_ch0 G L ++ [w_by 0] := if_pos rfl
    have ehd : k_hd G nn 0 L = w_hcy G (k_T1 G L) := if_pos rfl
    refine r_cm_156_0 wJ cJ tJ (by omega) rJ (fun Z wZ cZ tZ gZ => ?_)
    have noZ : ∀ f k, (27 ≤ f ∧ f ≤ 54) ∨ (83 ≤ f ∧ f ≤ 86) ∨ (90 ≤ f ∧ f ≤ 99) ∨ (f = 1000 ∧ (k = 83 ∨ k = 84)) → Z f k = J f k := fun f k hf => gZ f k (m_pw_n (by omega))
    refine r_cmt_end (nn := nn) (L := L) hm hi hst.1 hd hok h5 (Or.inl rfl) h300 h299 hb (by rw [enn]; exact wZ) cZ (m_st_pw stJ gZ (w_le_refl _)) (by rw [eT2]; exact m_tr_gp TJ gZ (fun f k p c => m_pw_n (by unfold m_pl at p; omega) c)) (by rw [ecs]; exact hz) (by rw [elt]; exact tZ) (by rw [elt, List.length_append, List.length_singleton]; omega) (fun x hx => ?_) (m_li_up liJ wZ.1 (w_le_refl _) wJ.2.2.2 gZ (fun f k p => by unfold m_pw m_p2 at p; omega)) ⟨by rw [noZ _ _ (by omega), noJ _ _ (by omega)]; exact ad2, fun i p j hp => ?_, fun cc => absurd rfl cc⟩ (fun J2 mm m1 L2 me2 M2 st2 e28 e35 g2 => q J2 mm m1 L2 me2 M2 st2 e28 e35 (m_gp_trans gI (m_gp_trans (m_gp_sub gZ (fun f k p => Or.inl (Or.inl (Or.inl p)))) g2)))
    · rw [eT2] at hx
      rw [ehd, noZ _ _ (by omega)]
      exact hJ x hx
    · rw [noZ _ _ (by omega), noZ _ _ (by omega), noJ _ _ (by omega), noJ _ _ (by omega)]
      exact ad3 i p j hp
  · subst e1
    have ecs : k_cs G nn 1 L = w_pcs (k_T1 G L) (gg_lf G) nn := if_neg (by decide)
    have enn : k_nn G nn 1 L = w_pnn (k_T1 G L) (gg_lf G) nn := if_neg (by decide)
    have eT2 : k_T2 G m nn 1 L = w_pT2 (k_T1 G L) (gg_lf G) m nn := if_neg (by decide)
    have elt : k_lt G m nn 1 L = w_ch0 G L ++ [w_by 1] ++ w_ptx (k_T1 G L) (gg_lf G) m nn (k_ms G L) := if_neg (by decide)
    have ehd : k_hd G nn 1 L = w_hp G (k_T1 G L) (gg_lf G) nn := if_neg (by decide)
    refine r_cm_156_1 (T := k_T1 G L) (S := k_S G m nn 1 L) (msk := k_ms G L) hm a5.1 wJ cJ hb TJ a5.2 (a4.2.1.trans hi.2.1) (a4.2.2.trans hi.2.2.1) (by rw [noJ _ _ (by omega)]; exact ad1) c2 tJ (by omega) rJ (fun k hk y hy => w_rs_in (t_ok_pT2 l16 hm a1) (t_inv_pT2 l16 a1.1 a2) (t_pk_pT2 a3) k _ (t_si_ok a1.1 a5.1 hk).1 (by rw [t_dp_w t_pT2_dp]; exact (t_si_ok a1.1 a5.1 hk).2.2.1) y hy) (fun v hv => Or.inl ⟨by decide, hv⟩) (fun z170 Z mz m1 m2 wZ cZ tZ TZ wz wy pt hp gZ => ?_)
    have noZ : ∀ f k, (83 ≤ f ∧ f ≤ 86) ∨ (f = 1000 ∧ (k = 83 ∨ k = 84)) → Z f k = J f k := fun f k hf => gZ f k (by unfold m_pcp m_p2 m_pf; omega)
    have nkl := w_nk_len (T0 := k_T1 G L) (msk := k_ms G L) (n0 := w_nm (nn + 1)) (l := gg_lf G) (t_ok_pT2 (nn := nn) l16 hm a1) (by rw [t_pT2_dp]; exact a5.1) (t_dp (k_T1 G L)) (by rw [t_pT2_dp]; exact Nat.le_refl _)
    refine r_cmt_end (nn := nn) (L := L) hm hi hst.1 hd hok h5 (Or.inr rfl) h300 h299 m2 (by rw [enn]; exact wZ) cZ (m_st_le (m_st_gp stJ gZ (fun f k p c => by unfold m_pl at p; unfold m_pcp m_p2 m_pf at c; omega)) m1.1) (by rw [eT2]; exact TZ) (by rw [ecs]; exact wz) (by rw [elt]; exact tZ) ?_ (fun x hx => ?_) (m_li_up liJ wZ.1 m1.1 wJ.2.2.2 gZ (fun f k p => by unfold m_pcp m_p2 m_pf at p; omega)) ⟨by rw [noZ _ _ (by omega), noJ _ _ (by omega)]; exact ad2, fun i p j hp => ?_, fun _ => ⟨fun j hj => ⟨(wy.2 j hj).1, (wy.2 j hj).2.2⟩, fun j hj cj => (pt j hj cj).1⟩⟩ (fun J2 mm m3 L2 me2 M2 st2 e28 e35 g2 => q J2 mm (w_mo_trans m1 m3) L2 me2 M2 st2 e28 e35 (m_gp_trans gI (m_gp_trans (m_gp_sub gZ (fun f k p => Or.inr (Or.inr p))) g2)))
    · have e7 := w_lh_len (w_plf (k_T1 G L) (gg_lf G) m nn).1 (w_plf (k_T1 G L) (gg_lf G) m nn).2.1 (w_plf (k_T1 G L) (gg_lf G) m nn).2.2.1 (w_plf (k_T1 G L) (gg_lf G) m nn).2.2.2.1 (w_plf (k_T1 G L) (gg_lf G) m nn).2.2.2.2.1
      have e2 : ∀ z : Int, (w_b16 z).length = 2 := fun _ => rfl
      rw [elt]
      unfold w_ptx w_lfw
      rw [List.length_append, List.length_append, List.length_append, List.length_append, List.length_append, List.length_singleton, List.length_singleton, e2]
      omega
    · rw [eT2, t_dp_w t_pT2_dp] at hx
      rw [ehd]
      exact m_hp a5.1 a1.1 m1.1 hp hJ x hx
    · rw [noZ _ _ (by omega), noZ _ _ (by omega), noJ _ _ (by omega), noJ _ _ (by omega)]
      exact ad3 i p j hp
end
