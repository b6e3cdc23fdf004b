/-! ===== the reference: commit gathers changes, the loop ===== -/
noncomputable section
section
variable {T : w_T} {L : List w_Ch} {com : Int} {o : Nat}
theorem h_all_own (h : h_all T L com) (hok : ∀ c ∈ L, p_cok c.1) : ∀ c ∈ L, h_own T c := fun c hc => by
  obtain ⟨j, hj⟩ := List.mem_iff_getElem?.mp hc
  have hi := h j c hj
  refine ⟨fun h1 => ⟨(hi.1 h1).1, (hi.1 h1).2.1⟩, fun h1 => (hi.2 h1).2.1, fun h2 => ?_⟩
  have := (hi.2 (by omega)).2.2.2
  rcases this with c3 | c3
  · omega
  · exact c3
theorem h_all_di (h : h_all T L com) : h_di L com L.length := fun j c _ hc => ⟨fun h1 => ⟨((h j c hc).2 h1).1, ((h j c hc).2 h1).2.2.1⟩, fun h1 => ((h j c hc).1 h1).2.2.2⟩
/-- who commits stays -/
theorem h_all_is (h4 : t_dp T ≤ 4) (hok : ∀ c ∈ L, p_cok c.1) (ho : t_is T o) (h : h_all T L (o : Int)) : t_is (h_0 T L) o := by
  refine (h_0_is (l := o) h4 (h_all_own h hok) hok (h_all_di h)).1.mpr ⟨ho, fun hr => ?_⟩
  obtain ⟨c, hc, h3, hg⟩ := hr
  obtain ⟨j, hj⟩ := List.mem_iff_getElem?.mp hc
  exact ((h j c hj).2 (by omega)).1 hg
theorem h_all_nil : h_all T [] com := fun k c hk => by cases hk
theorem h_room_nil {T0 : w_T} : h_room T0 [] := fun k c hk => by cases hk
theorem h_ga_1 {c : w_Ch} {C : List w_Ch} (d : h_done T (L ++ [c]) com) : h_ga T com L (c :: C) = h_ga T com (L ++ [c]) C := by
  show h_ga T com (@ite _ (h_done T (L ++ [c]) com) (Classical.propDecidable _) (L ++ [c]) L) C = _
  rw [if_pos d]
theorem h_ga_0 {c : w_Ch} {C : List w_Ch} (d : ¬ h_done T (L ++ [c]) com) : h_ga T com L (c :: C) = h_ga T com L C := by
  show h_ga T com (@ite _ (h_done T (L ++ [c]) com) (Classical.propDecidable _) (L ++ [c]) L) C = _
  rw [if_neg d]
theorem h_ga_ok : ∀ (C L : List w_Ch), (L = [] ∨ h_done T L com) → (h_ga T com L C = [] ∨ h_done T (h_ga T com L C) com)
  | [], L, h => h
  | c :: C, L, h => by
    unfold h_ga
    by_cases d : h_done T (L ++ [c]) com
    · rw [if_pos d]; exact h_ga_ok C _ (Or.inr d)
    · rw [if_neg d]; exact h_ga_ok C _ h
end
variable {I I0 J X : sr_V} {nn nm s u k h us : Nat} {K K' K2 : Wt → Prop} {tl tl' mk mm l0 l1 l2 lw lt lp lx : List Wt} {a b c y n msk lf wp x1 x2 : Int} {Q : Int → sr_V → Prop} {R : sr_V → Prop} {x i e l m mi : Nat} {P : Nat → Nat → Prop} {S : Wt → Prop} {w ls n0 cs cm jn : Wt} {G : w_G} {T : w_T} {ms : List (List Wt)} {L C : List w_Ch} {d : w_Ch} {Lk : List (Wt × Nat)}
/-- what gathering reads -/
def m_gc (I : sr_V) (mk : List Wt) (nn : Nat) (K' : Wt → Prop) (tl : List Wt) (ms : List (List Wt)) (us m : Nat) (G : w_G) (Lk : List (Wt × Nat)) (K : Wt → Prop) : Prop := m_wr I mk nn K' tl ms us ∧ m_st I mk m G ∧ m_pp I mk ms m Lk ∧ ∀ (k : Nat) (p : List Wt), ms[k]? = some p → m_tk I mk K (I 24 k).toNat p
theorem m_gc_gp (hm : m < 24) (h : m_gc I mk nn K' tl ms us m G Lk K) (g : m_gp m_pga I J) : m_gc J mk nn K' tl ms us m G Lk K := by
  obtain ⟨⟨w1, w2, w3, w4⟩, h2, h3, h4⟩ := h
  have no : ∀ f k, f = 6 ∨ f = 16 ∨ f = 24 ∨ f = 26 ∨ (f = 1000 ∧ k = 23) → J f k = I f k := fun f k hf => g f k (by unfold m_pga m_pdn m_pdl m_pd m_pl; omega)
  have LJ : m_L J mk nn K' tl := m_L_gp w1 g (fun f k p => by unfold m_pga m_pdn m_pdl m_pd m_pl at p; omega)
  refine ⟨⟨LJ, m_me_gp w2 g (fun f k p => by unfold m_pga m_pdn m_pdl m_pd m_pl at p; omega), m_M_gp w3 w4 g (fun f k p => by unfold m_pga m_pdn m_pdl m_pd m_pl at p; omega), by rw [no _ _ (by omega)]; exact w4⟩, m_st_gp h2 g (fun f k p c => by unfold m_pl at p; unfold m_pga m_pdn m_pdl m_pd m_pl at c; omega), m_pp_gp h3 g (fun f k p c => by unfold m_kq at c; unfold m_pga m_pdn m_pdl m_pd m_pl at p; omega) (w_le_refl _) (fun i p h => h), fun k p hk => ?_⟩
  have := h4 k p hk
  have e6 : J 6 = I 6 := funext (fun k => no 6 k (by omega))
  have e16 : J 16 = I 16 := funext (fun k => no 16 k (by omega))
  have e26 : J 26 = I 26 := funext (fun k => no 26 k (by omega))
  unfold m_tk at this ⊢
  rw [e6, e16, e26, no 24 k (by omega)]
  exact this
theorem m_hr_48 {o : Nat} {T' : w_T} (hm : m < 24) (g : m_gp m_pga I0 I) (h : m_hr o I m T J 48 T') (hT : t_dp T ≤ 4) : m_hr o I0 m T J 48 T' := fun x hx => by
  rcases h x hx with h | ⟨h1, h2, h3⟩
  · exact Or.inl h
  · have := t_w_4 hT
    exact Or.inr ⟨h1, h2.trans (g 44 _ (by unfold m_pga m_pdn m_pdl m_pd m_pl; omega)), h3⟩
theorem r_ga_40 (hm : m < 24) (hkc : w_kc K ms Lk C) (q : ∀ J, m_gc J mk nn K' tl ms us m G Lk K → m_li J mk K (h_ga (gg_T G) (gg_lf G) L C) → m_tr J mk 48 (h_ap (gg_T G) (h_ga (gg_T G) (gg_lf G) L C)) → m_hr (gg_lf G) I0 m (gg_T G) J 48 (h_ap (gg_T G) (h_ga (gg_T G) (gg_lf G) L C)) → m_ad J (h_0 (gg_T G) (h_ga (gg_T G) (gg_lf G) L C)) (h_ga (gg_T G) (gg_lf G) L C) (h_ga (gg_T G) (gg_lf G) L C).length → m_gp m_pga I0 J → ∀ v373, v373 = J 1000 84 → sw_c v373 → (v373 ≤ 0 → rb_19_103 Q m x2 m (gg_lf G) 0 J) ∧ (0 < v373 → ∀ v376, v376 = J 1000 22 → sw_c v376 → (v376 ≠ 299 → rb_19_103 Q m x2 m (gg_lf G) 0 J) ∧ (v376 = 299 → rb_19_103 Q m x2 m (gg_lf G) 2 J))) : ∀ (n k : Nat) {I : sr_V} {L' : List w_Ch}, m_gc I mk nn K' tl ms us m G Lk K → m_li I mk K L' → (L' = [] ∨ h_done (gg_T G) L' (gg_lf G)) → h_ga (gg_T G) (gg_lf G) L' (C.drop k) = h_ga (gg_T G) (gg_lf G) L C → m_gp m_pga I0 I → k ≤ Lk.length → Lk.length - k < n → rl_19_40 Q n m x2 m (gg_lf G) k I
  | 0, _, _, _, _, _, _, _, _, _, hn => by omega
  | n + 1, k, I, L', hc, hli, hdn, hga, gI, hk, hn => by
    obtain ⟨hw, hst, hpp, htk⟩ := id hc
    have hT := hst.2.2.2.1
    have h4 := hT.1.1
    have own : t_is (gg_T G) (gg_lf G) := ⟨(t_lf_w _ _).mp hst.1.2.1, hst.1.2.2.1⟩
    have okL : ∀ {A : sr_V} {B : List w_Ch}, m_li A mk K B → ∀ c ∈ B, p_cok c.1 := fun hA c hcm => by
      obtain ⟨j, hj⟩ := List.mem_iff_getElem?.mp hcm
      exact (hA.2.2.2 j c hj).2.2.2.2.1
    have l32 : L'.length ≤ 32 := by
      rcases hdn with h | h
      · rw [h]; exact Nat.zero_le _
      · exact h_len h4 (okL hli) h
    unfold rl_19_40
    refine ⟨by omega, by omega, ?_⟩
    intro v363 e363 _
    rw [Int.toNat_natCast, hpp.1] at e363
    subst e363
    refine ⟨fun c => ?_, fun c => ?_⟩
    · have ek : k = Lk.length := by omega
      have eC : C.drop k = [] := List.drop_eq_nil_of_le (by have := hkc.1; omega)
      have eL : L' = h_ga (gg_T G) (gg_lf G) L C := by rw [← hga, eC]; rfl
      refine r_isDone (o := gg_lf G) (T := gg_T G) (L := L') (Or.inr (fun h => h_all_is h4 (okL hli) own h)) (fun h k c hk h2 => ((h k c hk).2 (by omega)).1) hm hw.1 hw.2.1 hT hli (fun z J hz hJ gJ => ?_)
      intro _
      have ar : h_all (gg_T G) L' (gg_lf G) ∧ h_room (h_0 (gg_T G) L') L' := by
        rcases hdn with h | h
        · rw [h]; exact ⟨h_all_nil, h_room_nil⟩
        · exact ⟨h.1, h.2.1⟩
      obtain ⟨j1, j2, j3⟩ := hJ ar.1 ar.2
      have gJ2 : m_gp m_pga I J := m_gp_sub gJ (fun f k p => Or.inl p)
      rw [eL] at j1 j2 j3
      have lJ := m_li_pdn hli gJ
      rw [eL] at lJ
      exact q J (m_gc_gp hm hc gJ2) lJ j1 (m_hr_48 hm gI j2 h4) j3 (m_gp_trans gI gJ2)
    · obtain ⟨hk2, hhk⟩ : ∃ hk2, Lk[k]? = some hk2 := ⟨Lk[k], List.getElem?_eq_getElem (by omega)⟩
      obtain ⟨hh, mi⟩ := hk2
      obtain ⟨p, ep, lf, v, sg, tg, g1, g2, g3⟩ := hkc.2 k mi hh hhk
      obtain ⟨p1, p2, _⟩ := id (hpp.2.2 k mi hh hhk)
      obtain ⟨i1, i2⟩ := w_i8160 hm (show k < 340 by have := hpp.2.1; omega)
      have hmi : mi < ms.length := (List.getElem?_eq_some_iff.mp g1).1
      have m3 := hw.2.2.1.2.1
      obtain ⟨k1, k2, k3, k4, k5⟩ := hw.2.2.1.2.2.2.2 mi p g1
      have m4 := hw.2.2.1.2.2.2.1
      rw [i1]
      refine ⟨Int.natCast_nonneg _, i2, ?_⟩
      intro v381 e381 _
      rw [Int.toNat_natCast, p2] at e381
      subst e381
      refine ⟨by clear i1; omega, by clear i1; omega, ?_⟩
      intro v387 e387 _
      rw [Int.toNat_natCast] at e387
      obtain ⟨r1, _, _, r4, r5, _, _⟩ := g2
      refine r_leafOfProposal hw.1 hw.2.2.1 g1 (Nat.le_refl _) (htk mi p g1) r4 ?_
      intro _
      refine ⟨Int.natCast_nonneg _, i2, ?_⟩
      intro v397 e397 _
      rw [Int.toNat_natCast] at e397
      rw [← e397] at p1
      clear i1
      obtain ⟨fr, efr⟩ : ∃ fr : Nat, I 24 mi = fr := ⟨(I 24 mi).toNat, by omega⟩
      have lfb := (p_16_sl (m_tk_vl (htk mi p g1)) (Nat.le_refl _) r4)
      have e7 : sw_w (v387 + 7) = ((fr + 7 : Nat) : Int) := by rw [e387, efr, sw_w_s (by omega) (by omega)]; omega
      have tk := htk mi p g1
      rw [efr, Int.toNat_natCast] at tk
      have used : ((fr + p.length : Nat) : Int) ≤ I 1000 23 := by clear e7; omega
      refine r_list (v := v) (hs := hh) hli (by clear e7; omega) tk used (Nat.le_refl _) r5 e7 ⟨lfb.2.1, lfb.2.2.1⟩ (Or.inr p1) (fun J lJ gJ => ?_)
      clear e7
      have gJ2 : m_gp m_pga I J := m_gp_sub gJ (fun f k p => by unfold m_pls m_pd at p; unfold m_pga m_pdn m_pdl m_pd; omega)
      have cJ := m_gc_gp hm hc gJ2
      have eD : C.drop k = (v, lf, hh) :: C.drop (k + 1) := h_drop g3
      rw [eD] at hga
      have step : ∀ {A : sr_V} {B : List w_Ch}, m_gc A mk nn K' tl ms us m G Lk K → m_li A mk K B → (B = [] ∨ h_done (gg_T G) B (gg_lf G)) → h_ga (gg_T G) (gg_lf G) B (C.drop (k + 1)) = h_ga (gg_T G) (gg_lf G) L C → m_gp m_pga I A → rb_19_85 Q (rl_19_40 Q n) m x2 m (gg_lf G) k A := fun {A B} cA lA dA hA gA => by
        unfold rb_19_85
        intro y359 e359
        rw [sw_s1 (by have := hpp.2.1; omega)] at e359
        subst e359
        exact r_ga_40 hm hkc q n (k + 1) cA lA dA hA (m_gp_trans gI gA) (by omega) (by omega)
      refine r_isDone (o := gg_lf G) (T := gg_T G) (L := L' ++ [(v, lf, hh)]) (Or.inr (fun h => h_all_is h4 (okL lJ) own h)) (fun h k c hk h2 => ((h k c hk).2 (by omega)).1) hm cJ.1.1 cJ.1.2.1 cJ.2.1.2.2.2.1 lJ (fun z Z hz hZ gZ => ?_)
      intro _
      have gZ2 : m_gp m_pga I Z := m_gp_trans gJ2 (m_gp_sub gZ (fun f k p => Or.inl p))
      have lZ := m_li_pdn lJ gZ
      rcases hz with ⟨rfl, hz⟩ | ⟨rfl, hz⟩
      · refine ⟨fun _ => step (m_gc_gp hm hc gZ2) lZ (Or.inr hz) ?_ gZ2, fun cc => absurd cc (by decide)⟩
        rw [h_ga_1 hz] at hga
        exact hga
      · refine ⟨fun cc => absurd rfl cc, fun _ => ?_⟩
        intro v414 e414 _ I418 e418
        rw [lZ.1, List.length_append, List.length_singleton] at e414
        have ez : v414 - 1 = (L'.length : Int) := by omega
        rw [sw_w_s (by omega) (by omega), ez] at e418
        have g418 : m_gp m_pga Z I418 := by rw [e418]; exact m_gp_sub (m_gp_su _ _ _ _) (fun f k p => by unfold m_pga; omega)
        refine step (m_gc_gp hm hc (m_gp_trans gZ2 g418)) (by rw [e418]; exact m_li_dec lZ rfl) hdn ?_ (m_gp_trans gZ2 g418)
        rw [h_ga_0 hz] at hga
        exact hga
end
