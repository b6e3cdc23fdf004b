/-! ===== the reference: putInfo, to its end ===== -/
noncomputable section
variable {I I0 J X : sr_V} {nn nm s u k h us : Nat} {K K' K2 : Wt → Prop} {tl tl' mk mm l0 l1 l2 lw lt lp : List Wt} {a b c y n msk lf : Int} {Q : Int → sr_V → Prop} {R : sr_V → Prop} {x i e l m : Nat} {P : Nat → Nat → Prop} {S : Wt → Prop} {w ls n0 cs cm : Wt} {G : w_G} {T : w_T} {ms : List (List Wt)}
theorem m_at_dr2 {n : Int} {d : Nat → Wt} {f : Nat → Int} {p : Nat} (h : m_at n d f p (l1 ++ l2)) : m_at n d f (p + l1.length) l2 := by
  intro k w hk
  have := h (l1.length + k) w (by rw [List.getElem?_append_right (by omega), show l1.length + k - l1.length = k by omega]; exact hk)
  rw [Nat.add_assoc]
  exact this
theorem w_inf_len (h : t_dp (gg_T G) ≤ 4) : (w_inf G cm).length ≤ 712 := by
  have w31 := t_w_4 h
  have := w_nws_len (T := gg_T G) (t_w (gg_T G))
  have e4 : (w_b32 (gg_ep G)).length = 4 := rfl
  unfold w_inf
  simp [w_b16, e4]
  omega
theorem r_in_end {x2 : Int} {ma lh li ln : List Wt} {p p2 : Nat} (ep : p = us + (lp ++ lh).length) (ep2 : p2 = us + lp.length) (hm : m < 24) (LJ : m_L J ma nn K tl) (b1 : m_bS S ma) (hM : m_me J ma) (nl : ln.length ≤ 699) (tJ : m_th J ma us (lp ++ lh) (ln)) (lhl : lh.length = 8) (hlp : lp.length ≤ 300) (hcm : w_at ma x2 cm) (einf : lh ++ (w_b16 ((ln).length : Nat) ++ ln) ++ [cm] = li) (hS2 : S (w_t 7 (w_nm m) [] [] li)) (il : li.length ≤ 712) (q : ∀ Z mm, w_mo S ma mm → m_bS S mm → m_L Z mm nn K tl → m_tx Z mm us (lp ++ li ++ [w_t 7 (w_nm m) [] [] li]) → m_gp (fun f k => m_p2 f k ∨ m_pf us f k) J Z → R Z) : ∀ v79, v79 = J 1000 110 → sw_c v79 → ∀ y82, y82 = sw_w ((sw_w (v79 - (p : Int))) - 2) → 0 ≤ (p : Int) ∧ (p : Int) < 362000 ∧ ∀ I87, I87 = su J 26 (p : Int).toNat (sw_shr y82 8) → 0 ≤ sw_w ((p : Int) + 1) ∧ sw_w ((p : Int) + 1) < 362000 ∧ ∀ I92, I92 = su I87 26 (sw_w ((p : Int) + 1)).toNat (sw_and y82 255) → rm_80 x2 I92 (fun I97 => ∀ I104, I104 = su I97 1000 56 0 → ∀ v108, v108 = I104 1000 110 → sw_c v108 → rm_88 (p2 : Int) v108 I104 (fun I112 => 0 ≤ (m : Int) ∧ (m : Int) < 24 ∧ ∀ v118, v118 = I112 20 (m : Int).toNat → sw_c v118 → rm_53 7 v118 0 0 I112 (fun z126 I122 => sw_c z126 → rm_80 z126 I122 (fun I129 => R I129)))) := by
  have us1 := tJ.2.2.2.2
  have bm := (b1 ma w_mo_refl (m_L_nd LJ)).1
  have ll : (lp ++ lh).length = lp.length + 8 := by rw [List.length_append, lhl]
  intro v79 e79 _ y82 e82
  rw [tJ.2.1] at e79
  have e82' : y82 = ((ln).length : Nat) := by
    have e0 : sw_w (v79 - (p : Int)) = ((2 + (ln).length : Nat) : Int) := by
      rw [sw_w_s (by omega) (by omega)]; omega
    rw [e82, e0, sw_w_s (by omega) (by omega)]; omega
  clear e82
  have hb1 : ((p + 1 : Nat) : Int) < 362000 := by omega
  have hb0 : 0 ≤ ((p + 1 : Nat) : Int) := by omega
  refine ⟨by omega, by omega, ?_⟩
  intro I87 e87
  rw [Int.toNat_natCast] at e87
  have es1 : sw_w ((p : Int) + 1) = ((p + 1 : Nat) : Int) := by rw [sw_w_s (by omega) (by omega)]; omega
  rw [es1]
  clear es1
  refine ⟨hb0, hb1, ?_⟩
  intro I92 e92
  rw [Int.toNat_natCast, e87] at e92
  obtain ⟨f1, f2'⟩ := m_th_fill ep tJ e82' (by omega)
  rw [← e92] at f1 f2'
  have L92 := m_L_pf LJ f2'
  have nl2 : (lp ++ lh ++ (w_b16 ((ln).length : Nat) ++ ln)).length ≤ 1300 := by
    have e2 : (w_b16 ((ln).length : Nat)).length = 2 := rfl
    rw [List.length_append, ll, List.length_append, e2]
    omega
  refine r_flushTerm L92 bm f1 hcm (by omega) (fun N LN tN rN gN => ?_)
  have eall : lp ++ lh ++ (w_b16 ((ln).length : Nat) ++ ln) ++ [cm] = lp ++ li := by
    rw [← einf]
    simp
  rw [eall] at tN
  intro I104 e104
  obtain ⟨L5, r5, f7⟩ := r_rs0 LN e104
  intro v108 e108 _
  have t104 := m_tx_p2 tN (m_f0_gp f7)
  rw [t104.2.1] at e108
  rw [List.length_append] at e108
  refine r_bText (fr := p2) r5 (by rw [ep2]; exact m_at_dr2 t104.2.2.1) (by rw [e108]; omega) (by omega) (by simp; omega) (fun O rO fO => ?_)
  have f8 := m_fr_trans f7 fO
  have LO := m_f0_L LN f8
  refine ⟨by omega, by omega, ?_⟩
  intro v118 e118 _
  have gN2 : m_gp (fun f k => m_p2 f k ∨ m_pf us f k) J N := m_gp_sub (m_gp_trans f2' gN) (fun f k p => Or.inr p)
  have meO : w_at ma v118 (w_nm m) := by
    rw [e118, Int.toNat_natCast]
    have : O 20 m = J 20 m := by
      rw [congrFun (f8.1 20 (by simp) (by decide)) m, gN2 20 m (by unfold m_p2 m_pf; omega)]
    rw [this]
    exact (hM m hm).1
  refine r_part (s := 7) (Or.inr rfl) LO meO rO (by simp; omega) (m_bS_tl b1 (m_L_nd LO) (by simpa using hS2)) (fun t9 P9 L9 f9 _ w9 => ?_)
  intro _
  rw [List.nil_append] at L9 w9
  have mo9 := w_mo_tl (mk := ma) hS2
  have b9 := m_bS_mo b1 mo9
  have g9 := m_f1_gp f9
  have t9' : m_tx P9 (w_tl ma (w_t 7 (w_nm m) [] [] (li))) us (lp ++ li) := m_tx_pw (m_tx_p2 tN (m_f0_gp f8)) mo9.1 g9
  refine r_flushTerm L9 (b9 _ w_mo_refl (m_L_nd L9)).1 t9' w9 (by rw [List.length_append]; omega) (fun Z LZ tZ rZ gZ => ?_)
  exact q Z _ mo9 b9 LZ tZ (m_gp_trans gN2 (m_gp_trans (m_gp_sub (m_gp_trans (m_f0_gp f8) g9) (fun f k p => Or.inl p)) (m_gp_sub gZ (fun f k p => Or.inr p))))
theorem r_putInfo {x2 : Int} (hm : m < 24) (hL : m_L I mk nn K tl) (hb : m_bS S mk) (hM : m_me I mk) (hst : m_st I mk 48 G) (hcm : w_at mk x2 cm) (ht : m_tx I mk us lp) (hlp : lp.length ≤ 300) (hS1 : ∀ y ∈ w_ordk (w_h (t_top (gg_T G))) (t_top (gg_T G)) (w_h (t_top (gg_T G)) + 1) 0, S (w_th (gg_T G) 0 y)) (hS2 : S (w_t 7 (w_nm m) [] [] (w_inf G cm))) (q : ∀ J mm, w_mo S mk mm → m_bS S mm → m_L J mm nn K tl → m_tx J mm us (lp ++ w_inf G cm ++ [w_t 7 (w_nm m) [] [] (w_inf G cm)]) → m_gp (fun f k => m_p2 f k ∨ m_pf us f k) I J → R J) : rm_206 48 x2 m I R := by
  have us1 := ht.2.2.2
  have hT := hst.2.2.2.1
  have w31 := t_w_4 hT.1.1
  have d16 := t_d_16 hT.1.1
  have tt : w_h (t_top (gg_T G)) = t_dp (gg_T G) ∧ t_top (gg_T G) + 2 ^ w_h (t_top (gg_T G)) ≤ t_w (gg_T G) ∧ 2 ^ w_h (t_top (gg_T G)) ≤ t_top (gg_T G) + 1 := by
    have key : ∀ d : Fin 5, w_h (2 ^ d.val - 1) = d.val ∧ (2 ^ d.val - 1) + 2 ^ d.val ≤ 2 ^ (d.val + 1) - 1 ∧ 2 ^ d.val ≤ (2 ^ d.val - 1) + 1 := by decide +kernel
    obtain ⟨k1, k2, k3⟩ := key ⟨t_dp (gg_T G), by have := hT.1.1; omega⟩
    have et : t_top (gg_T G) = 2 ^ t_dp (gg_T G) - 1 := rfl
    rw [et, k1]
    exact ⟨rfl, k2, k3⟩
  unfold rm_206
  intro v172 e172 _
  rw [ht.2.1] at e172
  refine r_top (s := 48) (by decide) hT.2.1 hT.1.1 ?_
  intro _
  have et : ((2 ^ t_dp (gg_T G) - 1 : Nat) : Int) = ((t_top (gg_T G) : Nat) : Int) := rfl
  rw [et]
  have mo1 : w_mo S mk (w_mkh (gg_T G) 0 (t_top (gg_T G)) mk) := w_mo_tls _ (fun v hv => by
    obtain ⟨y, hy, rfl⟩ := List.mem_map.mp hv
    exact hS1 y hy)
  refine r_treeHash (s := 48) (by decide) tt.2.1 tt.2.2 hL hT (by unfold sw_c; omega) (hb _ mo1 (w_tls_nd _ (m_L_nd hL))) (fun t A LA wA fA => ?_)
  obtain ⟨ma, ema⟩ : ∃ ma, ma = w_mkh (gg_T G) 0 (t_top (gg_T G)) mk := ⟨_, rfl⟩
  rw [← ema] at mo1 LA wA
  have b1 := m_bS_mo hb mo1
  have bm := (b1 ma w_mo_refl (m_L_nd LA)).1
  have gA := m_f2_gp fA
  intro _ I196 e196
  obtain ⟨L2, r2, f2⟩ := r_rs0 LA e196
  have st2 : m_st I196 ma 48 G := m_st_le (m_st_gp hst (m_gp_trans gA (m_f0_gp f2)) (fun f k p c => by unfold m_pl at p; unfold m_p2 at c; omega)) mo1.1
  refine ⟨by omega, by omega, ?_⟩
  intro v200 e200 _
  have e200' : v200 = gg_ep G := by rw [e200]; exact st2.2.1
  rw [e200']
  refine r_b32 hst.1.1 r2 (by simp) (fun B rB fB => ?_)
  refine r_term rB (by simp [w_b32, w_b16]) bm wA (fun C rC fC => ?_)
  have f4 := m_fr_trans fB fC
  refine ⟨by omega, by omega, ?_⟩
  intro v217 e217 _
  have cf2 := st2.2.2.2.2.2.1
  have e217' : v217 = I196 33 48 := by rw [e217]; exact congrFun (f4.1 33 (by simp) (by decide)) 48
  rw [← e217'] at cf2
  refine r_perhaps (m_f0_L L2 f4) rC (by simp [w_b32, w_b16]) bm cf2 (fun D rD fD => ?_)
  have f5 := m_fr_trans f4 fD
  refine ⟨by omega, by omega, ?_⟩
  intro v227 e227 _
  have e227' : v227 = (gg_lf G : Nat) := by
    have : v227 = I196 30 48 := by rw [e227]; exact congrFun (f5.1 30 (by simp) (by decide)) 48
    rw [this]; exact st2.2.2.1
  rw [e227']
  have hlf : gg_lf G < 16 := by have := hst.1.2.1; omega
  refine r_b16 (by unfold sw_c; omega) rD (by simp [w_b32, w_b16]) (fun E rE fE => ?_)
  have f6 := m_fr_trans f2 (m_fr_trans f5 fE)
  have gE : m_gp m_p2 I E := m_gp_trans gA (m_f0_gp f6)
  have LE := m_f0_L LA f6
  have tE : m_tx E ma us lp := m_tx_le (m_tx_p2 ht gE) mo1.1
  obtain ⟨lh, elh⟩ : ∃ lh, lh = w_b32 (gg_ep G) ++ (w_th (gg_T G) 0 (t_top (gg_T G)) :: w_pb (gg_cf G) :: w_b16 (gg_lf G)) := ⟨_, rfl⟩
  have rE2 : m_rr E ma lh := by
    rw [elh]
    simpa using rE
  have lhl : lh.length = 8 := by rw [elh]; rfl
  refine r_flush rE2 tE (by omega) (fun F tF rF gF => ?_)
  intro v244 e244 _ v250 e250 _ I254 e254
  rw [tF.2.1] at e244 e250
  have ll : (lp ++ lh).length = lp.length + 8 := by rw [List.length_append, lhl]
  have ev : v250 + 2 = ((us + (lp ++ lh).length + 2 : Nat) : Int) := by omega
  rw [sw_w_s (by omega) (by omega), ev] at e254
  have th : m_th I254 ma us (lp ++ lh) (w_nws (gg_T G) 0) := by rw [e254]; exact m_th_of tF
  have g254 : m_gp (fun f k => m_p2 f k ∨ m_pf us f k) I I254 := by
    refine m_gp_trans (m_gp_sub gE (fun f k p => Or.inl p)) (m_gp_trans (m_gp_sub gF (fun f k p => Or.inr p)) ?_)
    rw [e254]
    exact m_gp_sub (m_gp_su _ _ _ _) (fun f k p => Or.inr (by unfold m_pf; omega))
  have L254 : m_L I254 ma nn K tl := by rw [e254]; exact m_L_gp (m_L_pf LE gF) (m_gp_su _ _ _ _) (fun f k p => by omega)
  have T254 : m_tr I254 ma 48 (gg_T G) := m_tr_le (m_tr_gp hT g254 (fun f k p c => by unfold m_pl at p; unfold m_p2 m_pf at c; omega)) mo1.1
  subst e244
  refine ⟨t_w (gg_T G) + 1, r_in_48 (x6 := us + (lp ++ lh).length) (by decide) (by omega) _ 0 L254 bm T254 th (by omega) (by omega) (fun J LJ tJ gJ => ?_)⟩
  have gJ2 : m_gp (fun f k => m_p2 f k ∨ m_pf us f k) I J := m_gp_trans g254 (m_gp_sub gJ (fun f k p => Or.inr p))
  subst e172
  have nl : (w_nws (gg_T G) (t_w (gg_T G))).length ≤ 699 := by
    have := w_nws_len (T := gg_T G) (t_w (gg_T G))
    omega
  refine r_in_end (p := us + (lp ++ lh).length) (p2 := us + lp.length) rfl rfl (ln := w_nws (gg_T G) (t_w (gg_T G))) (li := w_inf G cm) hm LJ b1 (m_me_le (m_me_gp hM gJ2 (fun f k p => by unfold m_p2 m_pf at p; omega)) mo1.1) nl tJ lhl hlp (w_le_at mo1.1 hcm) (by rw [elh]; rfl) hS2 (w_inf_len hT.1.1) (fun Z mz m1 m2 LZ tZ gZ => q Z mz (w_mo_trans mo1 m1) m2 LZ tZ (m_gp_trans gJ2 gZ))
end
