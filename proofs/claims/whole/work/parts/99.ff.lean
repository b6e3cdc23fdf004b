/-! ===== the reference: putNodes ===== -/
noncomputable section
variable {I I0 J X : sr_V} {nn s u k h us : Nat} {K K' : Wt → Prop} {tl mk mm l0 l1 l2 lw : List Wt} {a b c y n m msk : Int} {Q : Int → sr_V → Prop} {R : sr_V → Prop} {x i e l : Nat} {T T0 T1 T' T'' : w_T} {P : Nat → Nat → Prop} {S : Wt → Prop} {w ls n0 : Wt} {kf : Nat → Wt} {C : Nat → Int} {r : List Nat}
def m_pno (us f k : Nat) : Prop := m_p2 f k ∨ m_pf us f k ∨ m_prs f k
/-- what putNodes reads -/
def m_pnc (I : sr_V) (mk : List Wt) (T0 T : w_T) (l : Nat) (n0 : Wt) (msk : Int) : Prop := m_wy I T0 l ∧ m_pth I mk T0 l n0 (t_dp T0) ∧ I 1000 83 = msk ∧ m_tr I mk 48 T
theorem m_pnc_gp (h : m_pnc I mk T0 T l n0 msk) (g : m_gp (m_pno us) I J) (hl : w_le mk mm) : m_pnc J mm T0 T l n0 msk := by
  obtain ⟨h1, h2, h3, h4⟩ := h
  have no : ∀ f k, (90 ≤ f ∧ f ≤ 99) ∨ (29 ≤ f ∧ f ≤ 44) ∨ (f = 1000 ∧ (k = 93 ∨ k = 83)) → J f k = I f k := fun f k hf => g f k (by unfold m_pno m_p2 m_pf m_prs; omega)
  refine ⟨⟨by rw [no _ _ (by omega)]; exact h1.1, fun j hj => by rw [no _ _ (by omega), no _ _ (by omega), no _ _ (by omega)]; exact h1.2 j hj⟩, fun j hj hc => ?_, by rw [no _ _ (by omega)]; exact h3, m_tr_le (m_tr_gp h4 g (fun f k p q => ?_)) hl⟩
  · rw [no _ _ (by omega), no _ _ (by omega)]
    exact ⟨w_le_at hl (h2 j hj hc).1, w_le_at hl (h2 j hj hc).2⟩
  · unfold m_pl at p
    unfold m_pno m_p2 m_pf m_prs at q
    omega
theorem m_pno_2 (g : m_gp m_p2 I J) : m_gp (m_pno us) I J := m_gp_sub g (fun _ _ p => Or.inl p)
theorem m_pno_f (g : m_gp (m_pf us) I J) : m_gp (m_pno us) I J := m_gp_sub g (fun _ _ p => Or.inr (Or.inl p))
theorem m_pno_r (g : m_gp m_prs I J) : m_gp (m_pno us) I J := m_gp_sub g (fun _ _ p => Or.inr (Or.inr p))
theorem m_pno_5 (g : m_fr [55] [56] I J) : m_gp (m_pno us) I J := m_gp_sub (m_fr_gp g) (fun f k p => by simp at p; unfold m_pno m_pf; omega)
theorem r_pn_44 {k11 : Int → Int → sr_V → Prop} {x1 : Int} (hk : k < t_dp T0) (h4 : t_dp T0 ≤ 4) (c1 : t_cb T0 l k ≠ 0) (hr : ∀ y ∈ r, y < t_w T ∧ (t_ky T y).head? = some 5) (hr2 : r.length ≤ 136) (hS : ∀ y ∈ r, S (w_sea T (t_ls T0 l n0 (k + 1)) y)) (hlen : l0.length + l1.length ≤ 1600) : ∀ (n i : Nat) {I : sr_V} {mz : List Wt}, m_bS S mz → m_L I mz nn K tl → m_pnc I mz T0 T l n0 msk → m_rz I r → m_th I mz us l0 (l1 ++ (r.take i).map (w_sea T (t_ls T0 l n0 (k + 1)))) → i ≤ r.length → r.length - i < n → (∀ J mm, w_mo S mz mm → m_bS S mm → m_L J mm nn K tl → m_pnc J mm T0 T l n0 msk → m_th J mm us l0 (l1 ++ r.map (w_sea T (t_ls T0 l n0 (k + 1)))) → m_gp (m_pno us) I J → rb_102_68 R k11 x1 k J) → rl_102_44 R k11 n x1 k (r.length : Nat) i I
  | 0, _, _, _, _, _, _, _, _, _, h, _ => by omega
  | n + 1, i, I, mz, hb, hL, hc, hz, ht, hi, hn, q => by
    have w31 := t_w_4 hc.2.2.2.1.1
    unfold rl_102_44
    refine ⟨fun c => ?_, fun c => ?_⟩
    · have ei : i = r.length := by omega
      subst ei
      rw [List.take_length] at ht
      exact q I mz w_mo_refl hb hL hc ht (m_gp_refl _ _)
    · obtain ⟨y, hy⟩ : ∃ y, r[i]? = some y := ⟨r[i], List.getElem?_eq_getElem (by omega)⟩
      have ym := List.mem_of_getElem? hy
      obtain ⟨y1, y2⟩ := hr y ym
      have tk : r.take (i + 1) = r.take i ++ [y] := by rw [List.take_add_one, hy]; rfl
      have yne : t_ky T y ≠ [] := fun cc => by rw [cc] at y2; cases y2
      refine ⟨by omega, by omega, ?_⟩
      intro v5 e5 _
      rw [Int.toNat_natCast, hz.2 i y hy] at e5
      subst e5
      refine r_spot (s := 48) (by decide) (by omega) ?_
      intro _
      refine ⟨by omega, by omega, ?_⟩
      intro v15 e15 _
      rw [Int.toNat_natCast] at e15
      have ky := m_tr_key hc.2.2.2 y1 yne
      rw [← e15] at ky
      refine ⟨by omega, by omega, ?_⟩
      intro v18 e18 _
      rw [Int.toNat_natCast] at e18
      have se := (hc.2.1 k hk c1).1
      rw [← e18] at se
      refine r_sealedS hb hL ky y2 se (Or.inl ⟨rfl, rfl⟩) (hS y ym) (fun t J mm m1 m2 LJ wt fJ => ?_)
      intro _
      have gJ := m_f1_gp fJ
      have bm := (m2 mm w_mo_refl (m_L_nd LJ)).1
      have ll : ((r.take i).map (w_sea T (t_ls T0 l n0 (k + 1)))).length ≤ 136 := by
        rw [List.length_map]
        have : (r.take i).length ≤ r.length := List.length_take_le' i r
        omega
      refine r_flushTermH LJ bm (m_th_le (m_th_p2 ht gJ) m1.1) wt (by rw [List.length_append]; omega) (fun Z LZ tZ _ gZ => ?_)
      intro y35 e35
      rw [sw_s1 (by omega)] at e35
      subst e35
      have g2 : m_gp (m_pno us) I Z := m_gp_trans (m_pno_2 gJ) (m_pno_f gZ)
      refine r_pn_44 hk h4 c1 hr hr2 hS hlen n (i + 1) m2 LZ (m_pnc_gp hc g2 m1.1) ⟨by rw [gZ _ _ (by unfold m_pf; omega), gJ _ _ (by unfold m_p2; omega)]; exact hz.1, fun j v hj => by rw [gZ _ _ (by unfold m_pf; omega), gJ _ _ (by unfold m_p2; omega)]; exact hz.2 j v hj⟩ ?_ (by omega) (by omega) (fun A ml a1 a2 LA cA tA gA => q A ml (w_mo_trans m1 a1) a2 LA cA tA (m_gp_trans g2 gA))
      rw [tk, List.map_append, ← List.append_assoc]
      exact tZ
theorem r_pn_11 {x1 : Nat} (ex : x1 = us + l0.length) (hd : t_dp T0 = t_dp T) (hl : l < 2 ^ t_dp T) (hm : 0 ≤ msk ∧ msk < 65536) (hr : ∀ k, k < t_dp T → ∀ y ∈ w_rs T k (t_si l k), y < t_w T ∧ (t_ky T y).head? = some 5) (hS : ∀ k, k < t_dp T → t_cb T0 l k ≠ 0 → ∀ y ∈ w_rq T msk l k, S (w_sea T (t_ls T0 l n0 (k + 1)) y)) (hlen : l0.length ≤ 700) : ∀ (n k : Nat) {I : sr_V} {mz : List Wt}, m_bS S mz → m_L I mz nn K tl → m_pnc I mz T0 T l n0 msk → m_th I mz us l0 (w_nk T0 T msk l n0 k) → k ≤ t_dp T → t_dp T - k < n → (∀ J mm, w_mo S mz mm → m_bS S mm → m_L J mm nn K tl → m_pnc J mm T0 T l n0 msk → m_tx J mm us (l0 ++ (w_b16 ((w_nk T0 T msk l n0 (t_dp T)).length : Nat) ++ w_nk T0 T msk l n0 (t_dp T))) → m_gp (m_pno us) I J → R J) → rl_102_11 R n x1 k I
  | 0, _, _, _, _, _, _, _, _, h, _ => by omega
  | n + 1, k, I, mz, hb, hL, hc, ht, hk, hn, q => by
    have ok := hc.2.2.2.1
    have h4 := ok.1
    have nl := w_nk_len (T0 := T0) (msk := msk) (n0 := n0) ok hl k hk
    have us1 := ht.2.2.2.2
    unfold rl_102_11
    intro v40 e40 _
    rw [hc.1.1, hd] at e40
    subst e40
    refine ⟨fun c => ?_, fun c => ?_⟩
    · have ek : k = t_dp T := by omega
      subst ek
      intro v43 e43 _ y46 e46
      rw [ht.2.1] at e43
      have e46' : y46 = ((w_nk T0 T msk l n0 (t_dp T)).length : Nat) := by
        have e0 : sw_w (v43 - (x1 : Int)) = ((2 + (w_nk T0 T msk l n0 (t_dp T)).length : Nat) : Int) := by
          rw [sw_w_s (by omega) (by omega)]; omega
        rw [e46, e0, sw_w_s (by omega) (by omega)]; omega
      refine ⟨by omega, by omega, ?_⟩
      intro I51 e51
      rw [Int.toNat_natCast] at e51
      rw [sw_w_s (by omega) (by omega), show (x1 : Int) + 1 = ((x1 + 1 : Nat) : Int) by omega]
      refine ⟨by omega, by omega, ?_⟩
      intro I56 e56
      rw [Int.toNat_natCast, e51] at e56
      obtain ⟨f1, f2⟩ := m_th_fill ex ht e46' (by omega)
      rw [← e56] at f1 f2
      exact q I56 mz w_mo_refl hb (m_L_pf hL f2) (m_pnc_gp hc (m_pno_f f2) (w_le_refl _)) f1 (m_pno_f f2)
    · obtain ⟨w1, w2, w3⟩ := hc.1.2 k (by omega)
      refine ⟨by omega, by omega, ?_⟩
      intro v60 e60 _
      rw [Int.toNat_natCast, w3] at e60
      subst e60
      refine ⟨fun c1 => ?_, fun c1 => ?_⟩
      · refine r_resolveSide (s := 48) (by decide) hc.2.2.2 hl (by omega) w2 hc.2.2.1 hm (fun y hy => by have := (hr k (by omega) y hy).1; have := t_w_4 h4; omega) (fun J hz gJ => ?_)
        have rl := w_rq_len (msk := msk) ok hl (k := k) (by omega)
        have cJ := m_pnc_gp hc (us := us) (m_pno_r gJ) (w_le_refl _)
        have LJ : m_L J mz nn K tl := m_L_gp hL gJ (fun f k p => by unfold m_prs at p; omega)
        have tJ : m_th J mz us l0 (w_nk T0 T msk l n0 k) := m_th_gp ht gJ (fun f k p => by unfold m_prs at p; omega)
        intro v70 e70 _
        rw [hz.1] at e70
        subst e70
        intro I77 e77
        obtain ⟨L2, r2, f2⟩ := r_rs0 LJ e77
        refine ⟨by omega, by omega, ?_⟩
        intro v81 e81 _
        rw [Int.toNat_natCast, e77, su_f (by decide)] at e81
        have pk := (cJ.2.1 k (by omega) c1).2
        rw [← e81] at pk
        have bm := (hb mz w_mo_refl (m_L_nd hL)).1
        refine r_term r2 (by simp) bm pk (fun A rA fA => ?_)
        refine r_b16 (by unfold sw_c; omega) rA (by simp) (fun B rB fB => ?_)
        have f7 := m_fr_trans f2 (m_fr_trans fA fB)
        have LB := m_f0_L LJ f7
        have gB : m_gp m_p2 J B := m_f0_gp f7
        refine r_flushH rB (m_th_p2 tJ gB) (by simp [w_b16]; omega) (fun D tD rD gD => ?_)
        have g2 : m_gp (m_pno us) I D := m_gp_trans (m_pno_r gJ) (m_gp_trans (m_pno_2 gB) (m_pno_f gD))
        have zD : m_rz D (w_rq T msk l k) := ⟨by rw [gD _ _ (by unfold m_pf; omega), gB _ _ (by unfold m_p2; omega)]; exact hz.1, fun j v hj => by rw [gD _ _ (by unfold m_pf; omega), gB _ _ (by unfold m_p2; omega)]; exact hz.2 j v hj⟩
        have hr2 : ∀ y ∈ w_rq T msk l k, y < t_w T ∧ (t_ky T y).head? = some 5 := fun y hy => hr k (by omega) y (List.mem_filter.mp hy).1
        have el : l0.length + (w_nk T0 T msk l n0 k ++ ([] ++ [w_p5 (w_dr (t_ls T0 l n0 (k + 1)) 5)] ++ w_b16 ((w_rq T msk l k).length : Nat))).length ≤ 1600 := by
          simp [w_b16]; omega
        refine ⟨(w_rq T msk l k).length + 1, r_pn_44 (T0 := T0) (l1 := w_nk T0 T msk l n0 k ++ ([] ++ [w_p5 (w_dr (t_ls T0 l n0 (k + 1)) 5)] ++ w_b16 ((w_rq T msk l k).length : Nat))) (by omega) (by omega) c1 hr2 rl (hS k (by omega) c1) el _ 0 hb (m_L_pf LB gD) (m_pnc_gp hc g2 (w_le_refl _)) zD (by rw [List.take_zero, List.map_nil, List.append_nil]; exact tD) (by omega) (by omega) (fun Z ml a1 a2 LZ cZ tZ gZ => ?_)⟩
        unfold rb_102_68
        intro y1 e1
        rw [sw_s1 (by omega)] at e1
        subst e1
        refine r_pn_11 ex hd hl hm hr hS hlen n (k + 1) a2 LZ cZ ?_ (by omega) (by omega) (fun W mw b1 b2 LW cW tW gW => q W mw (w_mo_trans a1 b1) b2 LW cW tW (m_gp_trans (m_gp_trans g2 gZ) gW))
        rw [w_nk_1 c1]
        rw [List.nil_append, List.singleton_append, List.append_assoc] at tZ
        exact tZ
      · unfold rb_102_68
        intro y1 e1
        rw [sw_s1 (by omega)] at e1
        subst e1
        exact r_pn_11 ex hd hl hm hr hS hlen n (k + 1) hb hL hc (by rw [w_nk_0 c1]; exact ht) (by omega) (by omega) q
theorem r_putNodes (hd : t_dp T0 = t_dp T) (hl : l < 2 ^ t_dp T) (hm : 0 ≤ msk ∧ msk < 65536) (hr : ∀ k, k < t_dp T → ∀ y ∈ w_rs T k (t_si l k), y < t_w T ∧ (t_ky T y).head? = some 5) (hS : ∀ k, k < t_dp T → t_cb T0 l k ≠ 0 → ∀ y ∈ w_rq T msk l k, S (w_sea T (t_ls T0 l n0 (k + 1)) y)) (hlen : l0.length ≤ 700) (hb : m_bS S mk) (hL : m_L I mk nn K tl) (hc : m_pnc I mk T0 T l n0 msk) (ht : m_tx I mk us l0) (q : ∀ J mm, w_mo S mk mm → m_bS S mm → m_L J mm nn K tl → m_pnc J mm T0 T l n0 msk → m_tx J mm us (l0 ++ (w_b16 ((w_nk T0 T msk l n0 (t_dp T)).length : Nat) ++ w_nk T0 T msk l n0 (t_dp T))) → m_gp (m_pno us) I J → R J) : rm_102 I R := by
  have us1 := ht.2.2.2
  unfold rm_102
  intro v110 e110 _ v116 e116 _ I120 e120
  rw [ht.2.1] at e110 e116
  have ev : v116 + 2 = ((us + l0.length + 2 : Nat) : Int) := by omega
  rw [sw_w_s (by omega) (by omega), ev] at e120
  subst e110
  have th : m_th I120 mk us l0 (w_nk T0 T msk l n0 0) := by rw [e120]; exact m_th_of ht
  have g120 : m_gp (m_pno us) I I120 := by rw [e120]; exact m_gp_sub (m_gp_su _ _ _ _) (fun f k p => by unfold m_pno m_pf; omega)
  have L120 : m_L I120 mk nn K tl := by rw [e120]; exact m_L_gp hL (m_gp_su _ _ _ _) (fun f k p => by omega)
  exact ⟨t_dp T + 1, r_pn_11 rfl hd hl hm hr hS hlen _ 0 hb L120 (m_pnc_gp hc g120 (w_le_refl _)) th (by omega) (by omega) (fun J mm m1 m2 LJ cJ tJ gJ => q J mm m1 m2 LJ cJ tJ (m_gp_trans g120 gJ))⟩
end
