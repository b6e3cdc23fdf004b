/-! ===== the reference: resolveSide, putNodes ===== -/
noncomputable section
variable {I I0 J X : sr_V} {nn s u k h us : Nat} {K K' : Wt → Prop} {tl mk mm l0 l1 l2 lw : List Wt} {a b c y n m msk : Int} {Q : Int → sr_V → Prop} {R : sr_V → Prop} {x i e l : Nat} {T T0 T1 T' T'' : w_T} {P : Nat → Nat → Prop} {S : Wt → Prop} {w ls n0 : Wt} {kf : Nat → Wt} {C : Nat → Int} {r : List Nat}
def m_prs (f k : Nat) : Prop := f = 88 ∨ f = 89 ∨ (f = 1000 ∧ k = 92)
theorem w_h_0 : ∀ y : Fin 31, (w_h y.val = 0 ↔ y.val % 2 = 0) := by decide +kernel
theorem r_rq_11 (hr : r.length ≤ 200) (hr31 : ∀ y ∈ r, y < 31) (hm : 0 ≤ msk ∧ msk < 65536) : ∀ (n i x3 : Nat) {I : sr_V}, I 1000 83 = msk → I 1000 92 = (r.length : Nat) → x3 = ((r.take i).filter (w_keep msk)).length → (∀ j v, j < x3 → ((r.take i).filter (w_keep msk))[j]? = some v → I 88 j = (v : Nat)) → (∀ j v, i ≤ j → r[j]? = some v → I 88 j = (v : Nat)) → i ≤ r.length → r.length - i < n → (∀ J, m_rz J (r.filter (w_keep msk)) → m_gp m_prs I J → R J) → rl_201_11 R n x3 i I
  | 0, _, _, _, _, _, _, _, _, _, h, _ => by omega
  | n + 1, i, x3, I, h83, h92, hx, h1, h2, hi, hn, q => by
    have hxi : x3 ≤ i := by
      have := List.length_filter_le (w_keep msk) (r.take i)
      have : (r.take i).length ≤ i := List.length_take_le i r
      omega
    unfold rl_201_11
    intro v14 e14 _
    rw [h92] at e14
    subst e14
    refine ⟨fun c => ?_, fun c => ?_⟩
    · intro I18 e18
      have ei : i = r.length := by omega
      subst ei
      rw [List.take_length] at hx h1
      refine q I18 ⟨by rw [e18, su_eq, hx], fun j v hj => ?_⟩ (by rw [e18]; exact m_gp_sub (m_gp_su _ _ _ _) (fun f k p => by unfold m_prs; omega))
      rw [e18, su_f (by decide)]
      exact h1 j v (by
        rcases Nat.lt_or_ge j (r.filter (w_keep msk)).length with g | g
        · omega
        · rw [List.getElem?_eq_none g] at hj; cases hj) hj
    · obtain ⟨y, hy⟩ : ∃ y, r[i]? = some y := ⟨r[i], List.getElem?_eq_getElem (by omega)⟩
      have y31 := hr31 y (List.mem_of_getElem? hy)
      have tk : r.take (i + 1) = r.take i ++ [y] := by rw [List.take_add_one, hy]; rfl
      refine ⟨by omega, by omega, ?_⟩
      intro v22 e22 _
      rw [Int.toNat_natCast, h2 i y (Nat.le_refl _) hy] at e22
      subst e22
      refine r_height y31 ?_
      intro _
      have keep : w_keep msk y = true → rb_201_34 R (rl_201_11 R n) x3 i (y : Nat) I := fun hk => by
        unfold rb_201_34
        refine ⟨by omega, by omega, ?_⟩
        intro I6 e6
        rw [Int.toNat_natCast] at e6
        intro y10 e10
        rw [sw_s1 (by omega)] at e10
        subst e10
        unfold rb_201_40
        intro y1 e1
        rw [sw_s1 (by omega)] at e1
        subst e1
        have ef : (r.take (i + 1)).filter (w_keep msk) = (r.take i).filter (w_keep msk) ++ [y] := by
          rw [tk, List.filter_append, List.filter_cons_of_pos hk, List.filter_nil]
        refine r_rq_11 hr hr31 hm n (i + 1) (x3 + 1) (by rw [e6, su_f (by decide)]; exact h83) (by rw [e6, su_f (by decide)]; exact h92) (by rw [ef, List.length_append, hx]; rfl) (fun j v hj hv => ?_) (fun j v hj hv => ?_) (by omega) (by omega) (fun J hJ gJ => q J hJ (m_gp_trans (by rw [e6]; exact m_gp_sub (m_gp_su _ _ _ _) (fun f k p => by unfold m_prs; omega)) gJ))
        · rw [ef] at hv
          rcases Nat.lt_or_ge j x3 with g | g
          · rw [List.getElem?_append_left (by omega)] at hv
            rw [e6, su_k (by omega)]
            exact h1 j v g hv
          · have ej : j = x3 := by omega
            subst ej
            rw [List.getElem?_append_right (by omega), ← hx, Nat.sub_self] at hv
            cases hv
            rw [e6, su_eq]
        · rw [e6, su_k (by omega)]
          exact h2 j v (by omega) hv
      have h0 : w_h y = 0 ↔ y % 2 = 0 := w_h_0 ⟨y, y31⟩
      refine ⟨fun c2 => keep ?_, fun c2 => ?_⟩
      · unfold w_keep
        exact decide_eq_true (fun hh => c2 (by rw [h0.mpr hh.1]; rfl))
      · have ev : y % 2 = 0 := h0.mp (by omega)
        intro v35 e35 _
        rw [h83] at e35
        have ed : sw_div (y : Int) 2 = ((y / 2 : Nat) : Int) := sw_div_31 ⟨y, y31⟩
        rw [e35, ed, sw_bit (by unfold sw_c; omega) (by omega)]
        refine ⟨fun c3 => keep ?_, fun c3 => ?_⟩
        · unfold w_keep
          exact decide_eq_true (fun hh => c3 hh.2)
        · have nk : w_keep msk y = false := by
            unfold w_keep
            exact decide_eq_false (fun hh => hh ⟨ev, c3⟩)
          have ef : (r.take (i + 1)).filter (w_keep msk) = (r.take i).filter (w_keep msk) := by
            rw [tk, List.filter_append, List.filter_cons_of_neg (by rw [nk]; decide), List.filter_nil]
            exact List.append_nil _
          unfold rb_201_40
          intro y1 e1
          rw [sw_s1 (by omega)] at e1
          subst e1
          exact r_rq_11 hr hr31 hm n (i + 1) x3 h83 h92 (by rw [ef]; exact hx) (fun j v hj hv => h1 j v hj (by rw [ef] at hv; exact hv)) (fun j v hj hv => h2 j v (by omega) hv) (by omega) (by omega) q
theorem r_resolveSide (hs : s < 49) (ht : m_tr I mk s T) (hl : l < 2 ^ t_dp T) (hk : k < t_dp T) (h91 : I 91 k = ((t_si l k : Nat) : Int)) (h83 : I 1000 83 = msk) (hm : 0 ≤ msk ∧ msk < 65536) (hu : ∀ y ∈ w_rs T k (t_si l k), y < 31) (q : ∀ J, m_rz J (w_rq T msk l k) → m_gp m_prs I J → R J) : rm_201 s k I R := by
  obtain ⟨a1, a2, a3, a4, _, _⟩ := t_si_ok ht.1.1 hl hk
  have h4 := ht.1.1
  have l136 := w_rs_136 ht.1 (x := t_si l k) (by rw [a1]; exact a3)
  rw [a1] at l136
  unfold rm_201
  refine ⟨by omega, by omega, ?_⟩
  intro v41 e41 _
  rw [Int.toNat_natCast, h91] at e41
  subst e41
  refine r_resolve hs ht (by rw [a1]; exact a3) (fun J hz fJ => ?_)
  rw [a1] at hz
  have gJ : m_gp m_prs I J := m_gp_sub (m_fr_gp fJ) (fun f k p => by simp at p; unfold m_prs; omega)
  refine ⟨(w_rs T k (t_si l k)).length + 1, r_rq_11 (r := w_rs T k (t_si l k)) (by omega) hu hm _ 0 0 (by rw [gJ 1000 83 (by unfold m_prs; omega)]; exact h83) hz.1 rfl (fun j v hj => by omega) (fun j v _ hv => hz.2 j v hv) (by omega) (by omega) (fun X hX gX => q X hX (m_gp_trans gJ gX))⟩
/-- the secret of a node of the path, sealed -/
def w_sea (T : w_T) (sec : Wt) (y : Nat) : Wt := w_t 6 (t_ky T y) sec [] []
theorem r_sealedS {x1 x2 x3 : Int} {w1 w2 w3 : Wt} (hb : m_bS S mk) (hL : m_L I mk nn K tl) (h1 : w_at mk x1 w1) (h5 : w1.head? = some 5) (h2 : w_at mk x2 w2) (h3 : w_az mk x3 w3) (hS : S (w_t 6 w1 w2 w3 [])) (q : ∀ (t : Int) J mm, w_mo S mk mm → m_bS S mm → m_L J mm nn K tl → w_at mm t (w_t 6 w1 w2 w3 []) → m_f1 I J → Q t J) : rm_202 x1 x2 x3 I Q := by
  unfold rm_202
  intro I2 e2
  obtain ⟨L2, r2, f2⟩ := r_rs0 hL e2
  have i4 := L2.2.2.2.1
  have t1 := L2.1.1
  have b1 := w_at_le h1
  have b2 := w_at_le h2
  have b3 := w_az_le h3
  have e6 : I2 6 x1.toNat = 5 := by
    obtain ⟨va, _, _, _, _, hd, hn⟩ := L2.1.2.2.2.2.1 x1.toNat (by omega) (by omega)
    have v0 := va.1
    rw [← w_at_d h1] at h5
    by_cases c : I2 6 x1.toNat = 8
    · obtain ⟨i, _, hi⟩ := hn c
      rw [hi] at h5
      cases h5
    · rw [hd c] at h5
      have h5 : some (I2 6 x1.toNat).toNat = some 5 := h5
      have := Option.some.inj h5
      omega
  have er : m_row I2 = [] := by
    have := r2.2.2
    exact List.map_eq_nil_iff.mp this
  have e : w_tm (w_d mk) 6 x1 x2 x3 (m_row I2) = w_t 6 w1 w2 w3 [] := by
    unfold w_tm w_t
    rw [er, if_neg (by decide), w_dz_pos (by omega), w_dz_pos (by omega), w_at_d h1, w_at_d h2, w_az_dz h3]
    rfl
  refine m_mkT L2 (by unfold m_va; omega) (by decide) r2.1 (by rw [m_rr_len r2]; simp) (by rw [er]; intro x hx; cases hx) (by rw [e]; exact m_bS_tl hb (m_L_nd hL) hS) (fun t J a1 a2 a3 a4 _ => ?_)
  rw [e] at a1 a4
  intro _
  exact q t J _ (w_mo_tl hS) (m_bS_mo hb (w_mo_tl hS)) a1 a4 (m_fr_trans (m_fr_sub f2 (by simp) (by simp)) a2)
/-- what putNodes writes, below height k -/
def w_nk (T0 T : w_T) (msk : Int) (l : Nat) (n0 : Wt) : Nat → List Wt
  | 0 => []
  | k + 1 => if t_cb T0 l k = 0 then w_nk T0 T msk l n0 k else w_nk T0 T msk l n0 k ++ ((w_p5 (w_dr (t_ls T0 l n0 (k + 1)) 5) :: w_b16 ((w_rq T msk l k).length : Nat)) ++ (w_rq T msk l k).map (w_sea T (t_ls T0 l n0 (k + 1))))
theorem w_nk_0 (c : t_cb T0 l k = 0) : w_nk T0 T msk l n0 (k + 1) = w_nk T0 T msk l n0 k := if_pos c
theorem w_nk_1 (c : t_cb T0 l k ≠ 0) : w_nk T0 T msk l n0 (k + 1) = w_nk T0 T msk l n0 k ++ ((w_p5 (w_dr (t_ls T0 l n0 (k + 1)) 5) :: w_b16 ((w_rq T msk l k).length : Nat)) ++ (w_rq T msk l k).map (w_sea T (t_ls T0 l n0 (k + 1)))) := if_neg c
theorem w_rq_len (ht : t_ok T) (hl : l < 2 ^ t_dp T) (hk : k < t_dp T) : (w_rq T msk l k).length ≤ 136 := by
  obtain ⟨a1, a2, a3, a4, _, _⟩ := t_si_ok ht.1 hl hk
  have l136 := w_rs_136 ht (x := t_si l k) (by rw [a1]; exact a3)
  rw [a1] at l136
  have := List.length_filter_le (w_keep msk) (w_rs T k (t_si l k))
  unfold w_rq
  omega
theorem w_nk_len (ht : t_ok T) (hl : l < 2 ^ t_dp T) : ∀ k, k ≤ t_dp T → (w_nk T0 T msk l n0 k).length ≤ 139 * k
  | 0, _ => Nat.le_refl _
  | k + 1, hk => by
    have ih := w_nk_len ht hl k (by omega)
    by_cases c : t_cb T0 l k = 0
    · rw [w_nk_0 c]; omega
    · rw [w_nk_1 c, List.length_append, List.length_append, List.length_cons, List.length_map]
      have := w_rq_len (msk := msk) ht hl (k := k) (by omega)
      have e : (w_b16 ((w_rq T msk l k).length : Nat)).length = 2 := rfl
      rw [e]
      omega
end
