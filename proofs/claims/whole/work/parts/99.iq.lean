/-! ===== the reference: deliverWelcome, from the epoch on ===== -/
noncomputable section
def e_t5 (Q : Int → sr_V → Prop) (x2 z98 z167 y103 v130 v136 : Int) (I240 : sr_V) : Prop := ∀ v246, v246 = I240 1000 115 → sw_c v246 → (48 : Int) < 49 ∧ ∀ I250, I250 = su I240 29 48 v246 → ∀ v254, v254 = I250 1000 117 → sw_c v254 → (48 : Int) < 49 ∧ ∀ I258, I258 = su I250 33 48 v254 → rm_71 48 v130 I258 (fun I263 => rm_72 48 I263 (fun z274 I270 => sw_c z274 → ∀ v276, v276 = I270 1000 104 → sw_c v276 → (z274 = v276 → rm_67 48 (sw_w (2 * z167)) I270 (fun z284 I280 => sw_c z284 → 0 ≤ y103 ∧ y103 < 192 ∧ ∀ v286, v286 = I280 50 y103.toNat → sw_c v286 → 0 ≤ z284 ∧ z284 < 1519 ∧ ∀ I290, I290 = su I280 44 z284.toNat v286 → (v136 = 0 → rb_111_186 Q x2 z98 z167 I290) ∧ (v136 ≠ 0 → ∀ v294, v294 = I290 1000 118 → sw_c v294 → rm_239 z167 v294 v136 I290 (fun z302 I298 => sw_c z302 → (z302 ≠ 0 → rb_111_186 Q x2 z98 z167 I298) ∧ (z302 = 0 → Q 11 I298))))) ∧ (z274 ≠ v276 → Q 12 I270)))
variable {I I0 J X : sr_V} {nn fr i m l sd kk : Nat} {K K' S : Wt → Prop} {tl mk m0 mm lm : List Wt} {Q : Int → sr_V → Prop} {L : List (Nat × Wt × Wt)} {T : w_T} {cf cm jn sc u v : Wt} {ep v130 v136 : Int}
theorem r_we_t5 (hm : m < 24) (hL : m_L I mk nn K tl) (hT : m_tr I mk 48 T) (h115 : I 1000 115 = ep) (hep : sw_c ep) (h117 : w_az mk (I 1000 117) cf) (hjn : w_at mk v130 jn) (hsc : w_az mk v136 sc) (h104 : w_at mk (I 1000 104) cm) (h118 : I 1000 118 = (sd : Nat)) (hsd : sd < 2 ^ t_dp T) (h44 : ∀ x, x < t_w T → I 44 (1488 + x) = 0) (hP : m_pk I mk m L) (hi : L[i]? = some (kk, u, v)) (hl : l < 2 ^ t_dp T) (hb : m_bS S mk) (hS1 : ∀ y ∈ w_ordk (w_h (t_top T)) (t_top T) (w_h (t_top T) + 1) 0, S (w_th T 0 y)) (hS2 : S (e_es T ep cf jn)) (hS3 : S (w_dr (e_es T ep cf jn) 2)) (hS4 : S (w_cfm (e_es T ep cf jn) cf)) (hS5 : S (w_int cf (w_cfm (e_es T ep cf jn) cf))) (hS6 : ∀ w, e_clS T l sc (e_h T l sd) w → S w) (hok : gg_ok (e_G T ep l sd cf cm jn v sc))
    (q12 : ∀ J mm, w_cfm (e_es T ep cf jn) cf ≠ cm → w_mo S mk mm → m_bS S mm → m_L J mm nn K tl → m_gp (fun f k => m_p2 f k ∨ m_pl 48 f k) I J → Q 12 J)
    (q11 : ∀ J mm, w_cfm (e_es T ep cf jn) cf = cm → sc ≠ [] → ¬ e_cl T l sd sc → w_mo S mk mm → m_bS S mm → m_L J mm nn K tl → m_gp (fun f k => m_p2 f k ∨ m_pl 48 f k) I J → Q 11 J)
    (q0 : ∀ J mm, w_cfm (e_es T ep cf jn) cf = cm → (sc = [] ∨ e_cl T l sd sc) → w_mo S mk mm → m_bS S mm → m_L J mm nn K tl → m_st J mm m (e_G T ep l sd cf cm jn v sc) → J 27 m = 1 → J 46 m = 0 → J 47 m = 0 → J 28 m = 0 → m_pk J mm m (L.eraseIdx i) → m_gp (m_pjn m) I J → Q 0 J) : e_t5 Q m i l ((8 * m + i : Nat) : Int) v130 v136 I := by
  have h4 := hT.1.1
  have d16 := t_d_16 h4
  have w31 := t_w_4 h4
  have lw := (t_lf_w T l).mpr hl
  have il : i < L.length := (List.getElem?_eq_some_iff.mp hi).1
  have p8 := hP.2.1
  unfold e_t5
  intro v246 e246 _
  refine ⟨by decide, ?_⟩
  intro I250 e250
  have g250 : m_gp (fun f k => f = 29 ∧ k = 48) I I250 := by rw [e250]; exact m_gp_su _ _ _ _
  intro v254 e254 _
  rw [g250 1000 117 (by omega)] at e254
  refine ⟨by decide, ?_⟩
  intro I258 e258
  have g258 : m_gp (fun f k => f = 33 ∧ k = 48) I250 I258 := by rw [e258]; exact m_gp_su _ _ _ _
  have gA : m_gp (fun f k => (f = 29 ∨ f = 33) ∧ k = 48) I I258 := m_gp_trans (m_gp_sub g250 (fun f k p => by omega)) (m_gp_sub g258 (fun f k p => by omega))
  have LA := m_L_gp hL gA (fun f k p => by omega)
  have TA : m_tr I258 mk 48 T := m_tr_eq hT (gA 31 48 (by omega)) (fun f x h1 h2 h3 => gA f _ (by omega))
  have v29 : I258 29 48 = ep := by rw [g258 29 48 (by omega), e250, su_eq, e246, h115]
  have v33 : w_az mk (I258 33 48) cf := by rw [e258, su_eq, e254]; exact h117
  clear e250 e258
  have hmk : w_mo S mk (w_mkh T 0 (t_top T) mk) := w_mo_tls _ (fun w hw => by
    obtain ⟨y, hy, rfl⟩ := List.mem_map.mp hw
    exact hS1 y hy)
  have mo1 : w_mo S mk (w_tl (w_mkh T 0 (t_top T) mk) (e_es T ep cf jn)) := w_mo_trans hmk (w_mo_tl hS2)
  refine r_openEpoch2 (s := 48) (T := T) (ep := ep) (cf := cf) (es := e_es T ep cf jn) rfl (by decide) LA TA hep v29 v33 hjn (hb _ mo1 (w_tl_nd (w_tls_nd _ (m_L_nd LA)))) (fun B LB wB gB => ?_)
  obtain ⟨m1, em1⟩ : ∃ m1, m1 = w_tl (w_mkh T 0 (t_top T) mk) (e_es T ep cf jn) := ⟨_, rfl⟩
  have th1 : ∀ x, x < t_w T → w_th T 0 x ∈ m1 := fun x hx => by
    obtain ⟨l', hl'⟩ := w_le_tl (w_mkh T 0 (t_top T) mk) (e_es T ep cf jn)
    rw [em1, hl']
    exact List.mem_append_left _ (w_mkh_top h4 hx mk)
  rw [← em1] at mo1 LB wB
  clear em1 hmk
  have b1 := m_bS_mo hb mo1
  have v33B : w_az m1 (B 33 48) cf := by rw [gB 33 48 (by unfold m_p2; omega)]; exact w_le_az mo1.1 v33
  have mo2 : w_mo S m1 (w_tl (w_tl m1 (w_t 3 (e_es T ep cf jn) [2] [] [])) (w_cfm (e_es T ep cf jn) cf)) := w_mo_trans (w_mo_tl hS3) (w_mo_tl hS4)
  refine r_confirmation (s := 48) (by decide) LB wB v33B (b1 _ mo2 (w_tl_nd (w_tl_nd (m_L_nd LB)))) (fun t C LC aC fC => ?_)
  intro _ v276 e276 _
  obtain ⟨m2, em2⟩ : ∃ m2, m2 = w_tl (w_tl m1 (w_t 3 (e_es T ep cf jn) [2] [] [])) (w_cfm (e_es T ep cf jn) cf) := ⟨_, rfl⟩
  rw [← em2] at mo2 LC aC
  clear em2
  have b2 := m_bS_mo b1 mo2
  have mo12 := w_mo_trans mo1 mo2
  have gC : m_gp (fun f k => m_p2 f k ∨ ((f = 29 ∨ f = 33 ∨ f = 34) ∧ k = 48)) I C := m_gp_trans (m_gp_sub gA (fun f k p => Or.inr ⟨by omega, p.2⟩)) (m_gp_trans (m_gp_sub gB (fun f k p => p.elim Or.inl (fun p => Or.inr ⟨by omega, p.2⟩))) (m_gp_sub (m_f1_gp fC) (fun f k p => Or.inl p)))
  have upC : m_gp (fun f k => m_p2 f k ∨ m_pl 48 f k) I C := m_gp_sub gC (fun f k p => p.elim Or.inl (fun p => Or.inr (Or.inl (by omega))))
  rw [gC 1000 104 (by unfold m_p2; omega)] at e276
  rw [← e276] at h104
  have c104 := w_le_at mo12.1 h104
  refine ⟨fun c => ?_, fun c => q12 C m2 (fun e => c ?_) mo12 b2 LC upC⟩
  rotate_left
  · rw [e] at aC
    exact w_at_inj (m_L_nd LC) aC c104
  have ecm : w_cfm (e_es T ep cf jn) cf = cm := by
    rw [c] at aC
    exact w_at_fun aC c104
  rw [sw_2k (by omega)]
  refine r_spot (s := 48) (by decide) (by omega) ?_
  intro _
  refine ⟨by omega, by omega, ?_⟩
  intro v286 e286 _
  have nC : ∀ f k, (f = 31 ∨ (36 ≤ f ∧ f ≤ 50) ∨ (f = 1000 ∧ 100 ≤ k)) → C f k = I f k := fun f k hf => gC f k (by unfold m_p2; omega)
  obtain ⟨pa, pb, pc⟩ := hP.2.2 i kk u v hi
  rw [Int.toNat_natCast, nC 50 _ (by omega)] at e286
  rw [← e286] at pc
  refine ⟨by omega, by omega, ?_⟩
  intro I290 e290
  rw [Int.toNat_natCast] at e290
  have g290 : m_gp (fun f k => f = 44 ∧ k = 31 * 48 + 2 * l) C I290 := by rw [e290]; exact m_gp_su _ _ _ _
  have v44 : I290 44 (31 * 48 + 2 * l) = v286 := by rw [e290, su_eq]
  clear e290
  have L290 := m_L_gp LC g290 (fun f k p => by omega)
  have gD : m_gp (fun f k => m_p2 f k ∨ m_pl 48 f k) I I290 := m_gp_trans upC (m_gp_sub g290 (fun f k p => Or.inr (Or.inr (by omega))))
  have nD : ∀ f k, (f = 31 ∨ (36 ≤ f ∧ f ≤ 43) ∨ (45 ≤ f ∧ f ≤ 50) ∨ (f = 1000 ∧ 100 ≤ k)) → I290 f k = I f k := fun f k hf => by rw [g290 f k (by omega), nC f k (by omega)]
  have T290 : m_tr I290 m2 48 T := m_tr_le (m_tr_eq hT (nD 31 48 (by omega)) (fun f x h1 h2 h3 => nD f _ (by omega))) mo12.1
  have P290 : m_pk I290 m2 m L := by
    obtain ⟨p1, p2, p3⟩ := hP
    refine ⟨by rw [nD 45 m (by omega)]; exact p1, p2, fun j a b c hj => ?_⟩
    obtain ⟨y1, y2, y3⟩ := p3 j a b c hj
    rw [nD 48 _ (by omega), nD 49 _ (by omega), nD 50 _ (by omega)]
    exact ⟨y1, w_le_at mo12.1 y2, w_le_at mo12.1 y3⟩
  have w29 : I290 29 48 = ep := by rw [g290 29 48 (by omega), m_f1_gp fC 29 48 (by unfold m_p2; omega), gB 29 48 (by unfold m_p2; omega)]; exact v29
  have w33 : w_az m2 (I290 33 48) cf := by rw [g290 33 48 (by omega), m_f1_gp fC 33 48 (by unfold m_p2; omega)]; exact w_le_az mo2.1 v33B
  have w34 : w_at m2 (I290 34 48) (e_es T ep cf jn) := by rw [g290 34 48 (by omega), m_f1_gp fC 34 48 (by unfold m_p2; omega)]; exact w_le_at mo2.1 wB
  have w104 : w_at m2 (I290 1000 104) cm := by rw [nD 1000 104 (by omega), ← e276]; exact c104
  have th2 : ∀ x, x < t_w T → w_th T 0 x ∈ m2 := fun x hx => by
    obtain ⟨l', hl'⟩ := mo2.1
    rw [hl']
    exact List.mem_append_left _ (th1 x hx)
  have hd0 : ∀ x, x < t_w T → x ≠ 2 * l → I290 44 (1488 + x) = 0 := fun x hx hn => by rw [g290 44 _ (by omega), nC 44 _ (by omega)]; exact h44 x hx
  have hdl : w_az m2 (I290 44 (1488 + 2 * l)) v := by rw [show 1488 + 2 * l = 31 * 48 + 2 * l by omega, v44]; exact Or.inr (w_le_at mo12.1 pc)
  have S5 : S (w_int cf cm) := by rw [← ecm]; exact hS5
  refine ⟨fun c1 => ?_, fun c1 => ?_⟩
  · have esc : sc = [] := by
      rcases hsc with ⟨_, g⟩ | g
      · exact g
      · have := (w_at_le g).1
        omega
    refine r_we_fin (hd := e_hd T l sd v sc) (es := e_es T ep cf jn) (ep := ep) (T := T) (S := S) hm L290 T290 w104 w33 w29 w34 (fun x hx => ?_) th2 hok b2 S5 P290 il (fun J mm a1 a2 a3 a4 a5 a6 a7 a8 a9 a10 => q0 J mm ecm (Or.inl esc) (w_mo_trans mo12 a1) a2 a3 a4 a5 a6 a7 a8 a9 (m_gp_trans (m_gp_sub gD (fun f k p => p.elim Or.inl (fun p => Or.inr (Or.inl p)))) a10))
    unfold e_hd
    by_cases c2 : x = 2 * l
    · rw [if_pos c2, c2]; exact hdl
    · rw [if_neg c2, if_neg (fun cc => cc.1 esc), hd0 x hx c2]
      exact Or.inl ⟨rfl, rfl⟩
  · have asc : w_at mk v136 sc := hsc.resolve_left (fun g => c1 g.1)
    have scn : sc ≠ [] := w_at_ne hL asc
    intro v294 e294 _
    rw [nD 1000 118 (by omega), h118] at e294
    rw [e294]
    refine r_climbTree (S := S) hl hsd T290 L290 b2 (w_le_at mo12.1 asc) hS6 (fun J mm a1 a2 a3 a4 a5 a6 => ?_) (fun J mm a1 a2 a3 a4 a6 => ?_)
    · intro _
      refine ⟨fun _ => ?_, fun c => absurd c (by decide)⟩
      have nE : ∀ f k, (29 ≤ f ∧ f ≤ 43) ∨ (45 ≤ f ∧ f ≤ 50) ∨ (f = 1000 ∧ 100 ≤ k) → J f k = I290 f k := fun f k hf => a6 f k (by unfold m_pct m_p2; omega)
      have gE : m_gp (fun f k => m_p2 f k ∨ m_pl 48 f k) I J := m_gp_trans gD (m_gp_sub a6 (fun f k p => by
        rcases p with p | ⟨p1, j, j1, j2, j3, p2⟩
        · exact Or.inl p
        · have := t_ab_w (T := T) (k := l) (h := j) h4 hl j2
          exact Or.inr (Or.inr (by omega))))
      have PJ : m_pk J mm m L := by
        obtain ⟨p1, p2, p3⟩ := P290
        refine ⟨by rw [nE 45 m (by omega)]; exact p1, p2, fun j a b c hj => ?_⟩
        obtain ⟨y1, y2, y3⟩ := p3 j a b c hj
        rw [nE 48 _ (by omega), nE 49 _ (by omega), nE 50 _ (by omega)]
        exact ⟨y1, w_le_at a2.1 y2, w_le_at a2.1 y3⟩
      refine r_we_fin (hd := e_hd T l sd v sc) (es := e_es T ep cf jn) (ep := ep) (T := T) (S := S) hm a4 (m_tr_pct T290 a6 a2.1) (by rw [nE 1000 104 (by omega)]; exact w_le_at a2.1 w104) (by rw [nE 33 48 (by omega)]; exact w_le_az a2.1 w33) (by rw [nE 29 48 (by omega)]; exact w29) (by rw [nE 34 48 (by omega)]; exact w_le_at a2.1 w34) (fun x hx => ?_) (fun x hx => ?_) hok a3 S5 PJ il (fun V mv c1 c2 c3 c4 c5 c6 c7 c8 c9 c10 => q0 V mv ecm (Or.inr a1) (w_mo_trans mo12 (w_mo_trans a2 c1)) c2 c3 c4 c5 c6 c7 c8 c9 (m_gp_trans (m_gp_sub gE (fun f k p => p.elim Or.inl (fun p => Or.inr (Or.inl p)))) c10))
      · unfold e_hd
        by_cases c2 : x = 2 * l
        · rw [if_pos c2, c2, a6 44 _ (fun p => ?_)]
          · exact w_le_az a2.1 hdl
          · rcases p with p | ⟨p1, j, j1, j2, j3, p2⟩
            · unfold m_p2 at p; omega
            · have e0 : e_h T l sd ≥ 1 := e_mt_ge _ _
              have := t_ab_o (k := l) (h := j) (by omega) (by omega) (by omega)
              omega
        rw [if_neg c2]
        by_cases c3 : sc ≠ [] ∧ x % 2 = 1 ∧ x = t_ab l (w_h x) ∧ w_h x ≤ t_dp T ∧ e_h T l sd ≤ w_h x ∧ t_ky T x ≠ []
        · rw [if_pos c3]
          obtain ⟨_, _, d3, d4, d5, d6⟩ := c3
          have := a5 (w_h x) d5 d4 (by rw [← d3]; exact d6)
          rw [← d3] at this
          exact Or.inr this
        · rw [if_neg c3, a6 44 _ (fun p => c3 ?_), hd0 x hx c2]
          · exact Or.inl ⟨rfl, rfl⟩
          · rcases p with p | ⟨p1, j, j1, j2, j3, p2⟩
            · unfold m_p2 at p; omega
            · have e0 : e_h T l sd ≥ 1 := e_mt_ge _ _
              have ex : x = t_ab l j := by omega
              have wh : w_h x = j := by rw [ex]; exact (w_h_ab ⟨l, by omega⟩ ⟨j, by omega⟩).1
              rw [wh]
              exact ⟨scn, by rw [ex]; exact t_ab_o (k := l) (h := j) (by omega) (by omega) (by omega), ex, j2, j1, by rw [ex]; exact j3⟩
      · obtain ⟨l', hl'⟩ := a2.1
        rw [hl']
        exact List.mem_append_left _ (th2 x hx)
    · intro _
      refine ⟨fun c => absurd rfl c, fun _ => q11 J mm ecm scn a1 (w_mo_trans mo12 a2) a3 a4 (m_gp_trans gD (m_gp_sub a6 (fun f k p => ?_)))⟩
      rcases p with p | ⟨p1, j, j1, j2, j3, p2⟩
      · exact Or.inl p
      · have := t_ab_w (T := T) (k := l) (h := j) h4 hl j2
        exact Or.inr (Or.inr (by omega))
end
