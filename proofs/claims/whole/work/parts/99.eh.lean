/-! ===== the reference: isAddRight, isChangeRight, isOneKey ===== -/
noncomputable section
variable {I J X : sr_V} {nn fr mi s u k h : Nat} {K K' : Wt → Prop} {tl mk mm l : List Wt} {a b c y n S src m so com : Int} {Q : Int → sr_V → Prop} {R : sr_V → Prop} {x i e : Nat} {T T' T'' : w_T} {f : p_L} {L : List w_Ch} {d : w_Ch} {P : Nat → Nat → Prop}
theorem w_at_fun {z : Int} {v w : Wt} (h : w_at mk z v) (g : w_at mk z w) : v = w := (w_at_d h).symm.trans (w_at_d g)
theorem h_tk_mem {L : List w_Ch} : d ∈ L.take k ↔ ∃ i, i < k ∧ L[i]? = some d := by
  rw [List.mem_iff_getElem?]
  constructor
  · rintro ⟨i, hi⟩
    rw [List.getElem?_take] at hi
    by_cases c : i < k
    · rw [if_pos c] at hi; exact ⟨i, c, hi⟩
    · rw [if_neg c] at hi; cases hi
  · rintro ⟨i, hi, hd⟩
    exact ⟨i, by rw [List.getElem?_take, if_pos hi]; exact hd⟩
theorem h_lt {L : List w_Ch} (h : L[k]? = some d) : k < L.length := by
  rcases Nat.lt_or_ge k L.length with g | g
  · exact g
  · rw [List.getElem?_eq_none g] at h; cases h
theorem r_ar_51 (hli : m_li I mk K L) (hk : k ≤ L.length) (q1 : (∀ d ∈ L.take k, d.1.1 = 1 → h_go d ≠ a) → Q 1 I) (q0 : (¬ ∀ d ∈ L.take k, d.1.1 = 1 → h_go d ≠ a) → Q 0 I) : ∀ (n j : Nat), j ≤ k → k - j < n → (∀ i d, i < j → L[i]? = some d → d.1.1 = 1 → h_go d ≠ a) → rl_191_51 Q n k a j I
  | 0, _, _, h, _ => by omega
  | n + 1, j, hj, hn, hp => by
    have b1 := hli.2.1
    unfold rl_191_51
    refine ⟨fun c => q1 (fun d hd => ?_), fun c => ?_⟩
    · obtain ⟨i, hi, hd⟩ := h_tk_mem.mp hd
      exact hp i d (by omega) hd
    · obtain ⟨w, hw⟩ := h_get (L := L) (k := j) (by omega)
      obtain ⟨_, _, e79, e80, _⟩ := hli.2.2.2 j w hw
      have next : (w.1.1 = 1 → h_go w ≠ a) → rl_191_51 Q n k a ((j + 1 : Nat) : Int) I := fun hx => r_ar_51 hli hk q1 q0 n (j + 1) (by omega) (by omega) (fun i d hi hd => by
        rcases Nat.lt_or_ge i j with g | g
        · exact hp i d g hd
        · rw [show i = j by omega, hw] at hd
          cases hd
          exact hx)
      refine ⟨by omega, by omega, ?_⟩
      intro v8 e8 _
      rw [Int.toNat_natCast, e79] at e8
      subst e8
      refine ⟨fun c3 => ?_, fun c3 => ⟨by omega, by omega, ?_⟩⟩
      · unfold rb_191_68
        intro y ey
        rw [sw_s1 (by omega)] at ey
        subst ey
        exact next (fun g => absurd g c3)
      · intro v11 e11 _
        rw [Int.toNat_natCast, e80] at e11
        subst e11
        refine ⟨fun c4 => ?_, fun c4 => q0 (fun g => g w (h_tk_mem.mpr ⟨j, by omega, hw⟩) c3 c4)⟩
        unfold rb_191_68
        intro y ey
        rw [sw_s1 (by omega)] at ey
        subst ey
        exact next (fun _ => c4)
theorem r_ar_18 {x2 : Int} (hs : s < 49) (hT : m_tr I mk s T) (hli : m_li I mk K L) (q1 : (∀ l : Nat, l < 2 ^ t_dp T → t_ky T (2 * l) ≠ [] → t_ow T l = a → h_rm L l) → ∃ n51, rl_191_51 Q n51 x2 a 0 I) (q0 : (¬ ∀ l : Nat, l < 2 ^ t_dp T → t_ky T (2 * l) ≠ [] → t_ow T l = a → h_rm L l) → Q 0 I) : ∀ (n j : Nat), j ≤ 2 ^ t_dp T → 2 ^ t_dp T - j < n → (∀ l, l < j → t_ky T (2 * l) ≠ [] → t_ow T l = a → h_rm L l) → rl_191_18 Q n s x2 a j I
  | 0, _, _, h, _ => by omega
  | n + 1, j, hj, hn, hp => by
    have d16 := t_d_16 hT.1.1
    have w31 := t_w_4 hT.1.1
    unfold rl_191_18
    refine r_leafCount hs hT.2.1 hT.1.1 ?_
    intro _
    refine ⟨fun c => q1 (fun l hl => hp l (by omega)), fun c => ?_⟩
    have hjw := (t_lf_w T j).mpr (by omega)
    have next : (t_ky T (2 * j) ≠ [] → t_ow T j = a → h_rm L j) → rb_191_47 Q (rl_191_18 Q n) s x2 a j I := fun hx => by
      unfold rb_191_47
      intro y ey
      rw [sw_s1 (by omega)] at ey
      subst ey
      exact r_ar_18 hs hT hli q1 q0 n (j + 1) (by omega) (by omega) (fun l hl => by
        rcases Nat.lt_or_ge l j with g | g
        · exact hp l g
        · rw [show l = j by omega]; exact hx)
    rw [sw_2k (by omega)]
    refine r_isBlankT hs hT hjw (fun g => ?_) (fun g => ?_)
    · intro _
      exact ⟨fun _ => next (fun c => absurd g c), fun e => absurd e (by decide)⟩
    · intro _
      refine ⟨fun e => absurd rfl e, fun _ => ?_⟩
      refine r_spot hs (by omega) ?_
      intro _
      refine ⟨by omega, by omega, ?_⟩
      intro v ev _
      rw [Int.toNat_natCast, (hT.2.2.2 j hjw g).1] at ev
      subst ev
      refine ⟨fun c4 => next (fun _ c => absurd c c4), fun c4 => ?_⟩
      refine r_isRemoved hli (fun hr => ?_) (fun hr => ?_)
      · intro _
        exact ⟨fun _ => next (fun _ _ => hr), fun e => absurd e (by decide)⟩
      · intro _
        exact ⟨fun e => absurd rfl e, fun _ => q0 (fun hh => hr (hh j (by omega) g c4))⟩
theorem r_isAddRight (hs : s < 49) (hL : m_L I mk nn K' tl) (hM : m_me I mk) (hT : m_tr I mk s T) (hli : m_li I mk K L) (hk : L[k]? = some d) (hkd : d.1.1 = 1) (q : ∀ z J, ((z = 1 ∧ h_ar T L (L.take k) d) ∨ (z = 0 ∧ ¬ h_ar T L (L.take k) d)) → m_gp m_pd I J → Q z J) : rm_191 s k I Q := by
  obtain ⟨⟨kd, ⟨ik, ⟨m, ky, p, so, ph, g0⟩, g⟩, n⟩, dl, dh⟩ := d
  have hkd : kd = 1 := hkd
  subst hkd
  have hlt := h_lt hk
  have nd : mk.Nodup := m_L_nd hL
  unfold rm_191
  refine r_readL hli hk (fun J fr l i e s2 hx he hp hco _ _ fJ => ?_)
  have gJ := m_pd_F fJ
  obtain ⟨_, x2, hx3⟩ := p_ct_ix hp
  rcases hx3 with ⟨_, es, _, hpk, _⟩ | ⟨c, _⟩ | ⟨c, _⟩
  · obtain ⟨_, h1, _⟩ := hco
    obtain ⟨j, j1, j2, j3, j4, j5⟩ := h1 rfl
    have ej : j = i + 3 := by rw [es] at j1; have : i + 12 = j + 9 := j1; omega
    subst ej
    have e12 : i + 12 ≤ l.length := by rw [es] at x2; exact Nat.le_trans x2 he
    have hq : m_pq J mk fr (i + 3) (ik, (m, ky, p, so, ph, g0), g) := ⟨j2, j3, j4, j5⟩
    refine r_isPackageSigned (m_L_pd hL gJ) (m_me_pd hM gJ) hx e12 hpk hq (fun z X hz LX _ fX => ?_)
    have gX := m_gp_trans gJ (m_pd_5 fX)
    intro _
    refine ⟨fun e => q 0 X (Or.inr ⟨rfl, fun c => ?_⟩) gX, fun e => ?_⟩
    · rcases hz with ⟨z1, _⟩ | ⟨_, z2⟩
      · omega
      · exact z2 c.1
    · have hok : w_pks (ik, (m, ky, p, so, ph, g0), g) := by
        rcases hz with ⟨_, z2⟩ | ⟨z1, _⟩
        · exact z2
        · exact absurd z1 e
      have hX := m_pq_fr hq fX (by simp)
      obtain ⟨⟨o68, _⟩, ⟨o61, o62, _⟩, _⟩ := hX
      intro v ev _ w ew _
      rw [ev, ew]
      refine ⟨fun c => ?_, fun c => q 0 X (Or.inr ⟨rfl, fun c2 => c2.2.1 ?_⟩) gX⟩
      · have hne : ky ≠ ik := fun cc => by
          subst cc
          exact c (w_at_inj nd o62 o68)
        intro v6 e6 _
        rw [o61] at e6
        subst e6
        have TX := m_tr_pd hT gX
        have lX := m_li_pd hli gX
        clear hq j1 j2 j3 j4 j5 h1 hpk
        have hp : 0 < 2 ^ t_dp T := Nat.two_pow_pos _
        refine ⟨2 ^ t_dp T + 1, r_ar_18 hs TX lX (fun h1 => ⟨k + 1, r_ar_51 lX (by omega) (fun h2 => ?_) (fun h2 => ?_) _ 0 (by omega) (by omega) (fun i d hi => by omega)⟩) (fun h1 => ?_) _ 0 (by omega) (by omega) (fun l hl => by omega)⟩
        · exact q 1 X (Or.inl ⟨rfl, hok, hne, h1, h2⟩) gX
        · exact q 0 X (Or.inr ⟨rfl, fun c => h2 c.2.2.2⟩) gX
        · exact q 0 X (Or.inr ⟨rfl, fun c => h1 c.2.2.1⟩) gX
      · show ky = ik
        rw [c] at o62
        exact w_at_fun o62 o68
  · cases c
  · cases c
theorem r_cr_24 (hs : s < 49) (hL : m_L I mk nn K' tl) (hM : m_me I mk) (hT : m_tr I mk s T) (hli : m_li I mk K L) (hk : L[k]? = some d) (hkd : d.1.1 ≠ 1) (hg : h_hl T (h_go d)) (hc : h_go d ≠ com) (q : ∀ z J, ((z = 1 ∧ h_cr T com (L.take k) d) ∨ (z = 0 ∧ ¬ h_cr T com (L.take k) d)) → m_gp m_pd I J → Q z J) : ∀ (n j : Nat), j ≤ k → k - j < n → (∀ i d', i < j → L[i]? = some d' → d'.1.1 ≠ 1 → h_go d' ≠ h_go d) → rl_192_24 Q n s k (h_go d) j I
  | 0, _, _, h, _ => by omega
  | n + 1, j, hj, hn, hp => by
    have b1 := hli.2.1
    have d16 := t_d_16 hT.1.1
    have w31 := t_w_4 hT.1.1
    have hlt := h_lt hk
    obtain ⟨_, _, k79, k80, kok, kfl, _⟩ := hli.2.2.2 k d hk
    unfold rl_192_24
    refine ⟨fun c => ⟨by omega, by omega, ?_⟩, fun c => ?_⟩
    · have hP : ∀ d' ∈ L.take k, d'.1.1 ≠ 1 → h_go d' ≠ h_go d := fun d' hd => by
        obtain ⟨i, hi, hd⟩ := h_tk_mem.mp hd
        exact hp i d' (by omega) hd
      intro v ev _
      rw [Int.toNat_natCast, k79] at ev
      subst ev
      refine ⟨fun c3 => ?_, fun c3 => q 1 I (Or.inl ⟨rfl, hc, hg, hP, Or.inl c3⟩) (m_gp_refl _ _)⟩
      have k2 : d.1.1 = 2 := by have := kok.1; omega
      have eg : h_go d = d.2.1 := by unfold h_go; rw [if_neg hkd, if_pos k2]
      refine r_readL hli hk (fun J fr l i e s2 hx he hp hco _ _ fJ => ?_)
      have gJ := m_pd_F fJ
      obtain ⟨⟨kd, ⟨ik, ⟨m, ky, p, so, ph, g0⟩, g⟩, n⟩, dl, dh⟩ := d
      have k2 : kd = 2 := k2
      subst k2
      obtain ⟨_, x2, hx3⟩ := p_ct_ix hp
      rcases hx3 with ⟨c, _⟩ | ⟨_, es, hlf, _⟩ | ⟨c, _⟩
      · cases c
      · obtain ⟨_, _, h2, _⟩ := hco
        obtain ⟨j', j1, j2, j3⟩ := h2 rfl
        have ej : j' = i + 1 := by rw [es] at j1; have : i + 7 = j' + 6 := j1; omega
        subst ej
        have so2 : so = 2 := (p_lf_ix hlf).2.2.2.2.2.1 (by decide)
        intro v15 e15 _
        rw [j2.1] at e15
        rw [e15]
        obtain ⟨g1, g2, g3⟩ := hg
        have eg2 : h_go ((2, (ik, (m, ky, p, so, ph, g0), g), n), dl, dh) = dl := eg
        rw [eg2] at g1 g2 g3 hP hc ⊢
        obtain ⟨dn, rfl⟩ : ∃ dn : Nat, dl = dn := ⟨dl.toNat, by omega⟩
        rw [Int.toNat_natCast] at g3
        have hw := (t_lf_w T dn).mpr (by omega)
        rw [sw_2k (by omega)]
        refine r_spot hs (by omega) ?_
        intro _
        refine ⟨by omega, by omega, ?_⟩
        intro v25 e25 _
        have TJ := m_tr_pd hT gJ
        rw [Int.toNat_natCast, (TJ.2.2.2 dn hw g3).1] at e25
        rw [e25]
        refine ⟨fun c4 => q 0 J (Or.inr ⟨rfl, fun cc => ?_⟩) gJ, fun c4 => ?_⟩
        · rcases cc.2.2.2 with c5 | c5
          · cases c5
          · have := c5.1
            rw [eg2, Int.toNat_natCast] at this
            exact c4 this
        · refine r_isLeafSigned (m_L_pd hL gJ) (m_me_pd hM gJ) hx he hlf (by rw [so2, if_neg (by decide)]; rw [so2] at j2; exact j2) j3 (by unfold sw_c; omega) (fun z X hz LX _ fX => ?_)
          have gX := m_gp_trans gJ (m_pd_5 fX)
          intro _
          rcases hz with ⟨rfl, z2⟩ | ⟨rfl, z2⟩
          · refine ⟨fun e => absurd e (by decide), fun _ => q 1 X (Or.inl ⟨rfl, ?_, ?_, ?_, Or.inr ⟨?_, ?_⟩⟩) gX⟩
            · rw [eg2]; exact hc
            · rw [eg2]; exact ⟨g1, g2, by rw [Int.toNat_natCast]; exact g3⟩
            · rw [eg2]; exact hP
            · rw [eg2, Int.toNat_natCast]; exact c4
            · rw [eg2]; exact z2
          · refine ⟨fun _ => q 0 X (Or.inr ⟨rfl, fun cc => ?_⟩) gX, fun e => absurd rfl e⟩
            rcases cc.2.2.2 with c5 | c5
            · cases c5
            · have := c5.2
              rw [eg2] at this
              exact z2 this
      · cases c
    · obtain ⟨w, hw⟩ := h_get (L := L) (k := j) (by omega)
      obtain ⟨_, _, e79, e80, _⟩ := hli.2.2.2 j w hw
      have next : (w.1.1 ≠ 1 → h_go w ≠ h_go d) → rl_192_24 Q n s k (h_go d) ((j + 1 : Nat) : Int) I := fun hx => r_cr_24 hs hL hM hT hli hk hkd hg hc q n (j + 1) (by omega) (by omega) (fun i d' hi hd => by
        rcases Nat.lt_or_ge i j with g | g
        · exact hp i d' g hd
        · rw [show i = j by omega, hw] at hd
          cases hd
          exact hx)
      refine ⟨by omega, by omega, ?_⟩
      intro v8 e8 _
      rw [Int.toNat_natCast, e79] at e8
      subst e8
      refine ⟨fun c3 => ?_, fun c3 => ⟨by omega, by omega, ?_⟩⟩
      · unfold rb_192_41
        intro y ey
        rw [sw_s1 (by omega)] at ey
        subst ey
        exact next (fun g => absurd c3 g)
      · intro v11 e11 _
        rw [Int.toNat_natCast, e80] at e11
        subst e11
        refine ⟨fun c4 => ?_, fun c4 => q 0 I (Or.inr ⟨rfl, fun g => g.2.2.1 w (h_tk_mem.mpr ⟨j, by omega, hw⟩) c3 c4⟩) (m_gp_refl _ _)⟩
        unfold rb_192_41
        intro y ey
        rw [sw_s1 (by omega)] at ey
        subst ey
        exact next (fun _ => c4)
theorem h_go_0 (hc : p_cok d.1) (hf : 0 ≤ d.2.1 ∧ d.2.1 < 65536) : 0 ≤ h_go d ∧ h_go d < 65536 := by
  unfold h_go
  by_cases c1 : d.1.1 = 1
  · rw [if_pos c1]
    have := hc.2.1 (by omega)
    exact ⟨this.1, this.2.1⟩
  · rw [if_neg c1]
    by_cases c2 : d.1.1 = 2
    · rw [if_pos c2]; exact hf
    · rw [if_neg c2]; exact hc.2.2.2.2
theorem r_isChangeRight (hs : s < 49) (hL : m_L I mk nn K' tl) (hM : m_me I mk) (hT : m_tr I mk s T) (hli : m_li I mk K L) (hk : L[k]? = some d) (hkd : d.1.1 ≠ 1) (q : ∀ z J, ((z = 1 ∧ h_cr T com (L.take k) d) ∨ (z = 0 ∧ ¬ h_cr T com (L.take k) d)) → m_gp m_pd I J → Q z J) : rm_192 s k com I Q := by
  have b1 := hli.2.1
  have d16 := t_d_16 hT.1.1
  have hlt := h_lt hk
  obtain ⟨_, _, k79, k80, kok, kfl, _⟩ := hli.2.2.2 k d hk
  have hgo := h_go_0 kok kfl
  unfold rm_192
  refine ⟨by omega, by omega, ?_⟩
  intro v ev _
  rw [Int.toNat_natCast, k80] at ev
  subst ev
  refine ⟨fun c => q 0 I (Or.inr ⟨rfl, fun g => g.1 c⟩) (m_gp_refl _ _), fun c => ?_⟩
  refine r_leafCount hs hT.2.1 hT.1.1 ?_
  intro _
  refine ⟨fun c2 => q 0 I (Or.inr ⟨rfl, fun g => by have := g.2.1.2.1; omega⟩) (m_gp_refl _ _), fun c2 => ?_⟩
  obtain ⟨gn, eg⟩ : ∃ gn : Nat, h_go d = gn := ⟨(h_go d).toNat, by omega⟩
  have hw := (t_lf_w T gn).mpr (by omega)
  have e2 : sw_w (2 * h_go d) = ((2 * gn : Nat) : Int) := by rw [eg]; exact sw_2k (by omega)
  rw [e2]
  refine r_isBlankT hs hT hw (fun g => ?_) (fun g => ?_)
  · intro _
    exact ⟨fun e => absurd e (by decide), fun _ => q 0 I (Or.inr ⟨rfl, fun hh => hh.2.1.2.2 (by rw [eg, Int.toNat_natCast]; exact g)⟩) (m_gp_refl _ _)⟩
  · intro _
    refine ⟨fun _ => ⟨k + 1, r_cr_24 hs hL hM hT hli hk hkd ⟨hgo.1, c2, by rw [eg, Int.toNat_natCast]; exact g⟩ c q _ 0 (by omega) (by omega) (fun i d hi => by omega)⟩, fun e => absurd rfl e⟩
end
