/-! ===== the reference: keepSame, updateOwn ===== -/
noncomputable section
/-- what is held, and where nothing is what was held -/
def d_hk (G : w_G) (T : w_T) (hv : Nat → Wt) (x : Nat) : Wt := if hv x = [] then w_hcy G T x else hv x
def m_p44 (f k : Nat) : Prop := f = 44 ∧ 1488 ≤ k ∧ k < 1519
variable {I I0 J X : sr_V} {nn us fr : Nat} {K K' : Wt → Prop} {tl mk : List Wt} {Q : Int → sr_V → Prop} {R : sr_V → Prop} {m mi l k d lf : Nat} {P : Nat → Nat → Prop} {T : w_T} {L : List w_Ch} {G : w_G} {hv : Nat → Wt} {U : List (Wt × Wt)} {s h : Wt} {c : w_Ch} {k15 : Int → Int → Int → sr_V → Prop}
theorem m_tr_44 (h : m_tr I mk 48 T) (g : m_gp m_p44 I J) : m_tr J mk 48 T := by
  have ef : ∀ f, f ≠ 44 → J f = I f := fun f hf => funext (fun k => g f k (fun c => hf c.1))
  unfold m_tr at h ⊢
  rw [ef 31 (by decide), ef 36 (by decide), ef 37 (by decide), ef 38 (by decide), ef 39 (by decide), ef 40 (by decide), ef 41 (by decide), ef 42 (by decide), ef 43 (by decide)]
  exact h
theorem w_hcy_w (h : t_w (gg_T G) ≤ k) : w_hcy G T k = [] := by
  unfold w_hcy
  rw [if_neg (fun c => by omega)]
theorem w_hcy_n (h : t_ky T k ≠ t_ky (gg_T G) k) : w_hcy G T k = [] := by
  unfold w_hcy
  rw [if_neg (fun c => h c.2.2)]
theorem r_ks_2 (hm : m < 24) (hL : m_L I0 mk nn K tl) (hst : m_st I0 mk m G) (hT : m_tr I0 mk 48 T) (hv0 : ∀ x, x < t_w T → w_az mk (I0 44 (1488 + x)) (hv x)) (q : ∀ J, (∀ x, x < t_w T → w_az mk (J 44 (1488 + x)) (d_hk G T hv x)) → m_gp m_p44 I0 J → R J) : ∀ (n k : Nat) {I : sr_V}, m_gp m_p44 I0 I → (∀ x, x < k → w_az mk (I 44 (1488 + x)) (d_hk G T hv x)) → (∀ x, k ≤ x → I 44 (1488 + x) = I0 44 (1488 + x)) → k ≤ t_w T → t_w T - k < n → rl_233_2 R n m k I
  | 0, _, _, _, _, _, _, h => by omega
  | n + 1, k, I, gI, h1, h2, hk, hn => by
    have nd := m_L_nd hL
    have st := m_st_gp hst gI (fun f k p q => by unfold m_pl at p; unfold m_p44 at q; omega)
    have tr := m_tr_44 hT gI
    have h4 := hT.1.1
    have w31 := t_w_4 h4
    have tr2 := st.2.2.2.1
    have h42 := tr2.1.1
    have w31' := t_w_4 h42
    unfold rl_233_2
    refine r_width (s := 48) (by decide) tr.2.1 h4 ?_
    intro _
    refine ⟨fun c => ?_, fun c => ?_⟩
    · have c : t_w T ≤ k := by unfold t_w; omega
      exact q I (fun x hx => h1 x (by omega)) gI
    have c : k < t_w T := by unfold t_w; omega
    refine r_width (s := m) (by omega) tr2.2.1 h42 ?_
    intro _
    refine ⟨fun c1 => ?_, fun c1 => ?_⟩
    · have c1 : t_w (gg_T G) ≤ k := by unfold t_w; omega
      refine q I (fun x hx => ?_) gI
      rcases Nat.lt_or_ge x k with g | g
      · exact h1 x g
      · rw [h2 x g]
        unfold d_hk
        rw [w_hcy_w (by omega)]
        by_cases e : hv x = []
        · rw [if_pos e, ← e]; exact hv0 x hx
        · rw [if_neg e]; exact hv0 x hx
    have c1 : k < t_w (gg_T G) := by unfold t_w; omega
    have next : ∀ {J : sr_V}, m_gp m_p44 I J → (∀ x, x ≠ k → J 44 (1488 + x) = I 44 (1488 + x)) → w_az mk (J 44 (1488 + k)) (d_hk G T hv k) → rb_233_59 R (rl_233_2 R n) m k J := fun {J} gJ oJ kJ => by
      unfold rb_233_59
      intro y1 e1
      rw [sw_s1 (by omega)] at e1
      rw [e1]
      refine r_ks_2 hm hL hst hT hv0 q n (k + 1) (m_gp_trans gI gJ) (fun x hx => ?_) (fun x hx => ?_) (by omega) (by omega)
      · by_cases e : x = k
        · rw [e]; exact kJ
        · rw [oJ x e]; exact h1 x (by omega)
      · rw [oJ x (by omega)]; exact h2 x (by omega)
    have same : w_hcy G T k = [] ∨ hv k ≠ [] → rb_233_59 R (rl_233_2 R n) m k I := fun hh => next (m_gp_refl _ _) (fun _ _ => rfl) (by
      rw [h2 k (Nat.le_refl _)]
      unfold d_hk
      by_cases e : hv k = []
      · rw [if_pos e, hh.resolve_right (fun c => c e), ← e]; exact hv0 k c
      · rw [if_neg e]; exact hv0 k c)
    refine r_isBlankT (s := 48) (by decide) tr c (fun hb _ => ⟨fun _ => same (Or.inl (w_hcy_bl hb)), fun c => absurd c (by decide)⟩) (fun hb _ => ⟨fun c => absurd rfl c, fun _ => ?_⟩)
    refine r_isBlankT (s := m) (by omega) tr2 c1 (fun hb2 _ => ⟨fun _ => same (Or.inl (w_hcy_n (by rw [hb2]; exact hb))), fun c => absurd c (by decide)⟩) (fun hb2 _ => ⟨fun c => absurd rfl c, fun _ => ?_⟩)
    refine r_spot (s := 48) (x := k) (by decide) (by omega) ?_
    intro _
    refine ⟨by omega, by omega, ?_⟩
    intro v40 e40 _
    rw [Int.toNat_natCast, show 31 * 48 + k = 1488 + k by omega, h2 k (Nat.le_refl _)] at e40
    have hvk := hv0 k c
    rw [← e40] at hvk
    refine ⟨fun c2 => same (Or.inr (fun e => c2 ?_)), fun c2 => ?_⟩
    · rcases hvk with ⟨g, _⟩ | g
      · exact g
      · exact absurd e (w_at_ne hL g)
    have e0 : hv k = [] := by
      rcases hvk with ⟨_, g⟩ | g
      · exact g
      · have := (w_at_le g).1
        omega
    refine r_spot (s := 48) (x := k) (by decide) (by omega) ?_
    intro _
    refine ⟨by omega, by omega, ?_⟩
    intro v50 e50 _
    rw [Int.toNat_natCast] at e50
    refine r_spot (s := m) (x := k) (by omega) (by omega) ?_
    intro _
    refine ⟨by omega, by omega, ?_⟩
    intro v60 e60 _
    rw [Int.toNat_natCast] at e60
    have a1 := w_az_ne (tr.2.2.1 k c).2.1 hb
    have a2 := w_az_ne (tr2.2.2.1 k c1).2.1 hb2
    rw [← e50] at a1
    rw [← e60] at a2
    refine ⟨fun c3 => same (Or.inl (w_hcy_n (fun e => c3 ?_))), fun c3 => ?_⟩
    · rw [e] at a1
      exact w_at_inj nd a1 a2
    have ek : t_ky T k = t_ky (gg_T G) k := by
      rw [c3] at a1
      exact w_at_fun a1 a2
    refine r_spot (s := 48) (x := k) (by decide) (by omega) ?_
    intro _
    refine r_spot (s := m) (x := k) (by omega) (by omega) ?_
    intro _
    refine ⟨by omega, by omega, ?_⟩
    intro v77 e77 _
    refine ⟨by omega, by omega, ?_⟩
    intro I81 e81
    rw [Int.toNat_natCast, show 31 * 48 + k = 1488 + k by omega] at e81
    rw [Int.toNat_natCast] at e77
    refine next (by rw [e81]; exact m_gp_sub (m_gp_su _ _ _ _) (fun f j p => by unfold m_p44; omega)) (fun x hx => by rw [e81]; simp only [su_at]; rw [if_neg (by omega)]) ?_
    have : I81 44 (1488 + k) = v77 := by rw [e81]; simp [su_at]
    rw [this, e77]
    unfold d_hk
    rw [if_pos e0]
    unfold w_hcy
    rw [if_pos ⟨c1, hb, ek⟩]
    exact st.2.2.2.2.2.2.2.1 k c1
theorem r_keepSame (hm : m < 24) (hL : m_L I mk nn K tl) (hst : m_st I mk m G) (hT : m_tr I mk 48 T) (hv0 : ∀ x, x < t_w T → w_az mk (I 44 (1488 + x)) (hv x)) (q : ∀ J, (∀ x, x < t_w T → w_az mk (J 44 (1488 + x)) (d_hk G T hv x)) → m_gp m_p44 I J → R J) : rm_233 m I R := by
  unfold rm_233
  exact ⟨t_w T + 1, r_ks_2 hm hL hst hT hv0 q _ 0 (m_gp_refl _ _) (fun x hx => absurd hx (Nat.not_lt_zero _)) (fun _ _ => rfl) (by omega) (by omega)⟩
/-- the own leaf's secret -/
def m_p4o (lf f k : Nat) : Prop := f = 44 ∧ k = 1488 + 2 * lf
theorem r_uo_37 (hm : m < 24) (hL : m_L I0 mk nn K tl) (hU : m_up I0 mk m U) (hk : k < 1100) (hh : w_az mk (I0 81 k) h) (hlf : lf < 16) (hs : ∀ v, (h, v) ∈ U → v = s) (q : ∀ J, w_at mk (J 44 (1488 + 2 * lf)) s → m_gp (m_p4o lf) I0 J → rb_226_70 R k15 m (1488 + 2 * lf : Nat) k J) : ∀ (n i : Nat) {I : sr_V}, m_gp (m_p4o lf) I0 I → (w_at mk (I 44 (1488 + 2 * lf)) s ∨ ∃ (j : Nat) (v : Wt), i ≤ j ∧ U[j]? = some (h, v)) → i ≤ U.length → U.length - i < n → rl_226_37 R k15 n m (1488 + 2 * lf : Nat) k i I
  | 0, _, _, _, _, _, h => by omega
  | n + 1, i, I, gI, hi, hn, hf => by
    have uJ := m_up_gp hU gI (fun f k p => by unfold m_p4o at p; omega) (w_le_refl _)
    obtain ⟨u1, u2, u3⟩ := uJ
    unfold rl_226_37
    refine ⟨by omega, by omega, ?_⟩
    intro v9 e9 _
    rw [Int.toNat_natCast, u1] at e9
    refine ⟨fun c => q I ?_ gI, fun c => ?_⟩
    · rcases hi with g | ⟨j, v, j1, j2⟩
      · exact g
      · have := (List.getElem?_eq_some_iff.mp j2).1
        omega
    have il : i < U.length := by omega
    obtain ⟨i1, i2⟩ := w_i960 hm (show i < 40 by omega)
    rw [i1]
    clear i1
    obtain ⟨⟨u, v⟩, hu⟩ : ∃ e, U[i]? = some e := ⟨U[i]'il, List.getElem?_eq_getElem il⟩
    obtain ⟨a1, a2⟩ := u3 i u v hu
    refine ⟨Int.natCast_nonneg _, i2, ?_⟩
    intro v12 e12 _
    rw [Int.toNat_natCast] at e12
    rw [← e12] at a1
    refine ⟨by omega, by omega, ?_⟩
    intro v15 e15 _
    rw [Int.toNat_natCast, gI 81 k (by unfold m_p4o; omega)] at e15
    have hh' := hh
    rw [← e15] at hh'
    have next : ∀ {J : sr_V}, m_gp (m_p4o lf) I0 J → (w_at mk (J 44 (1488 + 2 * lf)) s ∨ ∃ (j : Nat) (v : Wt), i + 1 ≤ j ∧ U[j]? = some (h, v)) → rb_226_68 R k15 (rl_226_37 R k15 n) m (1488 + 2 * lf : Nat) k i J := fun {J} gJ hJ => by
      unfold rb_226_68
      intro y5 e5
      rw [sw_s1 (by omega)] at e5
      rw [e5]
      exact r_uo_37 hm hL hU hk hh hlf hs q n (i + 1) gJ hJ (by omega) (by omega)
    refine ⟨fun c1 => next gI ?_, fun c1 => ⟨Int.natCast_nonneg _, i2, ?_⟩⟩
    · rcases hi with g | ⟨j, w, j1, j2⟩
      · exact Or.inl g
      · refine Or.inr ⟨j, w, ?_, j2⟩
        by_cases e : j = i
        · exfalso
          rw [e, hu] at j2
          have j2 := Option.some.inj j2
          rw [Prod.mk.injEq] at j2
          rw [j2.1] at a1
          rcases hh' with ⟨_, g⟩ | g
          · exact absurd g (w_at_ne hL a1)
          · exact c1 (w_at_inj (m_L_nd hL) a1 g)
        · omega
    · intro v18 e18 _
      rw [Int.toNat_natCast] at e18
      refine ⟨by omega, by omega, ?_⟩
      intro I22 e22
      rw [Int.toNat_natCast] at e22
      have eh : u = h := by
        rcases hh' with ⟨g, _⟩ | g
        · have := (w_at_le a1).1
          omega
        · rw [c1] at a1
          exact w_at_fun a1 g
      have ev : v = s := hs v (by rw [← eh]; exact List.mem_of_getElem? hu)
      refine next (m_gp_trans gI (by rw [e22]; exact m_gp_sub (m_gp_su _ _ _ _) (fun f j p => by unfold m_p4o; omega))) (Or.inl ?_)
      have : I22 44 (1488 + 2 * lf) = v18 := by rw [e22]; simp [su_at]
      rw [this, e18, ← ev]
      exact a2
theorem r_uo_15 (hm : m < 24) (hL : m_L I0 mk nn K tl) (hU : m_up I0 mk m U) (hli : m_li I0 mk K' L) (h30 : I0 30 m = lf) (hlf : lf < 16) (hs : ∀ c ∈ L, c.1.1 = 2 → h_go c = (lf : Int) → (∃ v, (c.2.2, v) ∈ U) ∧ ∀ v, (c.2.2, v) ∈ U → v = s) (q : ∀ J, w_at mk (J 44 (1488 + 2 * lf)) s ∨ (J 44 (1488 + 2 * lf) = I0 44 (1488 + 2 * lf) ∧ ∀ c ∈ L, ¬ (c.1.1 = 2 ∧ h_go c = (lf : Int))) → m_gp (m_p4o lf) I0 J → R J) : ∀ (n k : Nat) {I : sr_V}, m_gp (m_p4o lf) I0 I → (w_at mk (I 44 (1488 + 2 * lf)) s ∨ (I 44 (1488 + 2 * lf) = I0 44 (1488 + 2 * lf) ∧ ∀ (j : Nat) (c : w_Ch), j < k → L[j]? = some c → ¬ (c.1.1 = 2 ∧ h_go c = (lf : Int)))) → k ≤ L.length → L.length - k < n → rl_226_15 R n m (1488 + 2 * lf : Nat) k I
  | 0, _, _, _, _, _, h => by omega
  | n + 1, k, I, gI, hi, hk, hn => by
    have l1 := m_li_gp hli gI (fun f k p => by unfold m_p4o at p; omega)
    have L1 := m_L_gp hL gI (fun f k p => by unfold m_p4o at p; omega)
    have U1 := m_up_gp hU gI (fun f k p => by unfold m_p4o at p; omega) (w_le_refl _)
    have b1 := l1.2.1
    unfold rl_226_15
    intro v28 e28 _
    rw [l1.1] at e28
    refine ⟨fun c => q I (hi.imp id (fun g => ⟨g.1, fun c hc => ?_⟩)) gI, fun c => ?_⟩
    · obtain ⟨j, hj⟩ := List.mem_iff_getElem?.mp hc
      have := (List.getElem?_eq_some_iff.mp hj).1
      exact g.2 j c (by omega) hj
    obtain ⟨w, hw⟩ := h_get (L := L) (k := k) (by omega)
    obtain ⟨_, _, e79, e80, _, _, e81, _⟩ := l1.2.2.2 k w hw
    have next : ∀ {J : sr_V}, m_gp (m_p4o lf) I0 J → (w_at mk (J 44 (1488 + 2 * lf)) s ∨ (J 44 (1488 + 2 * lf) = I0 44 (1488 + 2 * lf) ∧ ∀ (j : Nat) (c : w_Ch), j < k + 1 → L[j]? = some c → ¬ (c.1.1 = 2 ∧ h_go c = (lf : Int)))) → rb_226_70 R (rl_226_15 R n) m (1488 + 2 * lf : Nat) k J := fun {J} gJ hJ => by
      unfold rb_226_70
      intro y1 e1
      rw [sw_s1 (by omega)] at e1
      rw [e1]
      exact r_uo_15 hm hL hU hli h30 hlf hs q n (k + 1) gJ hJ (by omega) (by omega)
    have no : ¬ (w.1.1 = 2 ∧ h_go w = (lf : Int)) → rb_226_70 R (rl_226_15 R n) m (1488 + 2 * lf : Nat) k I := fun hx => next gI (hi.imp id (fun g => ⟨g.1, fun j c hj hc => by
      rcases Nat.lt_or_ge j k with g2 | g2
      · exact g.2 j c g2 hc
      · rw [show j = k by omega, hw] at hc
        cases hc
        exact hx⟩))
    refine ⟨by omega, by omega, ?_⟩
    intro v31 e31 _
    rw [Int.toNat_natCast, e79] at e31
    refine ⟨fun c3 => no (fun g => c3 (by rw [e31]; exact g.1)), fun c3 => ⟨by omega, by omega, ?_⟩⟩
    intro v34 e34 _
    rw [Int.toNat_natCast, e80] at e34
    refine ⟨by omega, by omega, ?_⟩
    intro v37 e37 _
    rw [Int.toNat_natCast, gI 30 m (by unfold m_p4o; omega), h30] at e37
    refine ⟨fun c4 => ⟨U.length + 1, ?_⟩, fun c4 => no (fun g => c4 (by rw [e34, e37]; exact g.2))⟩
    obtain ⟨⟨v, hv⟩, hs2⟩ := hs w (List.mem_of_getElem? hw) (by rw [← e31]; exact c3) (by rw [← e34, ← e37]; exact c4)
    obtain ⟨j, hj⟩ := List.getElem?_of_mem hv
    exact r_uo_37 hm L1 U1 (by omega) e81 hlf hs2 (fun J wJ gJ => next (m_gp_trans gI gJ) (Or.inl wJ)) _ 0 (m_gp_refl _ _) (Or.inr ⟨j, v, Nat.zero_le _, hj⟩) (by omega) (by omega)
/-- what is held behind the changes -/
theorem r_updateOwn (hm : m < 24) (hL : m_L I mk nn K tl) (hst : m_st I mk m G) (hT : m_tr I mk 48 T) (hU : m_up I mk m U) (hli : m_li I mk K' L) (hv0 : ∀ x, x < t_w T → w_az mk (I 44 (1488 + x)) [] ∨ w_az mk (I 44 (1488 + x)) (w_hcy G T x)) (hs : ∀ c ∈ L, c.1.1 = 2 → h_go c = (gg_lf G : Int) → (∃ v, (c.2.2, v) ∈ U) ∧ ∀ v, (c.2.2, v) ∈ U → v = s) (q : ∀ J, (∀ x, x < t_w T → x ≠ 2 * gg_lf G → w_az mk (J 44 (1488 + x)) (w_hcy G T x)) → (w_at mk (J 44 (1488 + 2 * gg_lf G)) s ∨ ((2 * gg_lf G < t_w T → w_az mk (J 44 (1488 + 2 * gg_lf G)) (w_hcy G T (2 * gg_lf G))) ∧ ∀ c ∈ L, ¬ (c.1.1 = 2 ∧ h_go c = (gg_lf G : Int)))) → m_gp m_p44 I J → R J) : rm_226 m I R := by
  have w31 := t_w_4 hst.2.2.2.1.1.1
  have lfw := hst.1.2.1
  obtain ⟨hv, hvd⟩ : ∃ hv : Nat → Wt, hv = fun x => if I 44 (1488 + x) = 0 then [] else w_hcy G T x := ⟨_, rfl⟩
  have h1 : ∀ x, x < t_w T → w_az mk (I 44 (1488 + x)) (hv x) := fun x hx => by
    rw [hvd]
    dsimp only
    by_cases e : I 44 (1488 + x) = 0
    · rw [if_pos e]; exact Or.inl ⟨e, rfl⟩
    · rw [if_neg e]
      rcases hv0 x hx with g | g
      · rcases g with ⟨g, _⟩ | g
        · exact absurd g e
        · exact absurd rfl (w_at_ne hL g)
      · exact g
  have h2 : ∀ x, d_hk G T hv x = w_hcy G T x := fun x => by
    unfold d_hk
    by_cases e2 : hv x = []
    · rw [if_pos e2]
    · rw [if_neg e2]
      rw [hvd] at e2 ⊢
      dsimp only at e2 ⊢
      by_cases e : I 44 (1488 + x) = 0
      · rw [if_pos e] at e2
        exact absurd rfl e2
      · rw [if_neg e]
  unfold rm_226
  refine r_keepSame hm hL hst hT h1 (fun J1 k1 g1 => ⟨by omega, by omega, ?_⟩)
  have h30 : J1 30 m = gg_lf G := by rw [g1 30 m (by unfold m_p44; omega)]; exact hst.2.2.1
  intro v53 e53 _
  rw [Int.toNat_natCast, h30] at e53
  rw [e53, sw_2k (by omega)]
  refine r_spot (s := 48) (x := 2 * gg_lf G) (by decide) (by omega) ?_
  intro _
  refine ⟨L.length + 1, ?_⟩
  rw [show 31 * 48 + 2 * gg_lf G = 1488 + 2 * gg_lf G by omega]
  refine r_uo_15 (lf := gg_lf G) hm (m_L_gp hL g1 (fun f k p => by unfold m_p44 at p; omega)) (m_up_gp hU g1 (fun f k p => by unfold m_p44 at p; omega) (w_le_refl _)) (m_li_gp hli g1 (fun f k p => by unfold m_p44 at p; omega)) h30 (by omega) hs (fun J hJ gJ => ?_) _ 0 (m_gp_refl _ _) (Or.inr ⟨rfl, fun j c hj => absurd hj (Nat.not_lt_zero _)⟩) (by omega) (by omega)
  refine q J (fun x hx hne => ?_) (hJ.imp id (fun g => ⟨fun hx => ?_, g.2⟩)) (m_gp_trans g1 (m_gp_sub gJ (fun f k p => by unfold m_p4o at p; unfold m_p44; omega)))
  · rw [gJ 44 _ (by unfold m_p4o; omega), ← h2 x]
    exact k1 x hx
  · rw [g.1, ← h2]
    exact k1 _ hx
end
