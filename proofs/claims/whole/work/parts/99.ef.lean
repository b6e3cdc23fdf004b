/-! ===== the reference: addLeaf ===== -/
noncomputable section
variable {o : Nat} {I I0 J X : sr_V} {nn fr mi s u k h : Nat} {K : Wt → Prop} {tl mk mm : List Wt} {a b c y n S src m so : Int} {Q : Int → sr_V → Prop} {R : sr_V → Prop} {x i e l : Nat} {T T' T'' : w_T} {f : p_L}
theorem r_spot (hs : s < 49) (hx : x < 31) (q : Q ((31 * s + x : Nat) : Int) I) : rm_67 s x I Q := by
  unfold rm_67
  rw [sw_w_s (z := 31 * (s : Int)) (by omega) (by omega), sw_w_s (by omega) (by omega)]
  have es : 31 * (s : Int) + (x : Int) = ((31 * s + x : Nat) : Int) := by omega
  rw [es]
  exact q
def m_gi (I0 I : sr_V) (s : Nat) (T : w_T) (y : Nat) : Prop := I 31 s = ((t_dp T + 1 : Nat) : Int) ∧ m_gp (fun g j => (g = 31 ∧ j = s) ∨ (36 ≤ g ∧ g ≤ 44 ∧ 31 * s + t_w T ≤ j ∧ j < 31 * s + y)) I0 I ∧ ∀ x, t_w T ≤ x → x < y → I 36 (31 * s + x) = 0 ∧ I 37 (31 * s + x) = 0 ∧ I 38 (31 * s + x) = 0 ∧ I 39 (31 * s + x) = 0 ∧ I 44 (31 * s + x) = 0
theorem m_gi_at (h : m_gi I0 I s T k) {g : Nat} (hx : x < t_w T) (hg : 36 ≤ g) : I g (31 * s + x) = I0 g (31 * s + x) := h.2.1 g _ (by omega)
theorem m_tr_gr (hT : m_tr I0 mk s T) (h3 : t_dp T ≤ 3) (h : m_gi I0 I s T (t_w (t_gr T))) : m_tr I mk s (t_gr T) := by
  refine ⟨t_ok_gr hT.1 h3, h.1, fun x hx => ?_, fun k hk hne => ?_⟩
  · show I 36 (31 * s + x) = (if (if x < t_w T then t_ky T x else []) = [] then 0 else if x % 2 = 0 then 1 else 2) ∧ w_az mk (I 37 (31 * s + x)) (if x < t_w T then t_ky T x else []) ∧ w_az mk (I 38 (31 * s + x)) (if x < t_w T then t_ph T x else []) ∧ I 39 (31 * s + x) = (if x < t_w T then t_um T x else 0)
    by_cases c : x < t_w T
    · rw [if_pos c, if_pos c, if_pos c, m_gi_at h c (by omega), m_gi_at h c (by omega), m_gi_at h c (by omega), m_gi_at h c (by omega)]
      exact hT.2.2.1 x c
    · obtain ⟨g1, g2, g3, g4, _⟩ := h.2.2 x (by omega) hx
      rw [if_neg c, if_neg c, if_neg c, g1, g2, g3, g4, if_pos rfl]
      exact ⟨rfl, Or.inl ⟨rfl, rfl⟩, Or.inl ⟨rfl, rfl⟩, rfl⟩
  · have hne : (if 2 * k < t_w T then t_ky T (2 * k) else []) ≠ [] := hne
    by_cases c : 2 * k < t_w T
    · rw [if_pos c] at hne
      rw [m_gi_at h c (by omega), m_gi_at h c (by omega), m_gi_at h c (by omega), m_gi_at h c (by omega)]
      exact hT.2.2.2 k c hne
    · rw [if_neg c] at hne; exact absurd rfl hne
theorem m_hr_gr (h : m_gi I0 I s T (t_w (t_gr T))) : m_hr o I0 s T I s (t_gr T) := fun x hx => by
  by_cases c : x < t_w T
  · exact Or.inr ⟨c, m_gi_at h c (by omega), if_pos c⟩
  · exact Or.inl ⟨(h.2.2 x (by omega) hx).2.2.2.2, Or.inl (if_neg c)⟩
theorem r_al_40 (hs : s < 49) (h3 : t_dp T ≤ 3) (q : ∀ J, m_gi I0 J s T (t_w (t_gr T)) → rb_196_51 Q s l J) : ∀ (n y : Nat) {I : sr_V}, m_gi I0 I s T y → t_w T ≤ y → y ≤ t_w (t_gr T) → t_w (t_gr T) - y < n → rl_196_40 Q n s l y I
  | 0, _, _, _, _, _, h => by omega
  | n + 1, y, I, h, h1, h2, hn => by
    have w31 : t_w (t_gr T) ≤ 31 := t_w_4 (T := t_gr T) (by show t_dp T + 1 ≤ 4; omega)
    unfold rl_196_40
    refine r_width hs h.1 (by omega) ?_
    intro _
    have ew : 2 ^ (t_dp T + 1 + 1) - 1 = t_w (t_gr T) := rfl
    rw [ew]
    refine ⟨fun c => q I (by rw [show t_w (t_gr T) = y by omega]; exact h), fun c => ?_⟩
    refine r_blank hs (by omega) ?_
    intro y2 e2
    rw [sw_s1 (by omega)] at e2
    subst e2
    refine r_al_40 hs h3 q n (y + 1) ?_ (by omega) (by omega) (by omega)
    obtain ⟨g1, g2, g3⟩ := h
    refine ⟨by rw [m_bl_ne (by omega)]; exact g1, m_gp_trans (m_gp_sub g2 (fun g j p => by omega)) (m_gp_sub m_bl_gp (fun g j p => by omega)), fun x hx1 hx2 => ?_⟩
    by_cases d : x = y
    · subst d
      rw [m_bl_at, m_bl_at, m_bl_at, m_bl_at, m_bl_at, if_pos ⟨by omega, rfl⟩, if_pos ⟨by omega, rfl⟩, if_pos ⟨by omega, rfl⟩, if_pos ⟨by omega, rfl⟩, if_pos ⟨by omega, rfl⟩]
      exact ⟨rfl, rfl, rfl, rfl, rfl⟩
    · rw [m_bl_ne (by omega), m_bl_ne (by omega), m_bl_ne (by omega), m_bl_ne (by omega), m_bl_ne (by omega)]
      exact g3 x hx1 (by omega)
theorem m_tr_u1 (hT : m_tr I mk s T) (hx : x < t_w T) (hk : t_ky T x ≠ []) (ho : x % 2 = 1) (hl : l < 16) : m_tr (su I 39 (31 * s + x) (sw_or (I 39 (31 * s + x)) ((2 ^ l : Nat) : Int))) mk s (t_u1 T l x) := by
  have hok := t_ok_u1 hT.1 hl ho
  unfold t_u1 at hok ⊢
  rw [if_neg hk] at hok ⊢
  refine ⟨hok, by rw [su_f (by decide)]; exact hT.2.1, fun y hy => ?_, fun k hk hne => ?_⟩
  · obtain ⟨g1, g2, g3, g4⟩ := hT.2.2.1 y hy
    rw [su_f (by decide), su_f (by decide), su_f (by decide)]
    refine ⟨g1, g2, g3, ?_⟩
    show su I 39 (31 * s + x) _ 39 (31 * s + y) = fu (t_um T) x _ y
    by_cases d : y = x
    · subst d; rw [su_eq, fu_eq, g4]
    · rw [su_k (by omega), fu_ne d]; exact g4
  · rw [su_f (by decide), su_f (by decide), su_f (by decide), su_f (by decide)]
    exact hT.2.2.2 k hk hne
theorem m_hr_u1 {z : Int} {j : Nat} : m_hr o I s T (su I 39 j z) s (t_u1 T l x) := fun y hy => Or.inr ⟨by rw [← t_dp_w (t_u1_dp (T := T) (l := l) (x := x))]; exact hy, by rw [su_f (by decide)], by rw [t_u1_ky]⟩
theorem m_hr_id {T' : w_T} (hd : t_dp T' = t_dp T) (hk : t_ky T' = t_ky T) : m_hr o I s T I s T' := fun y hy => Or.inr ⟨by rw [← t_dp_w hd]; exact hy, rfl, by rw [hk]⟩
theorem t_ab_top (hd : t_dp T ≤ 4) (hk : k < 2 ^ t_dp T) (hh : h ≤ t_dp T) : ((t_ab k h : Nat) : Int) = ((2 ^ t_dp T - 1 : Nat) : Int) ↔ h = t_dp T := by
  have d16 := t_d_16 hd
  have key : ∀ d : Fin 5, ∀ k : Fin 16, ∀ h : Fin 5, k.val < 2 ^ d.val → h.val ≤ d.val → (t_ab k.val h.val = 2 ^ d.val - 1 ↔ h.val = d.val) := by decide +kernel
  have := key ⟨t_dp T, by omega⟩ ⟨k, by omega⟩ ⟨h, by omega⟩ hk hh
  rw [← this]
  exact Int.ofNat_inj
theorem r_al_59 (hs : s < 49) (hl : l < 2 ^ t_dp T) : ∀ (n h : Nat) {I : sr_V}, m_tr I mk s (t_un T l h) → h ≤ t_dp T → t_dp T - h < n → (∀ J, m_tr J mk s (t_un T l (t_dp T)) → m_hr o I s (t_un T l h) J s (t_un T l (t_dp T)) → m_gp (m_pl s) I J → Q l J) → rl_196_59 Q n s l ((t_ab l h : Nat) : Int) I
  | 0, _, _, _, _, h, _ => by omega
  | n + 1, h, I, hT, hh, hn, q => by
    have ed := t_un_dp (T := T) (l := l) h
    have d4 : t_dp T ≤ 4 := by have := hT.1.1; rw [ed] at this; exact this
    have d16 := t_d_16 d4
    have h31 : I 31 s = t_dp T := by rw [hT.2.1, ed]
    unfold rl_196_59
    refine r_top hs h31 d4 ?_
    intro _
    have top := t_ab_top d4 hl hh
    refine ⟨fun c => ?_, fun c => ?_⟩
    · have e := top.mp c
      subst e
      exact q I hT m_hr_refl (m_gp_refl _ _)
    · have hlt : h < t_dp T := by
        rcases Nat.lt_or_ge h (t_dp T) with g | g
        · exact g
        · exact absurd (top.mpr (by omega)) c
      refine r_above (by omega) (by omega) ?_
      intro _
      have aw : t_ab l (h + 1) < t_w (t_un T l h) := by
        rw [t_dp_w ed]; exact t_ab_w d4 hl (by omega)
      have a31 : t_ab l (h + 1) < 31 := by
        have := t_w_4 hT.1.1
        omega
      refine r_isBlankT hs hT aw (fun g => ?_) (fun g => ?_)
      · intro _
        refine ⟨fun _ => ?_, fun e => absurd e (by decide)⟩
        have eu : t_un T l (h + 1) = t_un T l h := by
          show t_u1 (t_un T l h) l (t_ab l (h + 1)) = _
          unfold t_u1; rw [if_pos g]
        exact r_al_59 hs hl n (h + 1) (by rw [eu]; exact hT) (by omega) (by omega) (fun J hJ gJ fJ => q J hJ (by rw [eu] at gJ; exact gJ) fJ)
      · intro _
        refine ⟨fun e => absurd rfl e, fun _ => ?_⟩
        refine r_spot hs a31 ?_
        intro _
        refine ⟨by omega, by omega, ?_⟩
        intro v e1 _
        refine ⟨by omega, by omega, ?_⟩
        intro I2 e2
        rw [Int.toNat_natCast] at e1 e2
        rw [e1, sw_shl_h (by omega)] at e2
        subst e2
        have hu := m_tr_u1 hT aw g (t_ab_o (by omega) (by omega) (by omega)) (l := l) (by omega)
        exact r_al_59 hs hl n (h + 1) hu (by omega) (by omega) (fun J hJ gJ fJ => q J hJ (m_hr_trans m_hr_u1 gJ) (m_gp_trans (m_gp_sub (m_gp_su I 39 _ _) (fun f j p => Or.inr ⟨by omega, by omega, by omega, by omega⟩)) fJ))
theorem m_lr_gp (h : m_lr I mk f) (g : m_gp (m_pl s) I J) : m_lr J mk f := by
  have e : ∀ k, J 1000 k = I 1000 k := fun k => g 1000 k (by unfold m_pl; omega)
  unfold m_lr at h ⊢
  rw [e, e, e, e, e, e]
  exact h
theorem m_plf_g2 : m_gp (fun g j => (36 ≤ g ∧ g ≤ 44) ∧ j = 31 * s + 2 * k) I (m_plf I (31 * s + 2 * k)) := fun g j hn => m_plf_ne (by omega)
theorem r_al_51 (hno : l ≠ o) (hs : s < 49) (hT : m_tr I mk s T) (hl : l < 2 ^ t_dp T) (hr : m_lr I mk f) (hf : t_lfok f) (q : ∀ J, m_tr J mk s (t_un (t_put T l f) l (t_dp T)) → m_hr o I s T J s (t_un (t_put T l f) l (t_dp T)) → m_gp (m_pl s) I J → Q l J) : rb_196_51 Q s l I := by
  have d16 := t_d_16 hT.1.1
  unfold rb_196_51
  refine r_putLeaf hs (by omega) ?_
  intro y e
  rw [sw_2k (by omega), ← t_ab_0] at e
  subst e
  have hP := m_tr_put (k := l) hT hr hf
  have eP : t_dp (t_put T l f) = t_dp T := rfl
  exact ⟨t_dp T + 1, r_al_59 hs (T := t_put T l f) hl (t_dp T + 1) 0 hP (by omega) (by omega) (fun J hJ gJ fJ => q J hJ (m_hr_trans (m_hr_put hno) gJ) (m_gp_trans (m_gp_sub m_plf_g2 (fun f j p => Or.inr ⟨p.1.1, p.1.2, by omega, by omega⟩)) fJ))⟩
theorem r_addLeaf (hno : t_fl T < 16 → t_fl T ≠ o) (hs : s < 49) (hT : m_tr I mk s T) (hr : m_lr I mk f) (hf : t_lfok f) (q0 : t_fl T = 16 → Q (-1) I) (q : ∀ J, t_fl T < 16 → m_tr J mk s (t_add T f) → m_hr o I s T J s (t_add T f) → m_gp (m_pl s) I J → Q ((t_fl T : Nat) : Int) J) : rm_196 s I Q := by
  have d16 := t_d_16 hT.1.1
  have hle := t_fl_le (T := T)
  unfold rm_196
  refine ⟨17, r_al_2 hs hT 16 17 0 (by omega) (by omega) (by omega) ?_⟩
  show rb_196_16 Q s ((t_fl T : Nat) : Int) I
  unfold rb_196_16
  refine ⟨fun c => ?_, fun c => q0 (by omega)⟩
  have hl : t_fl T < 16 := by omega
  have hrd := t_room_dp hT.1.1 hl
  refine r_leafCount hs hT.2.1 hT.1.1 ?_
  intro _
  refine ⟨fun c => ?_, fun c => ?_⟩
  · have er : t_room T (t_fl T) = T := by unfold t_room; rw [if_neg (by omega)]
    refine r_al_51 (hno hl) hs hT (by omega) hr hf (fun J hJ gJ fJ => q J hl ?_ ?_ fJ)
    · unfold t_add; rw [er]; exact hJ
    · unfold t_add; rw [er]; exact gJ
  · have er : t_room T (t_fl T) = t_gr T := by unfold t_room; rw [if_pos (by omega)]
    rw [er] at hrd
    have hrd1 : t_dp T + 1 ≤ 4 := hrd.1
    refine r_width hs hT.2.1 hT.1.1 ?_
    intro _
    refine ⟨by omega, by omega, ?_⟩
    intro v e _
    refine ⟨by omega, by omega, ?_⟩
    intro I2 e2
    rw [Int.toNat_natCast] at e e2
    rw [hT.2.1] at e
    rw [e, sw_s1 (by omega)] at e2
    have ew : 2 ^ (t_dp T + 1) - 1 = t_w T := rfl
    rw [ew]
    have hwl := t_w_le (T := T) (T' := t_gr T) (by show t_dp T ≤ t_dp T + 1; omega)
    refine ⟨t_w (t_gr T) + 1, r_al_40 (I0 := I) hs (by omega) (fun J h => ?_) _ (t_w T) (I := I2) ?_ (by omega) hwl (by omega)⟩
    · have fJ : m_gp (m_pl s) I J := m_gp_sub h.2.1 (fun g j p => by
        have := t_w_4 (T := t_gr T) hrd.1
        unfold m_pl; omega)
      refine r_al_51 (hno hl) hs (m_tr_gr hT (by omega) h) hrd.2 (m_lr_gp hr fJ) hf (fun X hX gX fX => q X hl ?_ ?_ (m_gp_trans fJ fX))
      · unfold t_add; rw [er]; exact hX
      · unfold t_add; rw [er]; exact m_hr_trans (m_hr_gr h) gX
    · subst e2
      exact ⟨su_eq _ _ _ _, m_gp_sub (m_gp_su I 31 s _) (fun g j p => Or.inl p), fun x h1 h2 => by omega⟩
end
