/-! ===== the reference: isPathLeafRight ===== -/
noncomputable section
/-- the tree with a path that was read -/
def d_T2 (T : w_T) (l : Nat) (f : p_L) (ns : List p_N) : w_T := t_put (t_pth (t_cb T l) T l (d_kf T l ns)).1 l f
def d_ph (T : w_T) (l : Nat) (ns : List p_N) : Wt := (t_pth (t_cb T l) T l (d_kf T l ns)).2
/-- its leaf is right -/
def d_lr (T : w_T) (l : Nat) (f : p_L) : Prop := f.1 = t_ow T l ∧ ¬ d_kt T f.2.1 ∧ w_lfs f (l : Int)
def m_pql (l f k : Nat) : Prop := m_ppp 48 l f k ∨ m_psp f k ∨ ((f = 37 ∨ f = 41 ∨ f = 38 ∨ f = 42 ∨ f = 44) ∧ k = 1488 + 2 * l)
variable {I I0 I1 J X : sr_V} {nn us fr : Nat} {K K' : Wt → Prop} {tl mk mm lm : List Wt} {Q : Int → sr_V → Prop} {R : sr_V → Prop} {m mi l k d s : Nat} {P : Nat → Nat → Prop} {T : w_T} {ns : List p_N} {w v sg cf tg : Wt} {x y x2 x3 x4 x5 s0 ep sd : Int} {S : Wt → Prop} {f : p_L} {B : Prop} {b e1 : Nat} {es : List p_E}
theorem w_az_iff (hL : m_L I mk nn K tl) (h : w_az mk x v) (g : w_az mk y w) : x = y ↔ v = w := by
  rcases h with ⟨h1, h2⟩ | h <;> rcases g with ⟨g1, g2⟩ | g
  · exact ⟨fun _ => h2.trans g2.symm, fun _ => h1.trans g1.symm⟩
  · have := (w_at_le g).1
    exact ⟨fun e => by omega, fun e => absurd (e.symm.trans h2) (w_at_ne hL g)⟩
  · have := (w_at_le h).1
    exact ⟨fun e => by omega, fun e => absurd (e.trans g2) (w_at_ne hL h)⟩
  · exact ⟨fun e => w_at_fun h (e ▸ g), fun e => w_at_inj (m_L_nd hL) h (e ▸ g)⟩
theorem p_cm_lf (h : p_cm K lm ep sd b e1 es (some (f, ns)) sg cf tg) : ∃ s, p_lf K 3 lm (some (e1 + 1, lm.length)) = some (f, s) := by
  have h6 := h.2.2.2.2.2.1
  unfold p_wp at h6
  rw [Option.bind_eq_some_iff] at h6
  obtain ⟨⟨a, s⟩, h7, h8⟩ := h6
  obtain ⟨e, _⟩ := p_8_in h7
  dsimp only at h8
  split at h8
  · rw [Option.map_eq_some_iff] at h8
    obtain ⟨⟨⟨f', ns'⟩, s'⟩, h9, h10⟩ := h8
    rw [Prod.mk.injEq] at h10
    have h10 : (f', ns') = (f, ns) := Option.some.inj h10.1
    rw [Prod.mk.injEq] at h10
    unfold p_pa at h9
    rw [Option.bind_eq_some_iff] at h9
    obtain ⟨⟨f2, s2⟩, h11, h12⟩ := h9
    rw [Option.map_eq_some_iff] at h12
    obtain ⟨z, _, h13⟩ := h12
    rw [Prod.mk.injEq, Prod.mk.injEq] at h13
    refine ⟨s2, ?_⟩
    rw [← e, h11, ← h10.1, ← h13.1.1]
  · split at h8
    · have h8 := Option.some.inj h8
      rw [Prod.mk.injEq] at h8
      exact absurd h8.1 (by simp)
    · cases h8
theorem r_pl_59 (hl : l < 2 ^ t_dp T) (hT : m_tr I mk 48 T) (hw : m_wy I T l) (hp : m_pns I mk fr ns) (hln : ns.length = (t_wl T l (t_dp T)).length) (hky : t_ky T (2 * l) ≠ []) (hf : t_lfok f) (h3 : f.2.2.2.1 = 3) (ho : B → t_ow T l = f.1) (hs : B → t_sk T l = f.2.2.1) (hB : (s0 = 1 ∧ B) ∨ (s0 = 0 ∧ ¬ B)) (w1 : w_at mk x3 f.2.1) (w2 : w_at mk x4 f.2.2.2.2.2) (w3 : w_az mk x5 f.2.2.2.2.1) (hb : m_bS S mk) (hL : m_L I mk nn K tl) (hS : ∀ v, t_mw (t_cb T l) (t_kpn (t_cb T l) T l (d_kf T l ns) (t_dp T)) l v → S v) (q1 : ∀ J mm, B → d_ph T l ns = f.2.2.2.2.1 → w_mo S mk mm → m_bS S mm → m_L J mm nn K tl → m_tr J mm 48 (d_T2 T l f ns) → m_pk6 J mm fr T l ns → (∀ j, j < t_dp T → J 44 (1488 + t_ab l (j + 1)) = 0) → J 44 (1488 + 2 * l) = 0 → m_gp (m_pql l) I J → Q 1 J) (q0 : ∀ J mm, ¬ (B ∧ d_ph T l ns = f.2.2.2.2.1) → w_mo S mk mm → m_bS S mm → m_L J mm nn K tl → m_gp (m_pql l) I J → Q 0 J) : rb_227_59 Q (1488 + 2 * l : Nat) x3 x4 x5 s0 I := by
  have h4 := hT.1.1
  have d16 := t_d_16 h4
  unfold rb_227_59
  refine r_spread hw h4 hp hln (fun J1 k1 g1 => ?_)
  have L1 := m_L_gp hL g1 (fun f k p => by unfold m_psp at p; omega)
  have T1 := m_tr_gp hT g1 (fun f k p q => by unfold m_pl at p; unfold m_psp at q; omega)
  refine r_putPath (s := 48) (T0 := T) (kf := d_kf T l ns) (S := S) (by decide) hl T1 rfl (m_wy_psp hw g1) (fun j hj hc => ⟨(k1 j hj hc).1, w_at_ne L1 (k1 j hj hc).1⟩) hb L1 hS (fun z16 J2 mm mo b2 L2 T2 wz z44 g2 => ?_)
  intro _
  have p0 : 0 ≤ ((1488 + 2 * l : Nat) : Int) := by omega
  have p1 : ((1488 + 2 * l : Nat) : Int) < 1519 := by omega
  refine ⟨p0, p1, ?_⟩
  intro I22 e22
  refine ⟨p0, p1, ?_⟩
  intro I27 e27
  refine ⟨p0, p1, ?_⟩
  intro I32 e32
  refine ⟨p0, p1, ?_⟩
  intro I37 e37
  refine ⟨p0, p1, ?_⟩
  intro I42 e42
  rw [Int.toNat_natCast] at e22 e27 e32 e37 e42
  have gz : m_gp (fun f k => (f = 37 ∨ f = 41 ∨ f = 38 ∨ f = 42 ∨ f = 44) ∧ k = 1488 + 2 * l) J2 I42 := by
    rw [e42, e37, e32, e27, e22]
    exact m_gp_trans (m_gp_trans (m_gp_trans (m_gp_trans (m_gp_sub (m_gp_su _ _ _ _) (fun f k p => by omega)) (m_gp_sub (m_gp_su _ _ _ _) (fun f k p => by omega))) (m_gp_sub (m_gp_su _ _ _ _) (fun f k p => by omega))) (m_gp_sub (m_gp_su _ _ _ _) (fun f k p => by omega))) (m_gp_sub (m_gp_su _ _ _ _) (fun f k p => by omega))
  have g42 : m_gp (m_pql l) I I42 := m_gp_trans (m_gp_sub g1 (fun f k p => Or.inr (Or.inl p))) (m_gp_trans (m_gp_sub g2 (fun f k p => Or.inl p)) (m_gp_sub gz (fun f k p => Or.inr (Or.inr p))))
  have L42 := m_L_gp L2 gz (fun f k p => by omega)
  have q0' : ¬ (B ∧ d_ph T l ns = f.2.2.2.2.1) → Q 0 I42 := fun h => q0 I42 mm h mo b2 L42 g42
  have weq := w_az_iff L2 wz (w_le_az mo.1 w3)
  rcases hB with ⟨e0, hB⟩ | ⟨e0, hB⟩
  · refine ⟨fun c => by omega, fun _ => ⟨fun c => q0' (fun h => c (weq.mpr h.2)), fun c => q1 I42 mm hB (weq.mp c) mo b2 L42 ?_ ?_ ?_ ?_ g42⟩⟩
    · have e0 : 1488 + 2 * l = 31 * 48 + 2 * l := by omega
      rw [e42, e37, e32, e27, e22, e0]
      exact m_tr_own (f := f) T2 (by rw [t_pth_dp]; exact hl) (by rw [t_pth_lf (by omega) h4]; exact hky) (by rw [t_pth_ow.1]; exact ho hB) (by rw [t_pth_ow.2]; exact hs hB) hf (w_le_at mo.1 w1) h3 (w_le_az mo.1 w3) (w_le_at mo.1 w2)
    · intro j hj hc
      rw [gz 96 j (by omega), gz 97 j (by omega), g2 96 j (by unfold m_ppp m_p2; omega), g2 97 j (by unfold m_ppp m_p2; omega)]
      exact ⟨w_le_at mo.1 (k1 j hj hc).1, (k1 j hj hc).2⟩
    · intro j hj
      have od := t_ab_o (k := l) (h := j + 1) (by omega) (by omega) (by omega)
      rw [gz 44 _ (by omega)]
      exact z44 j hj
    · rw [e42, su_eq]
  · refine ⟨fun _ => q0' (fun h => hB h.1), fun c => absurd e0 c⟩
def m_pqr (l f k : Nat) : Prop := m_pql l f k ∨ m_pd f k
theorem r_isPathLeafRight (hl : l < 2 ^ t_dp T) (hT : m_tr I mk 48 T) (hw : m_wy I T l) (hp : m_pns I mk fr ns) (hln : ns.length = (t_wl T l (t_dp T)).length) (hky : t_ky T (2 * l) ≠ []) (hlv : t_lv T) (hx : m_tk I mk K' fr lm) (hfr : ((fr + lm.length : Nat) : Int) ≤ I 1000 23) (hcm : p_cm K' lm ep sd b e1 es (some (f, ns)) sg cf tg) (h101 : I 1000 101 = (l : Nat)) (h111 : I 1000 111 = ((fr + (e1 + 1) : Nat) : Int)) (hM : m_me I mk) (hb : m_bS S mk) (hL : m_L I mk nn K tl) (hS : ∀ v, t_mw (t_cb T l) (t_kpn (t_cb T l) T l (d_kf T l ns) (t_dp T)) l v → S v) (q1 : ∀ J mm, d_lr T l f → d_ph T l ns = f.2.2.2.2.1 → w_mo S mk mm → m_bS S mm → m_L J mm nn K tl → m_tr J mm 48 (d_T2 T l f ns) → m_pk6 J mm fr T l ns → (∀ j, j < t_dp T → J 44 (1488 + t_ab l (j + 1)) = 0) → J 44 (1488 + 2 * l) = 0 → m_gp (m_pqr l) I J → Q 1 J) (q0 : ∀ J mm, ¬ (d_lr T l f ∧ d_ph T l ns = f.2.2.2.2.1) → w_mo S mk mm → m_bS S mm → m_L J mm nn K tl → m_gp (m_pqr l) I J → Q 0 J) : rm_227 I Q := by
  have h4 := hT.1.1
  have d16 := t_d_16 h4
  have w31 := t_w_4 h4
  have lw : 2 * l < t_w T := by rw [t_w_e]; omega
  obtain ⟨s, hlf⟩ := p_cm_lf hcm
  obtain ⟨fm, fk, fp, fso, fph, fg⟩ := f
  have ix := p_lf_ix hlf
  have hok := p_lf_ok (m_tk_vl hx) (Nat.le_refl _) hlf
  have so3 : fso = 3 := ix.2.2.2.2.2.1 (by decide)
  unfold rm_227
  intro v48 e48 _
  rw [e48, h101, sw_2k (by omega)]
  refine r_spot (s := 48) (by decide) (by omega) ?_
  intro _ v61 e61 _ v64 e64 _
  unfold rm_210
  intro I1 d1 I2 d2 I3 d3
  have r3 : m_ry I3 fr (e1 + 1) (I 1000 23) := ⟨by rw [d3, su_k (by decide), d2, su_k (by decide), d1, su_eq, e61, h111], by rw [d3, su_k (by decide), d2, su_eq, e64], by rw [d3, su_eq]⟩
  have f3 : m_fr [] m_F1 I I3 := m_F1_3 ⟨fun g _ g2 => by rw [d3, d2, d1, su_f g2, su_f g2, su_f g2], fun f hf => by
    simp only [List.mem_cons, List.not_mem_nil, or_false] at hf
    rw [d3, d2, d1, su_k (by omega), su_k (by omega), su_k (by omega)]⟩
  clear d1 d2 d3
  have tkF : ∀ {A : sr_V}, m_fr [] m_F1 I A → m_tk A mk K' fr lm := fun {A} g => by
    have ea : ∀ h, h ≠ 1000 → A h = I h := fun h hh => g.1 h (by simp) hh
    unfold m_tk at hx ⊢
    rw [ea 26 (by decide), ea 16 (by decide), ea 6 (by decide)]
    exact hx
  refine s_lf (tkF f3) hfr (Nat.le_refl _) hlf r3 (fun J4 lo4 h60 _ f4 => ?_)
  have F4 := m_fr_trans f3 (m_F0_1 f4)
  have g4 := m_pd_F F4
  have L4 := m_L_pd hL g4
  have T4 := m_tr_pd hT g4
  have M4 := m_me_pd hM g4
  obtain ⟨a1, a2, a3, a4, a5, a6, a7⟩ := id lo4
  intro v81 e81 _
  have a2' := a2
  rw [← e81] at a2'
  -- what follows, for the key there or not
  have rest : ∀ z89 : Int, ((z89 = 1 ∧ d_kt T fk) ∨ (z89 = 0 ∧ ¬ d_kt T fk)) → sw_c z89 → ∀ v94, v94 = J4 1000 62 → sw_c v94 → ∀ v100, v100 = J4 1000 66 → sw_c v100 → ∀ v106, v106 = J4 1000 64 → sw_c v106 → ∀ v112, v112 = J4 1000 61 → sw_c v112 → 0 ≤ ((31 * 48 + 2 * l : Nat) : Int) ∧ ((31 * 48 + 2 * l : Nat) : Int) < 1519 ∧ ∀ v115, v115 = J4 40 ((31 * 48 + 2 * l : Nat) : Int).toNat → sw_c v115 → (v112 ≠ v115 → rb_227_59 Q ((31 * 48 + 2 * l : Nat) : Int) v94 v100 v106 0 J4) ∧ (v112 = v115 → ∀ v118, v118 = J4 1000 67 → sw_c v118 → 0 ≤ ((31 * 48 + 2 * l : Nat) : Int) ∧ ((31 * 48 + 2 * l : Nat) : Int) < 1519 ∧ ∀ v121, v121 = J4 40 ((31 * 48 + 2 * l : Nat) : Int).toNat → sw_c v121 → 0 ≤ v121 ∧ v121 < 24 ∧ ∀ v124, v124 = J4 21 v121.toNat → sw_c v124 → (v118 ≠ v124 → rb_227_59 Q ((31 * 48 + 2 * l : Nat) : Int) v94 v100 v106 0 J4) ∧ (v118 = v124 → (z89 ≠ 0 → rb_227_59 Q ((31 * 48 + 2 * l : Nat) : Int) v94 v100 v106 0 J4) ∧ (z89 = 0 → ∀ v127, v127 = J4 1000 101 → sw_c v127 → rm_219 v127 J4 (fun z135 I131 => sw_c z135 → (z135 = 0 → rb_227_59 Q ((31 * 48 + 2 * l : Nat) : Int) v94 v100 v106 0 I131) ∧ (z135 ≠ 0 → rb_227_59 Q ((31 * 48 + 2 * l : Nat) : Int) v94 v100 v106 1 I131))))) := by
    intro z89 hz _ v94 e94 _ v100 e100 _ v106 e106 _ v112 e112 _
    rw [← e94] at a2
    rw [← e100] at a6
    rw [← e106] at a5
    have fin : ∀ {A : sr_V} {s0 : Int}, m_gp m_pd J4 A → ((s0 = 1 ∧ d_lr T l (fm, fk, fp, fso, fph, fg)) ∨ (s0 = 0 ∧ ¬ d_lr T l (fm, fk, fp, fso, fph, fg))) → rb_227_59 Q ((31 * 48 + 2 * l : Nat) : Int) v94 v100 v106 s0 A := fun {A s0} gA hB => by
      have gI : m_gp m_pd I A := m_gp_trans g4 gA
      have up : ∀ {Z : sr_V}, m_gp (m_pql l) A Z → m_gp (m_pqr l) I Z := fun {Z} g => m_gp_trans (m_gp_sub gI (fun f k p => Or.inr p)) (m_gp_sub g (fun f k p => Or.inl p))
      have wA : m_wy A T l := ⟨by rw [gI 1000 93 (by unfold m_pd; omega)]; exact hw.1, fun j hj => by rw [gI 90 j (by unfold m_pd; omega), gI 91 j (by unfold m_pd; omega), gI 94 j (by unfold m_pd; omega)]; exact hw.2 j hj⟩
      rw [show 31 * 48 + 2 * l = 1488 + 2 * l by omega]
      exact r_pl_59 hl (m_tr_pd hT gI) wA (m_pns_gp hp gI (fun f k p => by unfold m_pd at p; omega)) hln hky hok.1 so3 (fun h => h.1.symm) (fun h => by rw [(hlv l lw hky).2, h.2.2.2.2.1, ← h.1]) hB a2 a6 a5 hb (m_L_pd hL gI) hS (fun J mm h1 h2 h3 h4 h5 h6 h7 h8 h9 h10 => q1 J mm h1 h2 h3 h4 h5 h6 h7 h8 h9 (up h10)) (fun J mm h1 h3 h4 h5 h10 => q0 J mm h1 h3 h4 h5 (up h10))
    refine ⟨by omega, by omega, ?_⟩
    intro v115 e115 _
    obtain ⟨b1, b2, b3, b4⟩ := T4.2.2.2 l lw hky
    rw [Int.toNat_natCast, b1] at e115
    rw [a1] at e112
    refine ⟨fun c => fin (m_gp_refl _ _) (Or.inr ⟨rfl, fun h => c (by rw [e112, e115]; exact h.1)⟩), fun c => ?_⟩
    intro v118 e118 _
    refine ⟨by omega, by omega, ?_⟩
    intro v121 e121 _
    rw [Int.toNat_natCast, b1] at e121
    have o1 := hT.1.2.2 l lw hky
    have o2 := hlv l lw hky
    refine ⟨by omega, by omega, ?_⟩
    intro v124 e124 _
    have e24 : w_at mk v124 (w_pub (t_ow T l).toNat) := by
      rw [e124, e121]
      exact (M4 (t_ow T l).toNat (by omega)).2
    rw [← e118] at a3
    refine ⟨fun c1 => fin (m_gp_refl _ _) (Or.inr ⟨rfl, fun h => c1 ?_⟩), fun c1 => ⟨fun c2 => fin (m_gp_refl _ _) (Or.inr ⟨rfl, fun h => ?_⟩), fun c2 => ?_⟩⟩
    · have h3 : fp = w_pub fm.toNat := h.2.2.2.2.1
      have h1 : fm = t_ow T l := h.1
      rw [h3, h1] at a3
      exact w_at_inj (m_L_nd hL) a3 e24
    · rcases hz with ⟨_, g⟩ | ⟨g, _⟩
      · exact h.2.1 g
      · exact c2 g
    intro v127 e127 _
    rw [g4 1000 101 (by unfold m_pd; omega), h101] at e127
    rw [e127]
    have nkt : ¬ d_kt T fk := by
      rcases hz with ⟨g, _⟩ | ⟨_, g⟩
      · omega
      · exact g
    refine r_isLeafSigned L4 M4 (tkF F4) (Nat.le_refl _) hlf lo4 h60 (by unfold sw_c; omega) (fun z135 J5 hz5 L5 _ f5 => ?_)
    intro _
    have g5 := m_pd_5 f5
    rcases hz5 with ⟨z1, z2⟩ | ⟨z1, z2⟩
    · refine ⟨fun cc => by omega, fun _ => fin g5 (Or.inl ⟨rfl, by show fm = t_ow T l; omega, nkt, z2⟩)⟩
    · refine ⟨fun _ => fin g5 (Or.inr ⟨rfl, fun h => z2 h.2.2⟩), fun cc => absurd z1 cc⟩
  refine r_isKeyThere (s := 48) (by decide) L4 T4 a2' (fun h => rest 1 (Or.inl ⟨rfl, h⟩)) (fun h => rest 0 (Or.inr ⟨rfl, h⟩))
end
