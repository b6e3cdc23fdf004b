/-! ===== the class: a tree copied; follow ===== -/
noncomputable section
variable {H G Z X : sw_H} {mk mm tl : List Wt} {nn r r2 k o h l x y g g2 : Nat} {K : Wt → Prop} {cn cs : Int} {T T' : w_T} {f : p_L} {Q : sw_H → Prop} {P : Int → sw_H → Prop} {A : List Nat} {G' : w_G}
theorem c_tr_cp (ht : c_tr H mk r2 T) (ts : c_ts G r) (e0 : sw_iv G r 0 = sw_iv H r2 0) (e : ∀ i j, 1 ≤ i → i ≤ 3 → j < 31 → sw_iv G (r + i) j = sw_iv H (r2 + i) j) (el : ∀ k f, k < 16 → f < 6 → sw_iv G (r + 5 + k) f = sw_iv H (r2 + 5 + k) f) : c_tr G mk r T := by
  obtain ⟨h1, h2, h3, h4, h5, h6⟩ := ht
  have w31 := t_w_4 h2.1
  refine ⟨ts, h2, by rw [e0]; exact h3, fun x hx => ?_, fun x hx hx2 => ?_, fun k hk hn => ?_⟩
  · rw [e 1 x (by decide) (by decide) (by omega), e 2 x (by decide) (by decide) (by omega), e 3 x (by decide) (by decide) (by omega)]
    exact h4 x hx
  · rw [e 1 x (by decide) (by decide) (by omega), e 2 x (by decide) (by decide) (by omega), e 3 x (by decide) (by decide) (by omega)]
    exact h5 x hx hx2
  · obtain ⟨⟨a1, a2, a3, a4, a5, a6, a7⟩, a8⟩ := h6 k hk hn
    have k16 : k < 16 := by omega
    refine ⟨⟨?_, ?_, ?_, ?_, ?_, a6, a7⟩, ?_⟩
    · rw [el k 0 k16 (by decide)]; exact a1
    · rw [el k 1 k16 (by decide)]; exact a2
    · rw [el k 2 k16 (by decide)]; exact a3
    · rw [el k 3 k16 (by decide)]; exact a4
    · rw [el k 4 k16 (by decide)]; exact a5
    · rw [el k 5 k16 (by decide)]; exact a8
theorem c_cp_v {a b m j : Nat} (hj : j < m) : sw_iv (sw_cp H a 0 b 0 m) b j = sw_iv H a j := by
  have e : sw_iv (sw_cp H a 0 b 0 m) b j = sw_iv H a (0 + (j - 0)) := if_pos ⟨rfl, Nat.zero_le _, by omega⟩
  rw [e, Nat.zero_add, Nat.sub_zero]
theorem c_cpt_30 (tr : c_ts H r) (t2 : c_ts H r2) (hd : r + 20 < r2 ∨ r2 + 20 < r) (q : ∀ G, c_fr (c_rg r) H G → (∀ i j, i ≤ 3 → sw_iv G (r + i) j = sw_iv H (r + i) j) → (∀ k f, k < 16 → f < 6 → sw_iv G (r + 5 + k) f = sw_iv H (r2 + 5 + k) f) → Q G) : ∀ (n k : Nat) {G : sw_H}, c_fr (c_rg r) H G → (∀ i j, i ≤ 3 → sw_iv G (r + i) j = sw_iv H (r + i) j) → (∀ j f, j < k → f < 6 → sw_iv G (r + 5 + j) f = sw_iv H (r2 + 5 + j) f) → k ≤ 16 → 16 - k < n → wl_282_30 Q n r r2 k G
  | 0, _, _, _, _, _, _, h => by omega
  | n + 1, k, G, f, e4, el, hk, hn => by
    obtain ⟨a1, a2, a3, a4, a5, a6, a7, a8, a9, a10, a11⟩ := c_ts_fr tr f
    obtain ⟨b1, b2, b3, b4, b5, b6, b7, b8, b9, b10, b11⟩ := c_ts_fr t2 f
    unfold wl_282_30
    refine ⟨fun c => q G f e4 (fun j f' hj hf => el j f' (by omega) hf), fun c => ?_⟩
    simp only [Int.toNat_natCast]
    rw [a7]
    refine ⟨a9, ?_⟩
    intro q1 e1
    rw [e1]
    refine ⟨by omega, by rw [a10]; omega, ?_⟩
    rw [(a11 k (by omega)).1]
    refine ⟨(a11 k (by omega)).2, ?_⟩
    intro q4 eq4
    rw [b7]
    refine ⟨b9, ?_⟩
    intro q7 e7
    rw [e7]
    refine ⟨by omega, by rw [b10]; omega, ?_⟩
    rw [(b11 k (by omega)).1]
    refine ⟨(b11 k (by omega)).2, ?_⟩
    intro q10 eq10
    rw [eq4, eq10]
    refine c_copyLeaf (by omega) (fun Z fZ eZ => ?_)
    intro _ y ey
    rw [sw_s1 (by omega)] at ey
    subst ey
    refine c_cpt_30 tr t2 hd q n (k + 1) (c_fr_t f (c_rg_1 (i := 5 + k) (by omega) (by rw [← Nat.add_assoc]; exact fZ))) (fun i j hi => ?_) (fun j f' hj hf => ?_) (by omega) (by omega)
    · rw [fZ.2.2.2.2.2 (r + i) (by simp; omega)]
      exact e4 i j hi
    · by_cases ej : j = k
      · subst ej
        rw [eZ f' hf, f.2.2.2.2.2 (r2 + 5 + j) (by rw [c_rg_m]; omega)]
      · rw [fZ.2.2.2.2.2 (r + 5 + j) (by simp; omega)]
        exact el j f' (by omega) hf
theorem c_copyTree (tr : c_ts H r) (ht : c_tr H mk r2 T) (hd : r + 20 < r2 ∨ r2 + 20 < r) (q : ∀ G, c_tr G mk r T → c_fr (c_rg r) H G → Q G) : wm_282 r r2 H Q := by
  have t2 := ht.1
  have w31 := t_w_4 ht.2.1.1
  unfold wm_282
  intro v ev _ H1 e1
  have f1 : c_fr [r] H H1 := by rw [e1]; exact c_fr_si _ _ _ _
  have i1 : sw_iv H1 r 0 = sw_iv H r2 0 := by rw [e1, c_si_eq, ev]
  clear e1 ev
  have A1 := c_ts_fr tr f1
  have B1 := c_ts_fr t2 f1
  rw [B1.2.2.2.1]
  refine ⟨(B1.2.2.2.2.2.2.2.1 1 (by decide) (by decide)).1, ?_⟩
  intro q1 e1
  rw [A1.2.2.2.1]
  refine ⟨(A1.2.2.2.2.2.2.2.1 1 (by decide) (by decide)).1, ?_⟩
  intro q2 e2
  rw [e1, e2, (A1.2.2.2.2.2.2.2.1 1 (by decide) (by decide)).2, (B1.2.2.2.2.2.2.2.1 1 (by decide) (by decide)).2]
  refine ⟨by decide, by decide, ?_⟩
  intro H2 eH2
  have f2 : c_fr [r + 1] H1 H2 := by rw [eH2]; exact c_fr_cp _ _ _ _ _ _
  have i2 : ∀ j, j < 31 → sw_iv H2 (r + 1) j = sw_iv H1 (r2 + 1) j := fun j hj => by rw [eH2]; exact c_cp_v hj
  clear eH2 e1 e2
  have A2 := c_ts_fr A1 f2
  have B2 := c_ts_fr B1 f2
  rw [B2.2.2.2.2.1]
  refine ⟨(B2.2.2.2.2.2.2.2.1 2 (by decide) (by decide)).1, ?_⟩
  intro q1 e1
  rw [A2.2.2.2.2.1]
  refine ⟨(A2.2.2.2.2.2.2.2.1 2 (by decide) (by decide)).1, ?_⟩
  intro q2 e2
  rw [e1, e2, (A2.2.2.2.2.2.2.2.1 2 (by decide) (by decide)).2, (B2.2.2.2.2.2.2.2.1 2 (by decide) (by decide)).2]
  refine ⟨by decide, by decide, ?_⟩
  intro H3 eH3
  have f3 : c_fr [r + 2] H2 H3 := by rw [eH3]; exact c_fr_cp _ _ _ _ _ _
  have i3 : ∀ j, j < 31 → sw_iv H3 (r + 2) j = sw_iv H2 (r2 + 2) j := fun j hj => by rw [eH3]; exact c_cp_v hj
  clear eH3 e1 e2
  have A3 := c_ts_fr A2 f3
  have B3 := c_ts_fr B2 f3
  rw [B3.2.2.2.2.2.1]
  refine ⟨(B3.2.2.2.2.2.2.2.1 3 (by decide) (by decide)).1, ?_⟩
  intro q1 e1
  rw [A3.2.2.2.2.2.1]
  refine ⟨(A3.2.2.2.2.2.2.2.1 3 (by decide) (by decide)).1, ?_⟩
  intro q2 e2
  rw [e1, e2, (A3.2.2.2.2.2.2.2.1 3 (by decide) (by decide)).2, (B3.2.2.2.2.2.2.2.1 3 (by decide) (by decide)).2]
  refine ⟨by decide, by decide, ?_⟩
  intro H4 eH4
  have f4 : c_fr [r + 3] H3 H4 := by rw [eH4]; exact c_fr_cp _ _ _ _ _ _
  have i4 : ∀ j, j < 31 → sw_iv H4 (r + 3) j = sw_iv H3 (r2 + 3) j := fun j hj => by rw [eH4]; exact c_cp_v hj
  clear eH4 e1 e2
  have A4 := c_ts_fr A3 f4
  have B4 := c_ts_fr B3 f4
  have n1 : ∀ a, a ≠ r → sw_iv H1 a = sw_iv H a := fun a ha => f1.2.2.2.2.2 a (by simp; exact ha)
  have n2 : ∀ a, a ≠ r + 1 → sw_iv H2 a = sw_iv H1 a := fun a ha => f2.2.2.2.2.2 a (by simp; exact ha)
  have n3 : ∀ a, a ≠ r + 2 → sw_iv H3 a = sw_iv H2 a := fun a ha => f3.2.2.2.2.2 a (by simp; exact ha)
  have n4 : ∀ a, a ≠ r + 3 → sw_iv H4 a = sw_iv H3 a := fun a ha => f4.2.2.2.2.2 a (by simp; exact ha)
  have F4 : c_fr (c_rg r) H H4 := c_fr_t (c_rg_1 (i := 0) (by decide) f1) (c_fr_t (c_rg_1 (i := 1) (by decide) f2) (c_fr_t (c_rg_1 (i := 2) (by decide) f3) (c_rg_1 (i := 3) (by decide) f4)))
  refine ⟨17, c_cpt_30 A4 B4 hd (fun Z fZ e0 el => q Z (c_tr_cp ht (c_ts_fr A4 fZ) ?_ (fun i j h1 h3 hj => ?_) (fun k f hk hf => ?_)) (c_fr_t F4 fZ)) 17 0 (c_fr_refl _ _) (fun _ _ _ => rfl) (fun j f hj _ => absurd hj (Nat.not_lt_zero _)) (by decide) (by decide)⟩
  · have := e0 0 0 (by decide)
    rw [Nat.add_zero] at this
    rw [this, n4 r (by omega), n3 r (by omega), n2 r (by omega)]
    exact i1
  · rw [e0 i j h3]
    have c : i = 1 ∨ i = 2 ∨ i = 3 := by omega
    rcases c with rfl | rfl | rfl
    · rw [n4 _ (by omega), n3 _ (by omega), i2 j hj, n1 _ (by omega)]
    · rw [n4 _ (by omega), i3 j hj, n2 _ (by omega), n1 _ (by omega)]
    · rw [i4 j hj, n3 _ (by omega), n2 _ (by omega), n1 _ (by omega)]
  · rw [el k f hk hf, n4 _ (by omega), n3 _ (by omega), n2 _ (by omega), n1 _ (by omega)]
/-- a Group's cells but its secrets -/
def c_rgg (g : Nat) : List Nat := g :: c_rg (g + 1)
theorem c_rgg_m {a : Nat} : a ∈ c_rgg g ↔ g ≤ a ∧ a ≤ g + 21 := by
  unfold c_rgg
  rw [List.mem_cons, c_rg_m]
  omega
theorem c_follow (hg : c_gs H g) (h2 : c_gp H mk g2 G') (hd : g + 22 < g2 ∨ g2 + 22 < g) (q : ∀ X, c_tr X mk (g + 1) (gg_T G') → sw_iv X g 2 = w_epn G' → sw_iv X g 3 = gg_lf G' → c_fr (c_rgg g) H X → Q X) : wm_179 g g2 H Q := by
  obtain ⟨g1, g12, g3, g4, g5, g6, g7, g8⟩ := hg
  obtain ⟨⟨p1, p2, p3, p4, p5, p6, p7, p8⟩, k2, k3, k4, k5, _⟩ := h2
  unfold wm_179
  rw [g4]
  refine ⟨g8.2.2.1, ?_⟩
  intro q1 e1
  rw [p4]
  refine ⟨p8.2.2.1, ?_⟩
  intro q4 e4
  rw [e1, e4]
  refine c_copyTree g8 k5 (by omega) (fun Z tZ fZ => ?_)
  intro _ v ev _ Y eY
  rw [fZ.2.2.2.2.2 g2 (by rw [c_rg_m]; omega), k3] at ev
  have fY : c_fr [g] Z Y := by rw [eY]; exact c_fr_si _ _ _ _
  have yv : sw_iv Y g 2 = w_epn G' := by rw [eY, c_si_eq, ev]; rfl
  clear eY
  intro v2 ev2 _ W eW
  rw [fY.2.2.2.2.2 g2 (by simp; omega), fZ.2.2.2.2.2 g2 (by rw [c_rg_m]; omega), k4] at ev2
  have fW : c_fr [g] Y W := by rw [eW]; exact c_fr_si _ _ _ _
  have F : c_fr (c_rgg g) H W := c_fr_t (c_fr_sub fZ (fun a ha => by rw [c_rg_m] at ha; rw [c_rgg_m]; omega)) (c_fr_t (c_fr_sub fY (fun a ha => by simp at ha; rw [c_rgg_m]; omega)) (c_fr_sub fW (fun a ha => by simp at ha; rw [c_rgg_m]; omega)))
  have nW : ∀ a, a ≠ g → sw_iv W a = sw_iv Z a := fun a ha => by rw [fW.2.2.2.2.2 a (by simp; exact ha), fY.2.2.2.2.2 a (by simp; exact ha)]
  refine q W (c_tr_cp (r := g + 1) (r2 := g + 1) tZ (c_ts_fr (c_ts_fr tZ.1 fY) fW) (by rw [nW _ (by omega)]) (fun i j h1 h3 hj => by rw [nW _ (by omega)]) (fun k f hk hf => by rw [nW _ (by omega)])) ?_ ?_ F
  · rw [eW, c_si_f (by decide)]; exact yv
  · rw [eW, c_si_eq, ev2]
end
