/-! ===== free terms over any table; the class: chains of a whole table ===== -/
noncomputable section
section
variable {n : Int} {d e : Nat → Wt}
/-- what is needed of a table: no two rows stand for one term, and none for nothing -/
def g_ok (n : Int) (d : Nat → Wt) : Prop := (∀ t u : Nat, 1 ≤ t → (t : Int) ≤ n → 1 ≤ u → (u : Int) ≤ n → d t = d u → t = u) ∧ ∀ t : Nat, 1 ≤ t → (t : Int) ≤ n → ∃ s l, s ≤ 8 ∧ d t = w_mk s l
theorem g_dz_inj (h : g_ok n d) {x y : Int} (hx : 0 ≤ x) (hx1 : x ≤ n) (hy : 0 ≤ y) (hy1 : y ≤ n) (e : w_dz d x = w_dz d y) : x = y := by
  unfold w_dz at e
  by_cases c : x = 0
  · by_cases c2 : y = 0
    · omega
    · rw [if_pos c, if_neg c2] at e
      obtain ⟨s, l, _, q⟩ := h.2 y.toNat (by omega) (by omega)
      rw [q] at e
      cases e
  · by_cases c2 : y = 0
    · rw [if_pos c2, if_neg c] at e
      obtain ⟨s, l, _, q⟩ := h.2 x.toNat (by omega) (by omega)
      rw [q] at e
      cases e
    · rw [if_neg c, if_neg c2] at e
      have := h.1 x.toNat y.toNat (by omega) (by omega) (by omega) (by omega) e
      omega
theorem g_sg_inj (h : g_ok n d) {x y : Int} (hx : m_vs n x) (hy : m_vs n y) (e : w_sg d x = w_sg d y) : x = y := by
  unfold m_vs at hx hy
  unfold w_sg at e
  by_cases c : x < 256
  · by_cases c2 : y < 256
    · rw [if_pos c, if_pos c2] at e
      simp only [List.cons.injEq, and_true, true_and] at e
      omega
    · rw [if_pos c, if_neg c2] at e
      obtain ⟨s, l, hs, q⟩ := h.2 (y - 256).toNat (by omega) (by omega)
      rw [q] at e
      unfold w_mk at e
      have := (List.cons.inj e).1
      omega
  · by_cases c2 : y < 256
    · rw [if_pos c2, if_neg c] at e
      obtain ⟨s, l, hs, q⟩ := h.2 (x - 256).toNat (by omega) (by omega)
      rw [q] at e
      unfold w_mk at e
      have := (List.cons.inj e).1
      omega
    · rw [if_neg c, if_neg c2] at e
      have := h.1 (x - 256).toNat (y - 256).toNat (by omega) (by omega) (by omega) (by omega) e
      omega
theorem g_sgs_inj (h : g_ok n d) : ∀ (l m : List Int), (∀ x ∈ l, m_vs n x) → (∀ x ∈ m, m_vs n x) → l.map (w_sg d) = m.map (w_sg d) → l = m
  | [], [], _, _, _ => rfl
  | [], _ :: _, _, _, e => by cases e
  | _ :: _, [], _, _, e => by cases e
  | x :: l, y :: m, hl, hm, e => by
    have e := List.cons.inj e
    rw [g_sg_inj h (hl x List.mem_cons_self) (hm y List.mem_cons_self) e.1, g_sgs_inj h l m (fun z hz => hl z (List.mem_cons_of_mem _ hz)) (fun z hz => hm z (List.mem_cons_of_mem _ hz)) e.2]
/-- parts that are rows -/
def g_pt (n s a b c : Int) : Prop := 0 ≤ s ∧ 0 ≤ a ∧ a ≤ n ∧ 0 ≤ c ∧ c ≤ n ∧ 0 ≤ b ∧ (s ≠ 3 → b ≤ n)
theorem g_tm_inj (h : g_ok n d) {s a b c s' a' b' c' : Int} {l m : List Int} (v : g_pt n s a b c) (v' : g_pt n s' a' b' c') (hl : ∀ x ∈ l, m_vs n x) (hm : ∀ x ∈ m, m_vs n x) (e : w_tm d s a b c l = w_tm d s' a' b' c' m) : s = s' ∧ a = a' ∧ b = b' ∧ c = c' ∧ l = m := by
  obtain ⟨v0, v3, v4, v5, v6, v7, v9⟩ := v
  obtain ⟨u0, u3, u4, u5, u6, u7, u9⟩ := v'
  unfold w_tm at e
  obtain ⟨h1, h2⟩ := w_mk_inj e
  have es : s = s' := by omega
  subst es
  simp only [List.cons.injEq] at h2
  obtain ⟨h3, h4, h5, h6⟩ := h2
  refine ⟨rfl, g_dz_inj h v3 v4 u3 u4 h3, ?_, g_dz_inj h v5 v6 u5 u6 h5, g_sgs_inj h l m hl hm h6⟩
  by_cases cs : s = 3
  · rw [if_pos cs, if_pos cs] at h4
    simp only [List.cons.injEq, and_true] at h4
    omega
  · rw [if_neg cs, if_neg cs] at h4
    exact g_dz_inj h v7 (v9 cs) u7 (u9 cs) h4
theorem g_tm_e (he : ∀ u : Nat, (u : Int) ≤ n → e u = d u) {s a b c : Int} {l : List Int} (v : g_pt n s a b c) (hl : ∀ x ∈ l, m_vs n x) : w_tm e s a b c l = w_tm d s a b c l := by
  obtain ⟨v0, v3, v4, v5, v6, v7, v9⟩ := v
  unfold w_tm
  rw [w_dz_e he v3 v4, w_dz_e he v5 v6, show l.map (w_sg e) = l.map (w_sg d) from List.map_congr_left (fun x hx => w_sg_e he (hl x hx))]
  by_cases cs : s = 3
  · rw [if_pos cs, if_pos cs]
  · rw [if_neg cs, if_neg cs, w_dz_e he v7 (v9 cs)]
end
section
variable {H X : sw_H} {d : Nat → Wt} {nn : Nat} {P : Int → sw_H → Prop}
/-- the terms below u are chained -/
def c_CH (X : sw_H) (u : Nat) : Prop := ∃ ch : Nat → List Nat, (∀ b, b < sw_ln X (sw_rv X 3 5) → c_lk X (sw_iv X (sw_rv X 3 5) b) (ch b)) ∧ (∀ b t, t ∈ ch b → 1 ≤ t ∧ t < u) ∧ ∀ t, 1 ≤ t → t < u → c_d X t 0 ≠ 0 → t ∈ ch (c_bk X (c_d X t 6)).toNat
theorem c_lk_ne : ∀ (L : List Nat) (x : Int), (∀ t ∈ L, c_d X t 7 = c_d H t 7) → c_lk H x L → c_lk X x L
  | [], _, _, e => e
  | t :: L, x, hm, e => ⟨e.1, e.2.1, e.2.2.1, by
    rw [hm t List.mem_cons_self]
    exact c_lk_ne L _ (fun u hu => hm u (List.mem_cons_of_mem _ hu)) e.2.2.2⟩
theorem c_CH_step {W : sw_H} {u p : Nat} (p1 : 1 ≤ p) (p2 : p ≤ 27) (hp : sw_ln X (sw_rv X 3 5) = 2 ^ p) (hu : 1 ≤ u) (h : c_CH X u) (hc : c_chd X W u) : c_CH W (u + 1) := by
  obtain ⟨ch, a1, a2, a3⟩ := h
  by_cases c0 : c_d X u 0 = 0
  · have e := hc.1 c0
    subst e
    refine ⟨ch, a1, fun b t ht => ?_, fun t h1 h2 h3 => ?_⟩
    · have := a2 b t ht
      omega
    · by_cases ct : t = u
      · rw [ct] at h3
        exact absurd c0 h3
      · exact a3 t h1 (by omega) h3
  · obtain ⟨fr, g1, g2⟩ := hc.2 c0
    have r1 : sw_rv W 3 1 = sw_rv X 3 1 := fr.2.2.2.2.1 3 1
    have r5 : sw_rv W 3 5 = sw_rv X 3 5 := fr.2.2.2.2.1 3 5
    have l5 : sw_ln W (sw_rv W 3 5) = sw_ln X (sw_rv X 3 5) := by rw [r5, fr.2.2.2.1]
    have hd : ∀ t k : Nat, k ≤ 13 → (t ≠ u ∨ k ≠ 7) → c_d W t k = c_d X t k := fun t k hk hh => by
      unfold c_d
      rw [r1, g1, if_neg (by omega)]
    have hb := c_bk_b p1 p2 hp (c_d X u 6)
    have bk : ∀ z, c_bk W z = c_bk X z := fun z => by unfold c_bk; rw [l5]
    refine ⟨fun b => if b = (c_bk X (c_d X u 6)).toNat then u :: ch b else ch b, fun b hbl => ?_, fun b t ht => ?_, fun t h1 h2 h3 => ?_⟩
    · rw [l5] at hbl
      have hne : ∀ t ∈ ch b, c_d W t 7 = c_d X t 7 := fun t ht => hd t 7 (by decide) (Or.inl (by have := a2 b t ht; omega))
      dsimp only
      rw [r5, g2]
      by_cases cb : b = (c_bk X (c_d X u 6)).toNat
      · rw [if_pos cb, if_pos cb]
        refine ⟨rfl, hu, fun v hv => (a2 b v hv).2, ?_⟩
        have e7 : c_d W u 7 = sw_iv X (sw_rv X 3 5) b := by
          unfold c_d
          rw [r1, g1, if_pos rfl, cb]
        rw [e7]
        exact c_lk_ne _ _ hne (a1 b hbl)
      · rw [if_neg cb, if_neg cb]
        exact c_lk_ne _ _ hne (a1 b hbl)
    · dsimp only at ht
      by_cases cb : b = (c_bk X (c_d X u 6)).toNat
      · rw [if_pos cb] at ht
        rcases List.mem_cons.mp ht with e | ht
        · omega
        · have := a2 b t ht
          omega
      · rw [if_neg cb] at ht
        have := a2 b t ht
        omega
    · rw [hd t 0 (by decide) (Or.inr (by decide))] at h3
      rw [hd t 6 (by decide) (Or.inr (by decide)), bk]
      dsimp only
      by_cases ct : t = u
      · rw [ct, if_pos rfl]
        exact List.mem_cons_self
      · have := a3 t h1 (by omega) h3
        split
        · exact List.mem_cons_of_mem _ this
        · exact this
/-- all but chains is the same -/
def c_sc (t : Nat) (X W : sw_H) : Prop := c_fr [sw_rv X 3 1, sw_rv X 3 5] X W ∧ ∀ j, (j % 14 ≠ 7 ∨ 14 * t + 14 ≤ j ∨ j < 14) → sw_iv W (sw_rv X 3 1) j = sw_iv X (sw_rv X 3 1) j
theorem c_sc_refl (t : Nat) (X : sw_H) : c_sc t X X := ⟨c_fr_refl _ _, fun _ _ => rfl⟩
theorem c_sc_trans {t : Nat} {X Y W : sw_H} (h : c_sc t X Y) (k : c_sc t Y W) : c_sc t X W := by
  have r1 : sw_rv Y 3 1 = sw_rv X 3 1 := h.1.2.2.2.2.1 3 1
  have r5 : sw_rv Y 3 5 = sw_rv X 3 5 := h.1.2.2.2.2.1 3 5
  obtain ⟨k1, k2⟩ := k
  rw [r1, r5] at k1
  rw [r1] at k2
  exact ⟨c_fr_t h.1 k1, fun j hj => (k2 j hj).trans (h.2 j hj)⟩
theorem c_chd_sc {t : Nat} {X W : sw_H} {u : Nat} (h : c_chd X W u) (h1 : 1 ≤ u) (h2 : u ≤ t) : c_sc t X W := by
  by_cases c0 : c_d X u 0 = 0
  · rw [h.1 c0]
    exact c_sc_refl t X
  · obtain ⟨fr, g1, _⟩ := h.2 c0
    exact ⟨fr, fun j hj => by rw [g1, if_neg (by omega)]⟩
theorem c_S_sc {t : Nat} {X W : sw_H} (S : c_S X) (D : c_D X) (h : c_sc t X W) (h4 : ¬ c_ow X 4) (h5 : ¬ c_ow X 5) : c_S W ∧ c_D W := by
  obtain ⟨⟨_, _, f3, f4, f5, f6⟩, _⟩ := h
  obtain ⟨s1, s2, s3, s4, s5, s6, s7, s8, s9, s10, s11, s12, s13⟩ := S
  unfold c_S c_D at *
  simp only [f3, f4, f5]
  refine ⟨⟨s1, s2, s3, s4, s5, s6, s7, s8, s9, s10, s11, ?_, s13⟩, D⟩
  exact c_row_fr (A := [sw_rv X 3 1, sw_rv X 3 5]) s12 ⟨by assumption, by assumption, f3, f4, f5, f6⟩ (by
    simp
    exact ⟨fun e => h4 (Or.inr (Or.inl e)), fun e => h4 (Or.inr (Or.inr (Or.inr (Or.inl e))))⟩) (by
    simp
    exact ⟨fun e => h5 (Or.inr (Or.inl e)), fun e => h5 (Or.inr (Or.inr (Or.inr (Or.inl e))))⟩)
theorem c_ow_sc {t : Nat} {X W : sw_H} (h : c_sc t X W) (a : Nat) : c_ow W a ↔ c_ow X a := by
  unfold c_ow
  simp only [h.1.2.2.2.2.1]
/-- chaining from u up to t -/
theorem c_chain_l {p t : Nat} (p1 : 1 ≤ p) (p2 : p ≤ 27) : ∀ (n : Nat) {u : Nat} {X : sw_H}, c_S X → c_D X → ¬ c_ow X 4 → ¬ c_ow X 5 → sw_ln X (sw_rv X 3 5) = 2 ^ p → 14 * t + 14 ≤ sw_ln X (sw_rv X 3 1) → 1 ≤ u → u ≤ t + 1 → t + 1 - u < n → c_CH X u → (∀ W, c_sc t X W → c_CH W (t + 1) → P t W) → wl_251_184 P n 3 t u X
  | 0, _, _, _, _, _, _, _, _, _, _, h, _, _ => by omega
  | n + 1, u, X, S, D, h4, h5, hp, ht, hu, hut, hn, hc, k => by
    have dl := S.2.2.2.2.2.2.1
    unfold wl_251_184
    refine ⟨fun c0 => k X (c_sc_refl t X) ?_, fun c0 => ?_⟩
    · rw [show t + 1 = u by omega]
      exact hc
    · refine c_chain S D p1 p2 hp (by omega) (fun W hW _ => ?_)
      intro y ey
      rw [sw_w_s (by omega) (by omega)] at ey
      have ey : y = ((u + 1 : Nat) : Int) := by omega
      subst ey
      have sc := c_chd_sc (t := t) hW hu (by omega)
      obtain ⟨S2, D2⟩ := c_S_sc S D sc h4 h5
      have r5 : sw_rv W 3 5 = sw_rv X 3 5 := sc.1.2.2.2.2.1 3 5
      have r1 : sw_rv W 3 1 = sw_rv X 3 1 := sc.1.2.2.2.2.1 3 1
      refine c_chain_l p1 p2 n S2 D2 (fun h => h4 ((c_ow_sc sc 4).mp h)) (fun h => h5 ((c_ow_sc sc 5).mp h)) (by rw [r5, sc.1.2.2.2.1]; exact hp) (by rw [r1, sc.1.2.2.2.1]; exact ht) (by omega) (by omega) (by omega) (c_CH_step p1 p2 hp hu hc hW) (fun W2 h1 h2 => k W2 (c_sc_trans sc h1) h2)
end
end
