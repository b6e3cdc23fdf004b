/-! ===== the class: the lists of users; add as a whole ===== -/
noncomputable section
section
variable {H G X Y W : sw_H} {P : Int → sw_H → Prop} {Q : sw_H → Prop} {T : Nat} {s a b c z : Int}
/-- what follows a link -/
def c_nx (H : sw_H) (k : Nat) : Int := c_d H (k / 3) (11 + k % 3)
/-- a list of links, each below the one ahead -/
def c_ul (H : sw_H) : Int → List Nat → Prop
  | x, [] => x = 0
  | x, k :: r => x = k ∧ 3 ≤ k ∧ (∀ m ∈ r, m < k) ∧ c_ul H (c_nx H k) r
/-- the lists of users hold the links of L -/
def c_UL (H : sw_H) (T : Nat) (L : Nat → Prop) (pt : Nat → Nat) : Prop := ∃ ul : Nat → List Nat, ∀ p, 1 ≤ p → p ≤ T → c_ul H (c_d H p 10) (ul p) ∧ ∀ k, k ∈ ul p ↔ L k ∧ pt k = p
def c_pt (H : sw_H) (k : Nat) : Nat := (c_d H (k / 3) (1 + k % 3)).toNat
def c_Lk (H : sw_H) (k : Nat) : Prop := 3 ≤ k ∧ ((k / 3 : Nat) : Int) ≤ c_n H ∧ (k % 3 = 0 ∨ c_d H (k / 3) 0 = 4 ∨ c_d H (k / 3) 0 = 6)
def c_U (H : sw_H) : Prop := c_UL H (c_n H).toNat (c_Lk H) (c_pt H)
theorem c_ul_cg : ∀ (L : List Nat) (x : Int), (∀ k ∈ L, c_nx X k = c_nx H k) → c_ul H x L → c_ul X x L
  | [], _, _, e => e
  | k :: L, x, hm, e => ⟨e.1, e.2.1, e.2.2.1, by
    rw [hm k List.mem_cons_self]
    exact c_ul_cg L _ (fun u hu => hm u (List.mem_cons_of_mem _ hu)) e.2.2.2⟩
theorem c_UL_cg {T : Nat} {L M : Nat → Prop} {pt qt : Nat → Nat} (h : c_UL H T L pt) (hd : ∀ p, 1 ≤ p → p ≤ T → c_d X p 10 = c_d H p 10) (hx : ∀ k, L k → c_nx X k = c_nx H k) (hL : ∀ k, M k ↔ L k) (hp : ∀ k, L k → qt k = pt k) : c_UL X T M qt := by
  obtain ⟨ul, g⟩ := h
  refine ⟨ul, fun p h1 h2 => ?_⟩
  obtain ⟨g1, g2⟩ := g p h1 h2
  refine ⟨?_, fun k => ?_⟩
  · rw [hd p h1 h2]
    exact c_ul_cg _ _ (fun k hk => hx k ((g2 k).mp hk).1) g1
  · rw [g2, hL]
    exact ⟨fun ⟨q1, q2⟩ => ⟨q1, by rw [hp k q1]; exact q2⟩, fun ⟨q1, q2⟩ => ⟨q1, by rw [← hp k q1]; exact q2⟩⟩
/-- a link more -/
theorem c_UL_step {L : Nat → Prop} {pt : Nat → Nat} {slot : Nat} {p : Int} (hs : slot ≤ 2) (hp0 : 0 ≤ p) (hpT : p < T) (h : c_UL X T L pt) (hl : c_lnk X W T slot p) (hL : ∀ k, L k → k < 3 * T + slot) (hT : 1 ≤ T) (hpt : pt (3 * T + slot) = p.toNat) : c_UL W T (fun k => L k ∨ k = 3 * T + slot) pt := by
  obtain ⟨fr, g⟩ := hl
  have r1 : sw_rv W 3 1 = sw_rv X 3 1 := fr.2.2.2.2.1 3 1
  obtain ⟨ul, u⟩ := h
  by_cases c0 : p = 0
  · have hd : ∀ t k, c_d W t k = c_d X t k := fun t k => by
      unfold c_d
      rw [r1, g, if_neg (fun h => h.1 c0), if_neg (fun h => h.1 c0)]
    refine ⟨ul, fun q h1 h2 => ?_⟩
    obtain ⟨u1, u2⟩ := u q h1 h2
    refine ⟨by rw [hd]; exact c_ul_cg _ _ (fun k _ => hd _ _) u1, fun k => ?_⟩
    rw [u2]
    refine ⟨fun ⟨q1, q2⟩ => ⟨Or.inl q1, q2⟩, fun ⟨q1, q2⟩ => ?_⟩
    rcases q1 with q1 | q1
    · exact ⟨q1, q2⟩
    · rw [q1, hpt] at q2
      omega
  · have e10 : ∀ q, 1 ≤ q → q ≤ T → c_d W q 10 = if q = p.toNat then ((3 * T + slot : Nat) : Int) else c_d X q 10 := fun q h1 h2 => by
      unfold c_d
      rw [r1, g]
      by_cases cq : q = p.toNat
      · rw [if_pos cq, if_pos ⟨c0, by omega⟩]
      · rw [if_neg cq, if_neg (by omega), if_neg (by omega)]
    have enx : ∀ k, k < 3 * T + slot → c_nx W k = c_nx X k := fun k hk => by
      unfold c_nx c_d
      rw [r1, g, if_neg (by omega), if_neg (by omega)]
    have enT : c_nx W (3 * T + slot) = c_d X p.toNat 10 := by
      unfold c_nx c_d
      rw [r1, g, if_neg (by omega), if_pos ⟨c0, by omega⟩]
    refine ⟨fun q => if q = p.toNat then (3 * T + slot) :: ul q else ul q, fun q h1 h2 => ?_⟩
    obtain ⟨u1, u2⟩ := u q h1 h2
    have hne : ∀ k ∈ ul q, c_nx W k = c_nx X k := fun k hk => enx k (hL k ((u2 k).mp hk).1)
    dsimp only
    rw [e10 q h1 h2]
    by_cases cq : q = p.toNat
    · rw [if_pos cq, if_pos cq]
      refine ⟨⟨rfl, by omega, fun k hk => hL k ((u2 k).mp hk).1, ?_⟩, fun k => ?_⟩
      · rw [enT, ← cq]
        exact c_ul_cg _ _ hne u1
      · rw [List.mem_cons, u2]
        refine ⟨fun h => ?_, fun ⟨q1, q2⟩ => ?_⟩
        · rcases h with h | ⟨q1, q2⟩
          · exact ⟨Or.inr h, by rw [h, hpt, cq]⟩
          · exact ⟨Or.inl q1, q2⟩
        · rcases q1 with q1 | q1
          · exact Or.inr ⟨q1, q2⟩
          · exact Or.inl q1
    · rw [if_neg cq, if_neg cq]
      refine ⟨c_ul_cg _ _ hne u1, fun k => ?_⟩
      rw [u2]
      refine ⟨fun ⟨q1, q2⟩ => ⟨Or.inl q1, q2⟩, fun ⟨q1, q2⟩ => ?_⟩
      rcases q1 with q1 | q1
      · exact ⟨q1, q2⟩
      · rw [q1, hpt] at q2
        exact absurd q2.symm cq
/-- links alone have changed, in rows 1 to T -/
def c_ly (W Y : sw_H) (T : Nat) : Prop := c_fr [sw_rv W 3 1] W Y ∧ ∀ j, (j % 14 < 10 ∨ 14 * T + 14 ≤ j ∨ j < 14) → sw_iv Y (sw_rv W 3 1) j = sw_iv W (sw_rv W 3 1) j
theorem c_ly_refl (W : sw_H) (T : Nat) : c_ly W W T := ⟨c_fr_refl _ _, fun _ _ => rfl⟩
theorem c_ly_trans (h : c_ly W Y T) (k : c_ly Y X T) : c_ly W X T := by
  have r1 : sw_rv Y 3 1 = sw_rv W 3 1 := h.1.2.2.2.2.1 3 1
  obtain ⟨k1, k2⟩ := k
  rw [r1] at k1 k2
  exact ⟨c_fr_t h.1 k1, fun j hj => (k2 j hj).trans (h.2 j hj)⟩
theorem c_lnk_ly {slot : Nat} {p : Int} (hs : slot ≤ 2) (hp0 : 0 ≤ p) (hpT : p < T) (h : c_lnk W Y T slot p) : c_ly W Y T := ⟨h.1, fun j hj => by rw [h.2, if_neg (by omega), if_neg (by omega)]⟩
theorem c_links {L : Nat → Prop} {pt : Nat → Nat} (S : c_S W) (D : c_D W) (h4 : ¬ c_ow W 4) (h5 : ¬ c_ow W 5) (ht : 14 * T + 14 ≤ sw_ln W (sw_rv W 3 1)) (hT : 1 ≤ T) (a0 : 0 ≤ a) (aT : a < T) (b0 : 0 ≤ b) (bT : s = 4 ∨ s = 6 → b < T) (c0 : 0 ≤ c) (cT : c < T) (h : c_UL W T L pt) (hL : ∀ k, L k → k < 3 * T) (p0 : pt (3 * T) = a.toNat) (p1 : pt (3 * T + 1) = b.toNat) (p2 : pt (3 * T + 2) = c.toNat) (k : ∀ Y, c_ly W Y T → c_UL Y T (fun k => L k ∨ k = 3 * T ∨ (s = 4 ∨ s = 6) ∧ (k = 3 * T + 1 ∨ k = 3 * T + 2)) pt → wb_251_151 P 3 T (14 * T) Y) : wm_335 3 T 0 a W (fun Y => sw_ext W Y → (s = 4 → wb_251_141 P 3 b c T (14 * T) Y) ∧ (s ≠ 4 → (s ≠ 6 → wb_251_151 P 3 T (14 * T) Y) ∧ (s = 6 → wb_251_141 P 3 b c T (14 * T) Y))) := by
  refine c_link S (slot := 0) (by decide) a0 aT ht (fun W1 l1 _ => ?_)
  have y1 := c_lnk_ly (by decide) a0 aT l1
  have u1 := c_UL_step (by decide) a0 aT h l1 (fun k hk => by have := hL k hk; omega) hT p0
  have n4 : 4 ∉ [sw_rv W 3 1] := by simp; exact fun e => h4 (Or.inr (Or.inl e))
  have n5 : 5 ∉ [sw_rv W 3 1] := by simp; exact fun e => h5 (Or.inr (Or.inl e))
  have more : s = 4 ∨ s = 6 → wb_251_141 P 3 b c T (14 * T) W1 := fun hs => by
    obtain ⟨S1, D1⟩ := c_fr_S y1.1 S D n4 n5
    have r1 : sw_rv W1 3 1 = sw_rv W 3 1 := y1.1.2.2.2.2.1 3 1
    have g1 : sw_ln W1 (sw_rv W1 3 1) = sw_ln W (sw_rv W 3 1) := by rw [r1, y1.1.2.2.2.1]
    unfold wb_251_141
    refine c_link S1 (slot := 1) (by decide) b0 (bT hs) (by rw [g1]; exact ht) (fun W2 l2 _ => ?_)
    have y2 := c_lnk_ly (by decide) b0 (bT hs) l2
    have u2 := c_UL_step (by decide) b0 (bT hs) u1 l2 (fun k hk => by
      rcases hk with hk | hk
      · have := hL k hk; omega
      · omega) hT p1
    obtain ⟨S2, D2⟩ := c_fr_S y2.1 S1 D1 (by rw [r1]; exact n4) (by rw [r1]; exact n5)
    have r2 : sw_rv W2 3 1 = sw_rv W1 3 1 := y2.1.2.2.2.2.1 3 1
    have g2 : sw_ln W2 (sw_rv W2 3 1) = sw_ln W1 (sw_rv W1 3 1) := by rw [r2, y2.1.2.2.2.1]
    refine c_link S2 (slot := 2) (by decide) c0 cT (by rw [g2, g1]; exact ht) (fun W3 l3 _ => ?_)
    have y3 := c_lnk_ly (by decide) c0 cT l3
    have u3 := c_UL_step (by decide) c0 cT u2 l3 (fun k hk => by
      rcases hk with (hk | hk) | hk
      · have := hL k hk; omega
      · omega
      · omega) hT p2
    refine k W3 (c_ly_trans y1 (c_ly_trans y2 y3)) (c_UL_cg u3 (fun _ _ _ => rfl) (fun _ _ => rfl) (fun k => ?_) (fun _ _ => rfl))
    constructor
    · rintro (h | h | ⟨_, h | h⟩)
      · exact Or.inl (Or.inl (Or.inl h))
      · exact Or.inl (Or.inl (Or.inr h))
      · exact Or.inl (Or.inr h)
      · exact Or.inr h
    · rintro (((h | h) | h) | h)
      · exact Or.inl h
      · exact Or.inr (Or.inl h)
      · exact Or.inr (Or.inr ⟨hs, Or.inl h⟩)
      · exact Or.inr (Or.inr ⟨hs, Or.inr h⟩)
  refine ⟨fun e => more (Or.inl e), fun e4 => ⟨fun e6 => ?_, fun e => more (Or.inr e)⟩⟩
  refine k W1 y1 (c_UL_cg u1 (fun _ _ _ => rfl) (fun _ _ => rfl) (fun k => ?_) (fun _ _ => rfl))
  constructor
  · rintro (h | h | ⟨h1 | h1, _⟩)
    · exact Or.inl h
    · exact Or.inr h
    · exact absurd h1 e4
    · exact absurd h1 e6
  · rintro (h | h)
    · exact Or.inl h
    · exact Or.inr (Or.inl h)
theorem c_mk_cg {A B : Nat → Prop} {t : Nat} (h : ∀ k ≤ 3, c_d X t k = c_d Y t k) (h1 : A (c_d Y t 1).toNat ↔ B (c_d Y t 1).toNat) (h2 : c_d Y t 0 = 4 ∨ c_d Y t 0 = 6 → (A (c_d Y t 2).toNat ↔ B (c_d Y t 2).toNat)) (h3 : A (c_d Y t 3).toNat ↔ B (c_d Y t 3).toNat) : c_mk X A t ↔ c_mk Y B t := by
  unfold c_mk
  rw [h 0 (by decide), h 1 (by decide), h 2 (by decide), h 3 (by decide), h1, h3]
  constructor
  · rintro (g | g | ⟨g1, g2, g3, g4⟩)
    · exact Or.inl g
    · exact Or.inr (Or.inl g)
    · exact Or.inr (Or.inr ⟨g1, g2, (h2 g1).mp g3, g4⟩)
  · rintro (g | g | ⟨g1, g2, g3, g4⟩)
    · exact Or.inl g
    · exact Or.inr (Or.inl g)
    · exact Or.inr (Or.inr ⟨g1, g2, (h2 g1).mpr g3, g4⟩)
end
end
