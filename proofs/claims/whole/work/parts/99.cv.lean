/-! ===== reading does not depend on the end; the reference's deliverProposal ===== -/
noncomputable section
section
variable {K : Wt → Prop} {src : Int} {l : List Wt} {i e e2 : Nat} {s : Nat × Nat} {m so n kd z : Int} {k p ph g ik w : Wt} {lf : p_L}
theorem p_8_end (h : p_8 l (some (i, e)) = some (z, s)) (h2 : i < e2) : p_8 l (some (i, e2)) = some (z, i + 1, e2) := by
  obtain ⟨_, _, a, b⟩ := p_8_in h
  rw [b]
  exact if_pos ⟨h2, a⟩
theorem p_t_end {st : Nat} (h : p_t K st l (some (i, e)) = some (w, s)) (h2 : i < e2) : p_t K st l (some (i, e2)) = some (w, i + 1, e2) := by
  obtain ⟨_, _, a, b, c⟩ := p_t_in h
  subst a
  exact if_pos ⟨h2, b, c⟩
theorem p_h_end (h : p_h K l (some (i, e)) = some (w, s)) (h2 : i < e2) : p_h K l (some (i, e2)) = some (w, i + 1, e2) := by
  obtain ⟨_, _, a⟩ := p_h_in h
  unfold p_h
  rcases a with ⟨a, b⟩ | ⟨a, b, c⟩
  · rw [a]
    exact if_pos ⟨h2, b⟩
  · have : ¬ (i < e2 ∧ (l[i]?).getD [] = w_by 0) := fun g => by
      rw [← a] at g
      rw [g.2] at b
      exact absurd b (by unfold w_by; simp)
    show (if i < e2 ∧ (l[i]?).getD [] = w_by 0 then some (([] : Wt), i + 1, e2) else p_t K 1 l (some (i, e2))) = _
    rw [if_neg this]
    subst a
    exact if_pos ⟨h2, b, c⟩
theorem p_16_end (h : p_16 l (some (i, e)) = some (z, s)) (h2 : i + 2 ≤ e2) : p_16 l (some (i, e2)) = some (z, i + 2, e2) := by
  unfold p_16 at h ⊢
  rw [Option.bind_eq_some_iff] at h
  obtain ⟨⟨a, i1, e1⟩, h1, h⟩ := h
  obtain ⟨a1, a2, a3⟩ := p_8_le h1
  subst a1; subst a2
  rw [Option.map_eq_some_iff] at h
  obtain ⟨⟨b, sb⟩, h3, h⟩ := h
  have h3 : p_8 l (some (i + 1, e1)) = some (b, sb) := h3
  have h := (Prod.mk.inj h).1
  have h : 256 * a + b = z := h
  rw [p_8_end h1 (show i < e2 by omega)]
  show (p_8 l (some (i + 1, e2))).map (fun b => (256 * a + b.1, b.2)) = _
  rw [p_8_end h3 (show i + 1 < e2 by omega)]
  show some (256 * a + b, i + 1 + 1, e2) = _
  rw [h]
theorem p_lf_end (h : p_lf K src l (some (i, e)) = some ((m, k, p, so, ph, g), s)) (h2 : i + (if so = 3 then 7 else 6) ≤ e2) : p_lf K src l (some (i, e2)) = some ((m, k, p, so, ph, g), i + (if so = 3 then 7 else 6), e2) := by
  obtain ⟨x1, x2, x3, x4, x5, x6, y1, y2, y3, y4, y5, y6⟩ := p_lf_ix h
  have b7 : i + 6 ≤ e2 := by split at h2 <;> omega
  unfold p_lf
  rw [p_16_end y1 (by omega)]
  show (p_t K 5 l (some (i + 2, e2))).bind _ = _
  rw [p_t_end y2 (by omega)]
  show (p_t K 5 l (some (i + 3, e2))).bind _ = _
  rw [p_t_end y3 (by omega)]
  show (p_8 l (some (i + 4, e2))).bind _ = _
  rw [p_8_end y4 (by omega)]
  show (if so < 1 ∨ 3 < so ∨ (0 < src ∧ so ≠ src) then none else (if so = 3 then p_h K l (some (i + 5, e2)) else some ([], i + 5, e2)).bind (fun ph => (p_t K 7 l (some ph.2)).map (fun g => ((m, k, p, so, ph.1, g.1), g.2)))) = _
  rw [if_neg (by omega)]
  by_cases c : so = 3
  · rw [if_pos c] at y6 h2
    rw [if_pos c, if_pos c, p_h_end (y5 c) (by omega)]
    show (p_t K 7 l (some (i + 6, e2))).map _ = _
    rw [p_t_end y6 (by omega)]
    rfl
  · rw [if_neg c] at y6 h2
    rw [if_neg c, if_neg c, x5 c]
    show (p_t K 7 l (some (i + 5, e2))).map _ = _
    rw [p_t_end y6 (by omega)]
    rfl
theorem p_ct_end (h : p_ct K l (some (i, e)) = some ((kd, (ik, lf, g), n), s)) (h2 : s.1 ≤ e2) : p_ct K l (some (i, e2)) = some ((kd, (ik, lf, g), n), s.1, e2) := by
  obtain ⟨h8, hs, hc⟩ := p_ct_ix h
  have b1 : i < e2 := by
    rcases hc with h | h | h
    · have := h.2.1; rw [this] at h2; have h2 : i + 12 ≤ e2 := h2; omega
    · have := h.2.1; rw [this] at h2; have h2 : i + 7 ≤ e2 := h2; omega
    · have := h.2.1; rw [this] at h2; have h2 : i + 3 ≤ e2 := h2; omega
  unfold p_ct
  rw [p_8_end h8 b1]
  show (if kd = 1 then p_add K l (some (i + 1, e2)) else if kd = 2 then (p_lf K 2 l (some (i + 1, e2))).map (fun lf => (((2 : Int), (([] : Wt), lf.1, ([] : Wt)), (0 : Int)), lf.2)) else if kd = 3 then (p_16 l (some (i + 1, e2))).map (fun n => (((3 : Int), (([] : Wt), p_L0, ([] : Wt)), n.1), n.2)) else none) = _
  rcases hc with ⟨c1, c2, c3, c4, c5⟩ | ⟨c1, c2, c3, c4, c5, c6⟩ | ⟨c1, c2, c3, c4, c5, c6⟩
  · subst c2
    have h2 : i + 12 ≤ e2 := h2
    rw [if_pos c1]
    unfold p_add p_r
    rw [p_16_end c3 (by omega)]
    show ((if ((i + 1 + 2 : Nat) : Int) + 9 ≤ ((e2 : Nat) : Int) then some ((i + 1 + 2) + (9 : Int).toNat, i + 1 + 2, e2) else none).bind (fun ro => (p_pk K l (some (ro.2.1, ro.1))).bind (fun pk => if pk.2.1 = ro.1 then some (((1 : Int), pk.1, (0 : Int)), pk.2.1, ro.2.2) else none))) = _
    rw [if_pos (by omega)]
    show (p_pk K l (some (i + 3, i + 12))).bind (fun pk => if pk.2.1 = i + 12 then some (((1 : Int), pk.1, (0 : Int)), pk.2.1, e2) else none) = _
    rw [c4]
    show (if i + 12 = i + 12 then some (((1 : Int), (ik, lf, g), (0 : Int)), i + 12, e2) else none) = _
    rw [if_pos rfl, c1, c5]
  · subst c2
    have h2 : i + 7 ≤ e2 := h2
    obtain ⟨m, k, p, so, ph, g0⟩ := lf
    obtain ⟨_, _, _, _, _, x6, _⟩ := p_lf_ix c3
    have x6 := x6 (by decide)
    subst x6
    rw [if_neg (by omega), if_pos c1, p_lf_end c3 (by rw [if_neg (by decide)]; omega), c1, c4, c5, c6]
    rfl
  · subst c2
    have h2 : i + 3 ≤ e2 := h2
    rw [if_neg (by omega), if_neg (by omega), if_pos c1, p_16_end c3 (by omega), c1, c4, c5, c6]
    rfl
end
variable {I J : sr_V} {nn fr us : Nat} {K K' : Wt → Prop} {tl tl' mk mm l : List Wt} {ms : List (List Wt)} {x y : Int} {Q : Int → sr_V → Prop} {R : sr_V → Prop} {G : w_G} {P : Nat → Nat → Prop} {L : List (Wt × Nat)}
theorem r_beginAt {i e : Nat} {x1 x2 : Int} (h1 : x1 = ((fr + i : Nat) : Int)) (h2 : x2 = ((fr + e : Nat) : Int)) (hi : i ≤ e) (he : e ≤ l.length) (k : ∀ J, m_rd J fr l (some (i, e)) → m_fr [] [57, 58, 59] I J → R J) : rm_210 x1 x2 I R := by
  unfold rm_210
  intro I1 e1 I2 e2 I3 e3
  refine k I3 ⟨?_, ?_, ?_, hi, he⟩ ?_
  · rw [e3, su_k (by decide), e2, su_k (by decide), e1, su_eq, h1]
  · rw [e3, su_k (by decide), e2, su_eq, h2]
  · rw [e3, su_eq]
  · rw [e3, e2, e1]
    exact m_fr_trans (m_fr_trans (m_su_fr (by simp)) (m_su_fr (by simp))) (m_su_fr (by simp))
/-- the numbers that reading sets -/
def m_F1 : List Nat := [57, 58, 59, 60, 61, 62, 63, 64, 65, 66, 67, 68, 69, 70, 71, 72, 73, 74, 75]
theorem m_F1_3 (f : m_fr [] [57, 58, 59] I J) : m_fr [] m_F1 I J := m_fr_sub f (by simp) (by simp [m_F1])
theorem m_F1_pi (f : m_fr [] m_F1 I J) : m_gp m_pi I J := m_gp_sub (m_fr_gp f) (fun f k p => by
  simp only [m_F1, List.mem_cons, List.not_mem_nil, or_false, and_false, false_or] at p
  unfold m_pi
  exact Or.inr (Or.inr ⟨p.1, by omega⟩))
theorem m_F1_L (hL : m_L I mk nn K tl) (f : m_fr [] m_F1 I J) : m_L J mk nn K tl := m_L_fr hL f (by simp) (by decide) (by decide) (by decide) (by decide)
theorem m_pi_0 (f : m_fr [55] [56] I J) : m_gp m_pi I J := m_gp_sub (m_fr_gp f) (fun f k p => by
  simp only [List.mem_cons, List.not_mem_nil, or_false] at p
  unfold m_pi
  rcases p with p | p <;> omega)
theorem m_st_pi {s : Nat} (h : m_st I mk s G) (f : m_gp m_pi I J) : m_st J mk s G := m_st_gp h f (fun f k h c => by unfold m_pl at h; unfold m_pi at c; omega)
theorem w_sli_0 {n : Nat} (h : n ≤ l.length) : (w_sli l 0 n).length = n := by rw [w_sli_len h]; omega
theorem m_tk_gp {P : Nat → Nat → Prop} (h : m_tk I mk K fr l) (hJ : m_L J mk nn K' tl) (f : m_gp P I J) (p : ∀ f k, P f k → f ≠ 16 ∧ (f = 26 → fr + l.length ≤ k)) : m_tk J mk K fr l := by
  refine m_tk_up h hJ (w_le_refl _) (fun i hi => f 26 _ (fun c => ?_)) ?_
  · have := (p _ _ c).2 rfl
    omega
  · funext i
    exact f 16 i (fun c => (p _ _ c).1 rfl)
end
