/-! ===== a PROPOSAL read; the reference's deliverPackage ===== -/
noncomputable section
section
variable {K : Wt → Prop} {l : List Wt} {i e : Nat} {s : Nat × Nat} {z ep lf ep' lf' : Int} {v v' : p_C} {sg tg sg' tg' : Wt}
theorem p_to_some {A : Type} {r : Option (A × Nat × Nat)} {s : Nat × Nat} (h : p_to r = some s) : ∃ x, r = some (x, s) := by
  cases r with
  | none => exact absurd h (by simp [p_to])
  | some y =>
    obtain ⟨x, s'⟩ := y
    have h : some s' = some s := h
    have h := Option.some.inj h
    subst h
    exact ⟨x, rfl⟩
theorem p_32_ix (h : p_32 l (some (i, e)) = some (z, s)) : s = (i + 4, e) ∧ i + 4 ≤ e := by
  unfold p_32 at h
  rw [Option.bind_eq_some_iff] at h
  obtain ⟨⟨a, i1, e1⟩, h1, h⟩ := h
  obtain ⟨a1, a2, a3⟩ := p_16_le h1
  subst a1; subst a2
  rw [Option.map_eq_some_iff] at h
  obtain ⟨⟨b, i2, e2⟩, h2, h⟩ := h
  have h2 : p_16 l (some (i + 2, e1)) = some (b, i2, e2) := h2
  obtain ⟨b1, b2, b3⟩ := p_16_le h2
  subst b1; subst b2
  have h := (Prod.mk.inj h).2
  have h : (i + 2 + 2, e2) = s := h
  exact ⟨h.symm, by omega⟩
/-- a PROPOSAL: epoch, leaf, CONTENT, signature, tag -/
def p_pr (K : Wt → Prop) (l : List Wt) (ep lf : Int) (v : p_C) (sg tg : Wt) : Prop := 2 ≤ l.length ∧ (∃ b, p_8 l (some (0, l.length)) = some (b, 1, l.length)) ∧ p_32 l (some (1, l.length)) = some (ep, 5, l.length) ∧ p_16 l (some (5, l.length)) = some (lf, 7, l.length) ∧ p_ct K l (some (7, l.length)) = some (v, l.length - 2, l.length) ∧ p_t K 7 l (some (l.length - 2, l.length)) = some (sg, l.length - 1, l.length) ∧ p_t K 2 l (some (l.length - 1, l.length)) = some (tg, l.length, l.length)
theorem p_pr_u (h : p_pr K l ep lf v sg tg) (k : p_pr K l ep' lf' v' sg' tg') : ep = ep' ∧ lf = lf' ∧ v = v' ∧ sg = sg' ∧ tg = tg' := by
  obtain ⟨_, _, h1, h2, h3, h4, h5⟩ := h
  obtain ⟨_, _, k1, k2, k3, k4, k5⟩ := k
  rw [h1] at k1
  rw [h2] at k2
  rw [h3] at k3
  rw [h4] at k4
  rw [h5] at k5
  exact ⟨(Prod.mk.inj (Option.some.inj k1)).1, (Prod.mk.inj (Option.some.inj k2)).1, (Prod.mk.inj (Option.some.inj k3)).1, (Prod.mk.inj (Option.some.inj k4)).1, (Prod.mk.inj (Option.some.inj k5)).1⟩
/-- step by step -/
theorem p_pr_st (h : p_to (p_t K 2 l (p_to (p_t K 7 l (p_to (p_ct K l (p_to (p_16 l (p_to (p_32 l (p_to (p_8 l (some (0, l.length))))))))))))) = some (i, e)) : e = l.length ∧ (i = e → ∃ ep lf v sg tg, p_pr K l ep lf v sg tg) := by
  obtain ⟨tg, h6⟩ := p_to_some h
  obtain ⟨S5, e5⟩ : ∃ S, p_to (p_t K 7 l (p_to (p_ct K l (p_to (p_16 l (p_to (p_32 l (p_to (p_8 l (some (0, l.length))))))))))) = S := ⟨_, rfl⟩
  rw [e5] at h6
  cases S5 with
  | none => exact absurd h6 (by simp [p_t])
  | some s5 =>
  obtain ⟨i5, e5'⟩ := s5
  obtain ⟨sg, h5⟩ := p_to_some e5
  obtain ⟨S4, e4⟩ : ∃ S, p_to (p_ct K l (p_to (p_16 l (p_to (p_32 l (p_to (p_8 l (some (0, l.length)))))))))  = S := ⟨_, rfl⟩
  rw [e4] at h5
  cases S4 with
  | none => exact absurd h5 (by simp [p_t])
  | some s4 =>
  obtain ⟨i4, e4'⟩ := s4
  obtain ⟨v, h4⟩ := p_to_some e4
  obtain ⟨S3, e3⟩ : ∃ S, p_to (p_16 l (p_to (p_32 l (p_to (p_8 l (some (0, l.length))))))) = S := ⟨_, rfl⟩
  rw [e3] at h4
  cases S3 with
  | none => exact absurd h4 (by simp [p_ct, p_8])
  | some s3 =>
  obtain ⟨i3, e3'⟩ := s3
  obtain ⟨lf, h3⟩ := p_to_some e3
  obtain ⟨S2, e2⟩ : ∃ S, p_to (p_32 l (p_to (p_8 l (some (0, l.length))))) = S := ⟨_, rfl⟩
  rw [e2] at h3
  cases S2 with
  | none => exact absurd h3 (by simp [p_16, p_8])
  | some s2 =>
  obtain ⟨i2, e2'⟩ := s2
  obtain ⟨ep, h2⟩ := p_to_some e2
  obtain ⟨S1, e1⟩ : ∃ S, p_to (p_8 l (some (0, l.length))) = S := ⟨_, rfl⟩
  rw [e1] at h2
  cases S1 with
  | none => exact absurd h2 (by simp [p_32, p_16, p_8])
  | some s1 =>
  obtain ⟨i1, e1'⟩ := s1
  obtain ⟨b, h1⟩ := p_to_some e1
  obtain ⟨x1, x2, _⟩ := p_8_in h1
  have x1 := Prod.mk.inj x1
  obtain ⟨x1, x3⟩ := x1
  subst x1; subst x3
  obtain ⟨y1, y2⟩ := p_32_ix h2
  have y1 := Prod.mk.inj y1
  obtain ⟨y1, y3⟩ := y1
  subst y1; subst y3
  obtain ⟨w1, w2, w3⟩ := p_16_le h3
  subst w1; subst w2
  obtain ⟨kd, ⟨ik, lf0, g0⟩, n⟩ := v
  have q4 := h4
  have u1 : e4' = l.length := by
    obtain ⟨_, _, h | h | h⟩ := p_ct_ix h4
    · exact (Prod.mk.inj h.2.1).2
    · exact (Prod.mk.inj h.2.1).2
    · exact (Prod.mk.inj h.2.1).2
  subst u1
  obtain ⟨z1, z2, _⟩ := p_t_in h5
  have z1 := Prod.mk.inj z1
  obtain ⟨z1, z3⟩ := z1
  subst z1; subst z3
  obtain ⟨v1, v2, _⟩ := p_t_in h6
  have v1 := Prod.mk.inj v1
  obtain ⟨v1, v3⟩ := v1
  subst v1; subst v3
  refine ⟨rfl, fun hi => ⟨ep, lf, (kd, (ik, lf0, g0), n), sg, tg, ?_⟩⟩
  have hn : i4 = l.length - 2 := by omega
  rw [hn] at q4 h5 h6
  have n1 : l.length - 2 + 1 = l.length - 1 := by omega
  rw [n1] at h5 h6
  have n2 : l.length - 1 + 1 = l.length := by omega
  rw [n2] at h6
  exact ⟨by omega, ⟨b, h1⟩, h2, h3, q4, h5, h6⟩
theorem p_pr_S (h : p_pr K l ep lf v sg tg) : p_to (p_t K 2 l (p_to (p_t K 7 l (p_to (p_ct K l (p_to (p_16 l (p_to (p_32 l (p_to (p_8 l (some (0, l.length))))))))))))) = some (l.length, l.length) := by
  obtain ⟨_, ⟨b, h0⟩, h1, h2, h3, h4, h5⟩ := h
  rw [h0, p_to_s, h1, p_to_s, h2, p_to_s, h3, p_to_s, h4, p_to_s, h5, p_to_s]
end
/-- what a message that is a PACKAGE is answered with -/
def w_dkR (K : Wt → Prop) (l : List Wt) (z : Int) : Prop := ((∀ v, ¬ w_isP K l v) ∧ z = 1) ∨ ∃ v, w_isP K l v ∧ (((w_pks v ∧ v.1 ≠ v.2.1.2.1) ∧ z = 0) ∨ (¬ (w_pks v ∧ v.1 ≠ v.2.1.2.1) ∧ z = 4))
/-- a CONTENT is signed as it must -/
def w_cts (v : p_C) (lf : Int) : Prop := (v.1 = 1 → w_pks v.2.1) ∧ (v.1 = 2 → w_lfs v.2.1.2.1 lf)
/-- who sent is a leaf, and another one -/
def w_sd (G : w_G) (lf : Int) : Prop := lf < ((2 ^ t_dp (gg_T G) : Nat) : Int) ∧ t_ky (gg_T G) (2 * lf.toNat) ≠ [] ∧ lf ≠ gg_lf G
/-- what a PROPOSAL is answered with -/
def w_dpR (K : Wt → Prop) (inn : Prop) (G : w_G) (l : List Wt) (z : Int) : Prop := ((∀ ep lf v sg tg, ¬ p_pr K l ep lf v sg tg) ∧ z = 1) ∨ ∃ ep lf v sg tg, p_pr K l ep lf v sg tg ∧ (((¬ inn ∨ ep ≠ gg_ep G) ∧ z = 2) ∨ (inn ∧ ep = gg_ep G ∧ ((¬ w_sd G lf ∧ z = 3) ∨ (w_sd G lf ∧ ((¬ (w_sok (t_ow (gg_T G) lf.toNat) (t_sk (gg_T G) lf.toNat) sg (w_sli l 0 (l.length - 2) ++ w_cx G) ∧ w_cts v lf) ∧ z = 4) ∨ ((w_sok (t_ow (gg_T G) lf.toNat) (t_sk (gg_T G) lf.toNat) sg (w_sli l 0 (l.length - 2) ++ w_cx G) ∧ w_cts v lf) ∧ ((tg ≠ w_t 2 (w_mem G) [] [] (w_sli l 0 (l.length - 1)) ∧ z = 5) ∨ (tg = w_t 2 (w_mem G) [] [] (w_sli l 0 (l.length - 1)) ∧ z = 0))))))))
/-- members' trees: who owns a leaf has its key -/
def gg_lv (G : w_G) : Prop := ∀ k, 2 * k < t_w (gg_T G) → t_ky (gg_T G) (2 * k) ≠ [] → t_ow (gg_T G) k < 24 ∧ t_sk (gg_T G) k = w_pub (t_ow (gg_T G) k).toNat
variable {I J : sr_V} {nn fr us : Nat} {K K' : Wt → Prop} {tl tl' mk mm l L1 L2 : List Wt} {ms : List (List Wt)} {x y : Int} {Q : Int → sr_V → Prop} {R : sr_V → Prop} {G : w_G} {P : Nat → Nat → Prop}
theorem r_deliverPackage {mi : Nat} (hL : m_L I mk nn K' tl) (hMe : m_me I mk) (hM : m_M I (w_d mk) ms) (hmi : ms[mi]? = some l) (hx : m_tk I mk K (I 24 mi).toNat l) (q : ∀ z J, w_dkR K l z → m_L J mk nn K' tl → m_gp m_pi I J → Q z J) : rm_108 mi I Q := by
  have up : ∀ {A B : sr_V}, m_fr [] [57, 58, 59, 60, 61, 62, 63, 64, 65, 66, 67, 68, 69, 70, 71, 72] A B → m_gp m_pi A B := fun {A B} f => m_gp_sub (m_fr_gp f) (fun f k p => by
    simp only [List.mem_cons, List.not_mem_nil, or_false, and_false, false_or] at p
    unfold m_pi
    exact Or.inr (Or.inr ⟨p.1, by omega⟩))
  have up2 : ∀ {A B : sr_V}, m_fr [55] [56] A B → m_gp m_pi A B := fun {A B} f => m_gp_sub (m_fr_gp f) (fun f k p => by
    simp only [List.mem_cons, List.not_mem_nil, or_false] at p
    unfold m_pi
    rcases p with p | p <;> omega)
  have nd := m_L_nd hL
  unfold rm_108
  refine r_isPackage hM hmi hx (fun v J hv hq fJ _ => ⟨fun _ => ?_, fun c => absurd c (by decide)⟩) (fun J hn fJ _ => ⟨fun c => absurd rfl c, fun _ => q 1 J (Or.inl ⟨hn, rfl⟩) (m_L_fr hL fJ (by simp) (by decide) (by decide) (by decide) (by decide)) (up fJ)⟩)
  have LJ : m_L J mk nn K' tl := m_L_fr hL fJ (by simp) (by decide) (by decide) (by decide) (by decide)
  refine r_isPackageSigned (e := l.length) (i := 0) LJ (m_me_gp hMe (m_fr_gp fJ) (fun f k h => by simp at h; omega)) (m_tk_f hx fJ) (Nat.le_refl _) hv.2 hq (fun z X hz LX rX fX _ => ⟨fun c => ?_, fun c => ?_⟩)
  · refine q 4 X (Or.inr ⟨v, hv, Or.inr ⟨fun h => ?_, rfl⟩⟩) LX (m_gp_trans (up fJ) (up2 fX))
    rcases hz with ⟨ez, _⟩ | ⟨_, hn⟩
    · omega
    · exact hn h.1
  · have hok : w_pks v := by
      rcases hz with ⟨_, h⟩ | ⟨ez, _⟩
      · exact h
      · exact absurd ez c
    have hqX := m_pq_fr hq fX (by simp)
    obtain ⟨ik, ⟨m, k, p, so, ph, g0⟩, g⟩ := v
    obtain ⟨⟨o68, _⟩, ⟨_, o62, _⟩, _⟩ := hqX
    intro v15 e15 _ v18 e18 _
    refine ⟨fun c2 => q 4 X (Or.inr ⟨_, hv, Or.inr ⟨fun h => h.2 ?_, rfl⟩⟩) LX (m_gp_trans (up fJ) (up2 fX)), fun c2 => q 0 X (Or.inr ⟨_, hv, Or.inl ⟨⟨hok, fun h => c2 ?_⟩, rfl⟩⟩) LX (m_gp_trans (up fJ) (up2 fX))⟩
    · rw [e15, e18] at c2
      rw [c2] at o62
      have u1 := w_at_d o62
      rw [w_at_d o68] at u1
      exact u1
    · have h : ik = k := h
      rw [h] at o68
      rw [e15, e18]
      exact w_at_inj nd o62 o68
end
