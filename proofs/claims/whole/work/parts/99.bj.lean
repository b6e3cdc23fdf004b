/-! ===== the class: create ===== -/
noncomputable section
section
variable {H G X Y : sw_H} {d e f : Nat → Wt} {nn r ra g m : Nat} {K : Wt → Prop} {tl mk mm l : List Wt} {s a b c x cn cs N U M wo : Int} {Q : sw_H → Prop} {P : Int → sw_H → Prop} {E : Nat → sw_H → Prop} {A B : List Nat} {w wa wb : Wt} {T : w_T}
theorem c_al_sr (H : sw_H) (a f q : Nat) : c_al [a] H (sw_sr H a f q) := ⟨⟨Nat.le_refl _, fun _ _ => ⟨rfl, rfl⟩⟩, fun b _ hb => ⟨fun _ => rfl, fun g => if_neg (fun h => hb (by rw [h.1]; simp))⟩⟩
theorem c_al_si (H : sw_H) (a f : Nat) (z : Int) : c_al [a] H (sw_si H a f z) := c_fr_al (c_fr_si H a f z)
theorem c_al_t (h : c_al A H G) (k : c_al A G X) : c_al A H X := c_al_sub (c_al_trans h k) (fun a ha => by
  rw [List.mem_append] at ha
  rcases ha with ha | ha <;> exact ha)
theorem c_sr_eq (H : sw_H) (a f q : Nat) : sw_rv (sw_sr H a f q) a f = q := if_pos ⟨rfl, rfl⟩
theorem c_sr_f {a f q h : Nat} (n : h ≠ f) : sw_rv (sw_sr H a f q) a h = sw_rv H a h := if_neg (fun e => n e.2)
theorem c_W_al (h : c_W H mk nn K tl cn cs) (k : c_al A H G) (hn : sw_n G = sw_n H) (hs : sw_s G = sw_s H) (hA : ∀ a ∈ A, c_fix a ∧ (15 < a ∨ a = 2)) (ht : ∀ c, sw_ty G c = sw_ty H c) : c_W G mk nn K tl cn cs := by
  have F : c_F G := fun c hc => by rw [ht]; exact h.1.2.1 c (by rw [← hn]; exact hc)
  have hV := c_V_al h.1 k hn hs F (fun a ha => (hA a ha).1)
  have n3 : 3 ∉ A := fun hm => by have := (hA 3 hm).2; omega
  exact c_W_ch h hV (c_al_ch k (by rw [h.1.1.1.1.1.1]; decide) n3) (fun a ha => (hA a ha).2) (w_le_refl _)
theorem c_W_alch (h : c_W H mk nn K tl cn cs) (k : c_al A H G) (hA : ∀ a ∈ A, 15 < a ∨ a = 2) : c_ch A H G := c_al_ch k (by rw [h.1.1.1.1.1.1]; decide) (fun hm => by have := hA 3 hm; omega)
/-- members: their cells, numbers, secrets, keys -/
def c_MS (H : sw_H) (mk : List Wt) : Prop := sw_ty H 119 = 57 ∧ sw_ln H 119 = 24 ∧ ∀ m, m < 24 → sw_rv H 119 m = 120 + 54 * m ∧ sw_ty H (120 + 54 * m) = 56 ∧ sw_iv H (120 + 54 * m) 0 = m ∧ w_at mk (sw_iv H (120 + 54 * m) 1) (w_nm m) ∧ w_at mk (sw_iv H (120 + 54 * m) 2) (w_pub m)
theorem c_fx_iv (fl : c_full H) (ad : c_ads H) (k : c_ch A H G) {q : Nat} (hq : c_fix q) (hA : q ∉ A) : (∀ f, sw_iv G q f = sw_iv H q f) ∧ ∀ f, sw_rv G q f = sw_rv H q f := k.2.1 q (fl q (by unfold c_fix at hq; omega) hq.2) (c_fix_no ad hq) hA
theorem c_fx_ty (fl : c_full H) (k : c_ch A H G) {q : Nat} (hq : c_fix q) : sw_ty G q = sw_ty H q ∧ sw_ln G q = sw_ln H q := k.1.2 q (fl q (by unfold c_fix at hq; omega) hq.2)
theorem c_MS_ch (h : c_MS H mk) (fl : c_full H) (ad : c_ads H) (k : c_ch A H G) (h119 : 119 ∉ A) (hA : ∀ m, m < 24 → 120 + 54 * m ∈ A → ∀ f, f < 3 → sw_iv G (120 + 54 * m) f = sw_iv H (120 + 54 * m) f) (hl : w_le mk mm) : c_MS G mm := by
  obtain ⟨h1, h2, h3⟩ := h
  have f119 : c_fix 119 := by unfold c_fix; omega
  refine ⟨by rw [(c_fx_ty fl k f119).1]; exact h1, by rw [(c_fx_ty fl k f119).2]; exact h2, fun m hm => ?_⟩
  have fm : c_fix (120 + 54 * m) := by unfold c_fix; omega
  have ev : ∀ f, f < 3 → sw_iv G (120 + 54 * m) f = sw_iv H (120 + 54 * m) f := fun f hf => by
    by_cases c : 120 + 54 * m ∈ A
    · exact hA m hm c f hf
    · exact (c_fx_iv fl ad k fm c).1 f
  obtain ⟨k1, k2, k3, k4, k5⟩ := h3 m hm
  refine ⟨by rw [(c_fx_iv fl ad k f119 h119).2]; exact k1, by rw [(c_fx_ty fl k fm).1]; exact k2, by rw [ev 0 (by omega)]; exact k3, by rw [ev 1 (by omega)]; exact w_le_at hl k4, by rw [ev 2 (by omega)]; exact w_le_at hl k5⟩
/-- memberAt -/
theorem c_memberAt {P : Nat → sw_H → Prop} (hO : c_O H) (hM : c_MS H mk) (rm : sw_n H < sxlim.1 ∧ sw_s H + 6 ≤ sxlim.2) (q : ∀ m : Nat, x = m → m < 24 → P (120 + 54 * m) H) (qe : ¬ (0 ≤ x ∧ x < 24) → E (sw_n H + 2) (sw_nw H 112 0 6)) : wm_151 2 x H P E := by
  have o2 := hO.2.2.2.1
  have bad : ¬ (0 ≤ x ∧ x < 24) → (fun (z4 : Int) (H1 : sw_H) => sw_c z4 → sw_ext H H1 → (z4 ≠ 0 → sw_ty H1 (sw_rv H1 2 2) = 57 ∧ ∀ q6, q6 = sw_rv H1 2 2 → 0 ≤ x ∧ x < sw_ln H1 q6 ∧ sw_ty H1 (sw_rv H1 q6 x.toNat) = 56 ∧ ∀ q9, q9 = sw_rv H1 q6 x.toNat → P q9 H1) ∧ (z4 = 0 → sw_n H1 < sxlim.1 ∧ sw_s H1 + 6 ≤ sxlim.2 ∧ ∀ H12, H12 = sw_nw H1 112 0 6 → E (sw_n H1 + 2) H12)) 0 H := by
    intro hb _ _
    refine ⟨fun c => absurd rfl c, fun _ => ⟨rm.1, rm.2, ?_⟩⟩
    intro H12 e12
    rw [e12]
    exact qe hb
  unfold wm_151 wm_130
  refine ⟨fun c => bad (by omega), fun c => ⟨fun c1 => bad (by omega), fun c1 => ?_⟩⟩
  intro _ _
  obtain ⟨m, em⟩ : ∃ m : Nat, x = m := ⟨x.toNat, by omega⟩
  subst em
  obtain ⟨k1, k2, _⟩ := hM.2.2 m (by omega)
  refine ⟨fun _ => ?_, fun c => absurd c (by decide)⟩
  rw [o2]
  refine ⟨hM.1, ?_⟩
  intro q6 e6
  rw [e6, Int.toNat_natCast, k1]
  refine ⟨by omega, by rw [hM.2.1]; omega, k2, ?_⟩
  intro q9 e9
  rw [e9]
  exact q m rfl (by omega)
/-- writeLeaf -/
theorem c_writeLeaf {ws : Wt} {so num : Int} (lm : c_lm cn cs N U M) (hW : c_W H mk nn K tl cn cs) (hO : c_O H) (hM : c_MS H mk) (h48 : sw_ty H 1422 = 48) (hm : m < 24) (hs : w_at mk a ws) (hso : so = 1 ∨ so = 2) (hnum : (sw_iv H (120 + 54 * m) 3 = 0 ∧ num = 0) ∨ (sw_iv H (120 + 54 * m) 3 ≠ 0 ∧ sw_ty H (sw_rv H (120 + 54 * m) 4) = 40 ∧ c_fix (sw_rv H (120 + 54 * m) 4) ∧ 15 < sw_rv H (120 + 54 * m) 4 ∧ sw_rv H (120 + 54 * m) 4 ≠ 1422 ∧ sw_iv H (sw_rv H (120 + 54 * m) 4) 3 = num)) (bd : c_bl (w_tl (w_tl mk (w_t 5 ws [] [] [])) (w_lsg m (w_t 5 ws [] [] []) so [] num)) tl N U M) (q : ∀ X, c_W X (w_tl (w_tl mk (w_t 5 ws [] [] [])) (w_lsg m (w_t 5 ws [] [] []) so [] num)) nn K tl cn cs → c_lf X (w_tl (w_tl mk (w_t 5 ws [] [] [])) (w_lsg m (w_t 5 ws [] [] []) so [] num)) 1422 m (w_t 5 ws [] [] []) (w_pub m) so [] → w_at (w_tl (w_tl mk (w_t 5 ws [] [] [])) (w_lsg m (w_t 5 ws [] [] []) so [] num)) (sw_iv X 1422 5) (w_lsg m (w_t 5 ws [] [] []) so [] num) → c_ch [14, 15, 1422] H X → Q X) : wm_152 2 (120 + 54 * m) a so H Q := by
  have bd1 := c_bl_le (w_le_tl _ _) bd
  have bd0 := c_bl_le (w_le_tl _ _) bd1
  have fl := hW.1.2.2.2.1
  have o12 : sw_rv H 2 12 = 1422 := hO.2.2.2.2.2.2.2.2.2.2.2.2.1
  have o1 : sw_rv H 2 1 = 11 := hO.2.2.1
  have fm : c_fix (120 + 54 * m) := by unfold c_fix; omega
  have f1422 : c_fix 1422 := by unfold c_fix; omega
  have f2 : c_fix 2 := by unfold c_fix; omega
  have lA : ∀ a ∈ [1422], c_fix a ∧ (15 < a ∨ a = 2) := fun a ha => by simp at ha; rw [ha]; exact ⟨f1422, by omega⟩
  obtain ⟨_, _, k3, k4, k5⟩ := hM.2.2 m hm
  unfold wm_152
  rw [o12]
  refine ⟨h48, ?_⟩
  intro q9 e9 v12 e12 _ H15 e15
  rw [e9] at e15
  rw [k3] at e12
  have f15 : c_fr [1422] H H15 := by rw [e15]; exact c_fr_si _ _ _ _
  have W15 := c_W_fr hW f15 lA
  rw [f15.2.2.2.2.1, f15.2.2.2.2.1, o12, o1]
  refine ⟨by rw [f15.2.2.1]; exact h48, ?_⟩
  intro q18 e18
  refine ⟨W15.2.1.1, ?_⟩
  intro q21 e21
  rw [e21]
  refine c_pub lm W15 hs bd0 (fun X1 t1 W1 a1 c1 _ _ => ?_)
  intro H29 e29
  rw [e18] at e29
  have f29 : c_fr [1422] X1 H29 := by rw [e29]; exact c_fr_si _ _ _ _
  have c15 : c_ch [1422] H H15 := c_V_ch hW.1 f15 (fun a ha => (lA a ha).1)
  have c01 : c_ch [1422] H X1 := c_ch_sub (c_ch_trans c15 c1) (by simp)
  have rv2 := (c_fx_iv fl hW.1.2.2.2.2 c01 f2 (by simp)).2
  have mv := c_fx_iv fl hW.1.2.2.2.2 c01 fm (by simp; omega)
  have t48 : sw_ty X1 1422 = 48 := by rw [(c_fx_ty fl c01 f1422).1]; exact h48
  have i15 : ∀ f, sw_iv X1 1422 f = sw_iv H15 1422 f := (c_fx_iv W15.1.2.2.2.1 W15.1.2.2.2.2 c1 f1422 (by simp)).1
  rw [f29.2.2.2.2.1, rv2, o12]
  refine ⟨by rw [f29.2.2.1]; exact t48, ?_⟩
  intro q32 e32 v35 e35 _ H38 e38
  rw [e32] at e38
  rw [f29.2.2.2.2.2 (120 + 54 * m) (by simp; omega), mv.1] at e35
  have f38 : c_fr [1422] X1 H38 := c_fr_t f29 (by rw [e38]; exact c_fr_si _ _ _ _)
  rw [f38.2.2.2.2.1, rv2, o12]
  refine ⟨by rw [f38.2.2.1]; exact t48, ?_⟩
  intro q41 e41 H44 e44
  rw [e41] at e44
  have f44 : c_fr [1422] X1 H44 := c_fr_t f38 (by rw [e44]; exact c_fr_si _ _ _ _)
  rw [f44.2.2.2.2.1, rv2, o12]
  refine ⟨by rw [f44.2.2.1]; exact t48, ?_⟩
  intro q47 e47 H50 e50
  rw [e47] at e50
  have f50 : c_fr [1422] X1 H50 := c_fr_t f44 (by rw [e50]; exact c_fr_si _ _ _ _)
  have W50 := c_W_fr W1 f50 lA
  have c50 : c_ch [1422] H H50 := c_ch_sub (c_ch_trans c01 (c_V_ch W1.1 f50 (fun a ha => (lA a ha).1))) (by simp)
  have lf : c_lf H50 (w_tl mk (w_t 5 ws [] [] [])) 1422 m (w_t 5 ws [] [] []) (w_pub m) so [] := by
    have n0 : sw_iv H50 1422 0 = m := by
      rw [e50, c_si_f (by decide), e44, c_si_f (by decide), e38, c_si_f (by decide), e29, c_si_f (by decide), i15, e15, c_si_eq, e12]
    have n1 : sw_iv H50 1422 1 = t1 := by
      rw [e50, c_si_f (by decide), e44, c_si_f (by decide), e38, c_si_f (by decide), e29, c_si_eq]
    have n2 : sw_iv H50 1422 2 = sw_iv H (120 + 54 * m) 2 := by
      rw [e50, c_si_f (by decide), e44, c_si_f (by decide), e38, c_si_eq, e35]
    have n3 : sw_iv H50 1422 3 = so := by rw [e50, c_si_f (by decide), e44, c_si_eq]
    have n4 : sw_iv H50 1422 4 = 0 := by rw [e50, c_si_eq]
    exact ⟨n0, by rw [n1]; exact a1, by rw [n2]; exact w_le_at (w_le_tl _ _) k5, n3, by rw [n4]; exact Or.inl ⟨rfl, rfl⟩, by omega, by omega⟩
  have r1 : sw_rv H50 2 1 = 11 := by rw [f50.2.2.2.2.1, rv2]; exact o1
  have mv5 : sw_iv H50 (120 + 54 * m) = sw_iv X1 (120 + 54 * m) := f50.2.2.2.2.2 _ (by simp; omega)
  rw [r1]
  refine ⟨W50.2.1.1, ?_⟩
  intro q53 e53
  rw [f50.2.2.2.2.1 2 12, rv2, o12]
  refine ⟨by rw [f50.2.2.1]; exact t48, ?_⟩
  intro q56 e56 v59 e59 _
  rw [e53, e56]
  rw [mv5, mv.1] at e59
  have fin : wb_152_37 Q (120 + 54 * m) num 1422 11 H50 := by
    unfold wb_152_37
    intro v1 e1 _
    rw [mv5, mv.1] at e1
    refine c_signLeaf lm W50 (by omega) (by omega) hm lf (by rw [e1]; exact w_le_at (w_le_tl _ _) k4) bd1 (fun X2 W2 a2 h2 c2 _ => ?_)
    refine q X2 W2 (c_lf_iv lf (fun f hf => h2 f (by omega)) (w_le_tl _ _)) a2 (c_ch_sub (c_ch_trans c50 c2) (by simp))
  refine ⟨fun c => ?_, fun c => ?_⟩
  · rcases hnum with ⟨_, h⟩ | ⟨h, _⟩
    · rw [h] at fin; exact fin
    · exact absurd (by rw [← e59]; exact c) h
  · rcases hnum with ⟨h, _⟩ | ⟨h1, h2, h3, h4, h5, h6⟩
    · exact absurd (by rw [e59]; exact h) c
    · rw [f50.2.2.2.2.1 (120 + 54 * m) 4, mv.2]
      have gv := c_fx_iv fl hW.1.2.2.2.2 c50 h3 (by simpa using h5)
      refine ⟨by rw [(c_fx_ty fl c50 h3).1]; exact h2, ?_⟩
      intro q62 e62 v65 e65 _
      rw [e62, gv.1, h6] at e65
      rw [e65]
      exact fin
end
end
