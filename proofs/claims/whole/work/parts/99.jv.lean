/-! ===== the class: deliver, by the whole state: what a COMMIT, a WELCOME, a PROPOSAL do ===== -/
noncomputable section
section
variable {H X Z : sw_H} {nn nm m k0 mi g gm g5 : Nat} {K K' S : Wt → Prop} {tl tp mk mm lm : List Wt} {rd : Nat → Int} {ms ms' : List (List Wt)} {cn cs cn' cs' x x2 N U M z : Int} {A : List Nat} {B : Nat → v_M} {lp : List Wt} {P : Int → sw_H → Prop} {E : Nat → sw_H → Prop}
/-- tools and the spare group alone have changed -/
theorem c_ZZ_wk (hm : m < 24) (h : c_ZZ H mk nn K tl cn cs tp rd ms B) (hW : c_W X mm nn K tl cn cs) (htol : c_tol X) (c : c_ch A H X) (hA : ∀ a ∈ A, (14 ≤ a ∧ a ≤ 17) ∨ (44 ≤ a ∧ a ≤ 95) ∨ (sw_rv H 94 6 ≤ a ∧ a ≤ sw_rv H 94 6 + 22)) (r94 : sw_rv X 94 6 = sw_rv H 94 6) (hl : w_le mk mm) (hg0 : c_gs X (sw_rv H 94 6)) : c_ZZ X mm nn K tl cn cs tp rd ms (v_up B m (B m)) ∧ c_cp X = c_cp H := by
  have h' := h
  obtain ⟨⟨hW0, hX, hMS, hKS⟩, ⟨y1, y2, y3, y4, y5⟩, ⟨t1, t2, t3, t4⟩, h4, h5, h6, h7⟩ := h'
  have fl := hW0.1.2.2.2.1
  have ad := hW0.1.2.2.2.2
  have gpl := (c_PL_0 h6).1
  obtain ⟨g, eg⟩ : ∃ g, g = sw_rv H 94 6 := ⟨_, rfl⟩
  rw [← eg] at hA gpl hg0
  have gb := c_pl_b gpl
  have g119 := c_pl_119 gpl
  have gm : ∀ j, j < 24 → 120 + 54 * j < g ∨ g + 22 < 120 + 54 * j := fun j hj => c_pl_m gpl hj
  have ga : ∀ j k, j < 24 → 47 ≤ k → k < 54 → 120 + 54 * j + k < g ∨ g + 22 < 120 + 54 * j + k := fun j k hj h1 h2 => c_pl_a gpl hj h1 h2
  have gd : ∀ k, k < 49 → k ≠ 0 → g + 22 < c_plc H k ∨ c_plc H k + 22 < g := fun k hk hn => c_pl_d gpl (h6.1 k hk).1 (fun e => by
    rw [eg, ← c_plc_0] at e
    exact hn (h6.2 _ _ (by omega) hk e).symm)
  have nj : ∀ j, j < 24 → 120 + 54 * j ∉ A := fun j hj cc => by
    have := hA _ cc
    have := gm j hj
    omega
  have na : ∀ j k, j < 24 → 47 ≤ k → k < 54 → 120 + 54 * j + k ∉ A := fun j k hj k1 k2 cc => by
    have := hA _ cc
    have := ga j k hj k1 (by omega)
    omega
  have hi14 : ∀ a, 1416 ≤ a → a ≤ 1491 → a ∉ A := fun a b1 b2 cc => by have := hA _ cc; omega
  have n18 : 18 ∉ A := fun cc => by have := hA _ cc; omega
  have vv : ∀ a, c_fix a → a ∉ A → (∀ f, sw_iv X a f = sw_iv H a f) ∧ ∀ f, sw_rv X a f = sw_rv H a f := fun a ha hn => c_fx_iv fl ad c ha hn
  have rm : ∀ j, j < 24 → ∀ f, sw_rv X (120 + 54 * j) f = sw_rv H (120 + 54 * j) f := fun j hj => (vv _ (by unfold c_fix; omega) (nj j hj)).2
  have hBS : c_BS X mm nn K tl cn cs tp rd ms (fun j => v_La (v_up B m (B m) j)) := by
    rw [v_up_self]
    refine ⟨hW, c_X_ch hW0.1 hX c hW.1 hl (fun a ha => by have := hA a ha; omega), c_MS_ch hMS fl ad c (fun cc => by have := hA _ cc; omega) (fun j hj cc => absurd cc (nj j hj)) hl, c_KS_ch hW0.1 hX hKS c hl (hi14 _ (by omega) (by omega)) (fun j hj => ⟨(vv (120 + 54 * j) (by unfold c_fix; omega) (nj j hj)).1 9, rm j hj 7, rm j hj 8, fun cc => ?_, fun cc => ?_⟩) (fun i hi cc => ?_)⟩
    · rcases (c_ka_78 hKS hj).1 with e | e
      · rw [e] at cc; exact na j 47 hj (by omega) (by omega) cc
      · have := hA _ cc; omega
    · rcases (c_ka_78 hKS hj).2 with e | e
      · rw [e] at cc; exact na j 48 hj (by omega) (by omega) cc
      · have := hA _ cc; omega
    · obtain ⟨l, hl⟩ : ∃ l, ms[i]? = some l := ⟨ms[i]'hi, List.getElem?_eq_getElem hi⟩
      obtain ⟨g1, _⟩ := hX.2.2.2.2.2 i l hl
      have := hA _ cc
      omega
  have o4 := gd (2 * m + 1) (by omega) (by omega)
  have o5 := gd (2 * m + 2) (by omega) (by omega)
  rw [c_plc_4] at o4
  rw [c_plc_5] at o5
  have b4 := c_pl_b (c_PL_4 h6 hm).1
  have b5 := c_pl_b (c_PL_5 h6 hm).1
  refine ⟨c_ZZ_up h hBS htol (c_Out_ch h4 fl ad c (hi14 _ (by omega) (by omega)) (hi14 _ (by omega) (by omega))) c hl (w_msl_refl _) (by rw [(vv 18 (by unfold c_fix; omega) n18).2]; exact t3) id (fun k hk => ⟨hk, ?_⟩) (fun j k _ _ e => e) (fun k hk hk1 => ?_) (fun a ha j hj cj => ?_) (fun a ha k hk hk1 => ?_) (c_zm_ch hm (h7 m hm) h6 fl ad c hl (w_msl_refl _) (fun a ha => ?_)), c_cp_ch h c (fun j hj _ => rm j hj 8)⟩
  · show c_plc X k = c_plc H k
    unfold c_plc
    by_cases k0 : k = 0
    · rw [if_pos k0, if_pos k0]; exact r94
    · rw [if_neg k0, if_neg k0, rm _ (by omega), rm _ (by omega)]
  · by_cases k2 : k = 0
    · rw [k2, c_plc_0, ← eg]; exact hg0
    · have d := gd k hk k2
      have b := c_pl_b (h6.1 k hk).1
      exact c_gs_ch (h6.1 k hk).2 fl ad c (fun a ha hn => by have := hA a ha; omega) (fun cc => by have := hA _ cc; omega)
  · have a1 := hA a ha
    refine ⟨fun e => nj j hj (e ▸ ha), ?_⟩
    by_cases q : a < 120 + 54 * j + 49 ∨ 120 + 54 * j + 53 < a
    · exact q
    · have a5 := na j (a - (120 + 54 * j)) hj (by omega) (by omega)
      rw [show 120 + 54 * j + (a - (120 + 54 * j)) = a by omega] at a5
      exact absurd ha a5
  · have a1 := hA a ha
    have d := gd k hk (by omega)
    have b := c_pl_b (h6.1 k hk).1
    omega
  · refine ⟨fun e => nj m hm (e ▸ ha), ?_, by have := hA a ha; omega, by have := hA a ha; omega⟩
    by_cases q : a < 120 + 54 * m + 49 ∨ 120 + 54 * m + 53 < a
    · exact q
    · have a5 := na m (a - (120 + 54 * m)) hm (by omega) (by omega)
      rw [show 120 + 54 * m + (a - (120 + 54 * m)) = a by omega] at a5
      exact absurd ha a5
/-- the spare group and the one of member m change hands -/
def v_s0 (m k : Nat) : Nat := if k = 0 then 2 * m + 1 else if k = 2 * m + 1 then 0 else k
theorem v_s0_lt {k : Nat} (hm : m < 24) (hk : k < 49) : v_s0 m k < 49 := by
  unfold v_s0
  split
  · omega
  · split <;> omega
theorem v_s0_inj {j k : Nat} (h : v_s0 m j = v_s0 m k) : j = k := by
  unfold v_s0 at h
  split at h <;> split at h <;> (try split at h) <;> (try split at h) <;> omega
/-- places, by what is had of fields -/
theorem c_plc_t (t : Nat → Nat) (h0 : sw_rv X 94 6 = c_plc H (t 0)) (h4 : ∀ j, j < 24 → sw_rv X (120 + 54 * j) 4 = c_plc H (t (2 * j + 1))) (h5 : ∀ j, j < 24 → sw_rv X (120 + 54 * j) 5 = c_plc H (t (2 * j + 2))) {k : Nat} (hk : k < 49) : c_plc X k = c_plc H (t k) := by
  by_cases k0 : k = 0
  · rw [k0, c_plc_0]; exact h0
  · by_cases kp : k % 2 = 1
    · have e : k = 2 * ((k - 1) / 2) + 1 := by omega
      rw [e, c_plc_4]
      exact h4 _ (by omega)
    · have e : k = 2 * ((k - 2) / 2) + 2 := by omega
      rw [e, c_plc_5]
      exact h5 _ (by omega)
/-- the next group comes out of the spare one -/
theorem c_ZZ_tk {G : w_G} {Lk : List (Nat × Wt × Wt)} (hm : m < 24) (h : c_ZZ H mk nn K tl cn cs tp rd ms B) (hW : c_W X mm nn K tl cn cs) (htol : c_tol X) (hg : c_gp X mm (sw_rv H 94 6) G) (i1 : ∀ f, f ≠ 16 → sw_iv X (120 + 54 * m) f = if f = 3 then 1 else if f = 6 then -1 else if f = 9 then 0 else if f = 11 then 0 else sw_iv H (120 + 54 * m) f) (r1 : ∀ f, sw_rv X (120 + 54 * m) f = if f = 4 then sw_rv H 94 6 else sw_rv H (120 + 54 * m) f) (r94 : ∀ f, sw_rv X 94 f = if f = 6 then sw_rv H (120 + 54 * m) 4 else sw_rv H 94 f) (hpk : c_pk X mm ms m Lk) (c : c_ch A H X) (hA : ∀ a ∈ A, a = 120 + 54 * m ∨ (120 + 54 * m + 50 ≤ a ∧ a ≤ 120 + 54 * m + 53) ∨ (14 ≤ a ∧ a ≤ 17) ∨ (44 ≤ a ∧ a ≤ 95) ∨ (sw_rv H 94 6 ≤ a ∧ a ≤ sw_rv H 94 6 + 22)) (hl : w_le mk mm) : c_ZZ X mm nn K tl cn cs tp rd ms (v_up B m (True, G, none, [], [], Lk)) ∧ c_cp X = c_cp H := by
  have fl := h.1.1.1.2.2.2.1
  have ad := h.1.1.1.2.2.2.2
  have h6 := h.2.2.2.2.2.1
  have gpl := (c_PL_0 h6).1
  have rj : ∀ j, j < 24 → j ≠ m → ∀ f, sw_rv X (120 + 54 * j) f = sw_rv H (120 + 54 * j) f := fun j hj hn => (c_fx_iv fl ad c (by unfold c_fix; omega) (fun cc => by
    have := hA _ cc
    have := c_pl_b gpl
    have := c_pl_m gpl hj
    omega)).2
  refine c_ZZ_dj (k0 := 0) hm h hW htol c (Or.inl rfl) (by rw [c_plc_0]; exact hA) hl (v_s0 m) (fun k hk => ⟨v_s0_lt hm hk, c_plc_t (v_s0 m) ?_ (fun j hj => ?_) (fun j hj => ?_) hk⟩) (fun j k _ _ e => v_s0_inj e) (by rw [c_plc_0]; exact hg.1) (fun f hf => by rw [i1 f (by omega), if_neg (by omega), if_neg (by omega), if_neg (by omega), if_neg (by omega)]) (Or.inl ⟨by rw [i1 3 (by omega), if_pos rfl], trivial⟩) (fun _ => by rw [r1, if_pos rfl]; exact hg) (by rw [i1 6 (by omega), if_neg (by omega), if_pos rfl]) (by rw [i1 9 (by omega), if_neg (by omega), if_neg (by omega), if_pos rfl]) (by rw [i1 11 (by omega), if_neg (by omega), if_neg (by omega), if_neg (by omega), if_pos rfl]) (fun f f4 f5 => by rw [r1, if_neg f4]) hpk
  · rw [r94, if_pos rfl, show v_s0 m 0 = 2 * m + 1 from if_pos rfl, c_plc_4]
  · by_cases cj : j = m
    · subst cj
      rw [r1, if_pos rfl, show v_s0 j (2 * j + 1) = 0 by unfold v_s0; rw [if_neg (by omega), if_pos rfl], c_plc_0]
    · rw [rj j hj cj, show v_s0 m (2 * j + 1) = 2 * j + 1 by unfold v_s0; rw [if_neg (by omega), if_neg (by omega)], c_plc_4]
  · rw [show v_s0 m (2 * j + 2) = 2 * j + 2 by unfold v_s0; rw [if_neg (by omega), if_neg (by omega)], c_plc_5]
    by_cases cj : j = m
    · subst cj
      rw [r1, if_neg (by omega)]
    · rw [rj j hj cj]
/-- the own commit is taken -/
theorem c_ZZ_ow {G : w_G} (hm : m < 24) (h : c_ZZ H mk nn K tl cn cs tp rd ms B) (hW : c_W X mm nn K tl cn cs) (htol : c_tol X) (o : c_own H m (sw_rv H (120 + 54 * m) 5) (sw_rv H (120 + 54 * m) 4) X mm G) (hl : w_le mk mm) : c_ZZ X mm nn K tl cn cs tp rd ms (v_up B m (True, G, none, [], [], v_Lk (B m))) ∧ c_cp X = c_cp H := by
  obtain ⟨hg, i1, r1, c⟩ := o
  have fl := h.1.1.1.2.2.2.1
  have ad := h.1.1.1.2.2.2.2
  have h6 := h.2.2.2.2.2.1
  have n : ∀ a, a ≠ 120 + 54 * m → a ∉ [120 + 54 * m] := fun a ha cc => ha (List.mem_singleton.mp cc)
  have rj : ∀ j, j < 24 → j ≠ m → ∀ f, sw_rv X (120 + 54 * j) f = sw_rv H (120 + 54 * j) f := fun j hj hn => (c_fx_iv fl ad c (by unfold c_fix; omega) (n _ (by omega))).2
  have hpk : c_pk X mm ms m (v_Lk (B m)) := by
    obtain ⟨p1, p2, p3⟩ := (h.2.2.2.2.2.2 m hm).2.2.2.2.2
    have vv : ∀ k, 50 ≤ k → k ≤ 53 → ∀ f, sw_iv X (120 + 54 * m + k) f = sw_iv H (120 + 54 * m + k) f := fun k k1 k2 => (c_fx_iv fl ad c (by unfold c_fix; omega) (n _ (by omega))).1
    refine ⟨by rw [i1, if_neg (by omega), if_neg (by omega), if_neg (by omega), if_neg (by omega)]; exact p1, p2, fun i k u v hi => ?_⟩
    obtain ⟨w1, w2, w3, p, w4, w5⟩ := p3 i k u v hi
    rw [vv 50 (by omega) (by omega), vv 51 (by omega) (by omega), vv 52 (by omega) (by omega), vv 53 (by omega) (by omega)]
    exact ⟨w1, w_le_at hl w2, w_le_at hl w3, p, w4, w_le_at hl w5⟩
  refine c_ZZ_dj (k0 := 2 * m + 2) hm h hW htol c (Or.inr (Or.inr rfl)) (fun a ha => Or.inl (List.mem_singleton.mp ha)) hl (v_sw m) (fun k hk => ⟨v_sw_lt hm hk, c_plc_t (v_sw m) ?_ (fun j hj => ?_) (fun j hj => ?_) hk⟩) (fun j k _ _ e => v_sw_inj e) (by rw [c_plc_5]; exact hg.1) (fun f hf => by rw [i1 f, if_neg (by omega), if_neg (by omega), if_neg (by omega), if_neg (by omega)]) (Or.inl ⟨by rw [i1 3, if_pos rfl], trivial⟩) (fun _ => by rw [r1, if_neg (by omega), if_pos rfl]; exact hg) (by rw [i1 6, if_neg (by omega), if_pos rfl]) (by rw [i1 9, if_neg (by omega), if_neg (by omega), if_pos rfl]) (by rw [i1 11, if_neg (by omega), if_neg (by omega), if_neg (by omega), if_pos rfl]) (fun f f4 f5 => by rw [r1, if_neg f5, if_neg f4]) hpk
  · rw [(c_fx_iv fl ad c (q := 94) (by unfold c_fix; omega) (n _ (by omega))).2, show v_sw m 0 = 0 by unfold v_sw; rw [if_neg (by omega), if_neg (by omega)], c_plc_0]
  · by_cases cj : j = m
    · subst cj
      rw [r1, if_neg (by omega), if_pos rfl, show v_sw j (2 * j + 1) = 2 * j + 2 from if_pos rfl, c_plc_5]
    · rw [rj j hj cj, show v_sw m (2 * j + 1) = 2 * j + 1 by unfold v_sw; rw [if_neg (by omega), if_neg (by omega)], c_plc_4]
  · by_cases cj : j = m
    · subst cj
      rw [r1, if_pos rfl, show v_sw j (2 * j + 2) = 2 * j + 1 by unfold v_sw; rw [if_neg (by omega), if_pos rfl], c_plc_4]
    · rw [rj j hj cj, show v_sw m (2 * j + 2) = 2 * j + 2 by unfold v_sw; rw [if_neg (by omega), if_neg (by omega)], c_plc_5]
end
end
