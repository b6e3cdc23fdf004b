/-! ===== the class: create, by the whole state ===== -/
noncomputable section
section
variable {H Z : sw_H} {nn nm m g : Nat} {K K' : Wt → Prop} {tl tl' tp mk mm : List Wt} {rd : Nat → Int} {ms : List (List Wt)} {cn cs cn' cs' x N U M : Int} {A : List Nat} {B : Nat → v_M} {v : v_M} {Q : sw_H → Prop} {E : Nat → sw_H → Prop}
/-- a group of member m is filled, and changes hands with the one before -/
def v_sw (m k : Nat) : Nat := if k = 2 * m + 1 then 2 * m + 2 else if k = 2 * m + 2 then 2 * m + 1 else k
theorem v_sw_lt {k : Nat} (hm : m < 24) (hk : k < 49) : v_sw m k < 49 := by
  unfold v_sw
  split
  · omega
  · split <;> omega
theorem v_sw_inj {j k : Nat} (h : v_sw m j = v_sw m k) : j = k := by
  unfold v_sw at h
  split at h <;> split at h <;> (try split at h) <;> (try split at h) <;> omega
theorem c_pl_119 (h : c_pl g) : 119 < g ∨ g + 22 < 119 := by
  rcases h with h | ⟨i, hi, h | h⟩ <;> omega
theorem v_cr_c (hm : m < 24) (hno : v_La (B m) = []) (h : c_ZZ H mk nn K tl cn cs tp rd ms B) (hg : g = sw_rv H (120 + 54 * m) 5) (hW : c_W Z mm (nn + 2) K tl cn cs) (hgp : c_gp Z mm g (w_G0 m nn)) (i1 : ∀ f, sw_iv Z (120 + 54 * m) f = if f = 3 then 1 else if f = 6 then -1 else if f = 9 then 0 else if f = 11 then 0 else sw_iv H (120 + 54 * m) f) (r1 : ∀ f, sw_rv Z (120 + 54 * m) f = if f = 5 then sw_rv H (120 + 54 * m) 4 else if f = 4 then g else sw_rv H (120 + 54 * m) f) (c : c_ch A H Z) (hA : ∀ a ∈ A, a = 14 ∨ a = 15 ∨ a = 16 ∨ a = 1422 ∨ a = 120 + 54 * m ∨ (g ≤ a ∧ a ≤ g + 22)) (hl : w_le mk mm) : c_ZZ Z mm (nn + 2) K tl cn cs tp rd ms (v_up B m (v_cr m nn (B m))) := by
  have h' := h
  obtain ⟨⟨hW0, hX, hMS, hKS⟩, ⟨y1, y2, y3, y4, y5⟩, ⟨t1, t2, t3, t4⟩, h4, h5, h6, h7⟩ := h'
  have fl := hW0.1.2.2.2.1
  have ad := hW0.1.2.2.2.2
  have gpl : c_pl g := by rw [hg]; exact (c_PL_5 h6 hm).1
  have gb := c_pl_b gpl
  have g119 := c_pl_119 gpl
  have gm : ∀ j, j < 24 → 120 + 54 * j < g ∨ g + 22 < 120 + 54 * j := fun j hj => c_pl_m gpl hj
  have ga : ∀ j k, j < 24 → 47 ≤ k → k < 54 → 120 + 54 * j + k < g ∨ g + 22 < 120 + 54 * j + k := fun j k hj h1 h2 => c_pl_a gpl hj h1 h2
  have gd : ∀ k, k < 49 → k ≠ 2 * m + 2 → g + 22 < c_plc H k ∨ c_plc H k + 22 < g := fun k hk hn => c_pl_d gpl (h6.1 k hk).1 (fun e => by
    rw [hg, ← c_plc_5] at e
    exact hn (h6.2 _ _ (by omega) hk e).symm)
  have low : ∀ a, 16 < a → a < 96 → a ∉ A := fun a b1 b2 cc => by have := hA a cc; omega
  have hi4 : ∀ a, 1416 ≤ a → a ≠ 1422 → a ∉ A := fun a b1 b2 cc => by have := hA a cc; omega
  have nj : ∀ j, j < 24 → j ≠ m → 120 + 54 * j ∉ A := fun j hj hn cc => by
    have := hA _ cc
    have := gm j hj
    omega
  have na : ∀ j k, j < 24 → 47 ≤ k → k < 54 → 120 + 54 * j + k ∉ A := fun j k hj k1 k2 cc => by
    have := hA _ cc
    have := ga j k hj k1 k2
    omega
  have vv : ∀ a, c_fix a → a ∉ A → (∀ f, sw_iv Z a f = sw_iv H a f) ∧ ∀ f, sw_rv Z a f = sw_rv H a f := fun a ha hn => c_fx_iv fl ad c ha hn
  have eL : (fun j => v_La (v_up B m (v_cr m nn (B m)) j)) = fun j => v_La (B j) := by
    funext j
    by_cases cj : j = m
    · subst cj
      have : v_up B j (v_cr j nn (B j)) j = v_cr j nn (B j) := if_pos rfl
      rw [this, hno]
      rfl
    · have : v_up B m (v_cr m nn (B m)) j = B j := if_neg cj
      rw [this]
  have zm := h7 m hm
  refine c_ZZ_up h ⟨hW, c_X_ch hW0.1 hX c hW.1 hl (fun a ha => by have := hA a ha; omega), c_MS_ch hMS fl ad c (fun cc => by have := hA _ cc; omega) (fun j hj cc f hf => ?_) hl, ?_⟩ ⟨c_Ch_ch y1 fl ad c (low _ (by omega) (by omega)) (low _ (by omega) (by omega)), c_Pa_ch y2 fl ad c (fun cc => absurd cc (low _ (by omega) (by omega))), by rw [(vv 91 (by unfold c_fix; omega) (low _ (by omega) (by omega))).1]; exact y3, c_Ta_ch y4 fl ad c (fun cc => absurd cc (low _ (by omega) (by omega))), c_Re_ch y5 fl ad c (fun a ha => by have := hA a ha; omega)⟩ (c_Out_ch h4 fl ad c (hi4 _ (by omega) (by omega)) (hi4 _ (by omega) (by omega))) c hl (w_msl_refl _) (by rw [(vv 18 (by unfold c_fix; omega) (low _ (by omega) (by omega))).2]; exact t3) (v_sw m) (fun k hk => ⟨v_sw_lt hm hk, ?_⟩) (fun j k _ _ e => v_sw_inj e) (fun k hk hk0 => ?_) (fun a ha j hj cj => ?_) (fun a ha k hk hk0 => ?_) ⟨Or.inl ⟨by rw [i1]; rfl, trivial⟩, fun _ => ?_, ?_, ?_, ?_, ?_⟩
  · by_cases cj : j = m
    · subst cj
      rw [i1, if_neg (by omega), if_neg (by omega), if_neg (by omega), if_neg (by omega)]
    · exact absurd cc (nj j hj cj)
  · rw [eL]
    refine c_KS_ch hW0.1 hX hKS c hl (hi4 _ (by omega) (by omega)) (fun j hj => ?_) (fun i hi cc => ?_)
    · have k7 : c_ka H j 7 ∉ A := fun cc => by
        rcases (hKS.1 j hj).1.2.2.2.2.2.1 with e | e
        · rw [e] at cc; exact na j 47 hj (by omega) (by omega) cc
        · have := hA _ cc; omega
      have k8 : c_ka H j 8 ∉ A := fun cc => by
        rcases (hKS.1 j hj).1.2.2.2.2.2.2 with e | e
        · rw [e] at cc; exact na j 48 hj (by omega) (by omega) cc
        · have := hA _ cc; omega
      by_cases cj : j = m
      · subst cj
        refine ⟨?_, ?_, ?_, k7, k8⟩
        · rw [i1, if_neg (by omega), if_neg (by omega), if_pos rfl, (hKS.1 j hj).2.1]
          show (0 : Int) = ((v_La (B j)).length : Int)
          rw [hno]
          rfl
        · unfold c_ka
          rw [r1, if_neg (by omega), if_neg (by omega)]
        · unfold c_ka
          rw [r1, if_neg (by omega), if_neg (by omega)]
      · have w := vv (120 + 54 * j) (by unfold c_fix; omega) (nj j hj cj)
        exact ⟨w.1 9, w.2 7, w.2 8, k7, k8⟩
    · obtain ⟨l, hl⟩ : ∃ l, ms[i]? = some l := ⟨ms[i]'hi, List.getElem?_eq_getElem hi⟩
      obtain ⟨g1, _⟩ := hX.2.2.2.2.2 i l hl
      have := hA _ cc
      omega
  · by_cases k1 : k = 2 * m + 1
    · have e : v_sw m k = 2 * m + 2 := if_pos k1
      rw [e, k1, c_plc_4, c_plc_5, r1, if_neg (by omega), if_pos rfl, hg]
    · by_cases k2 : k = 2 * m + 2
      · have e : v_sw m k = 2 * m + 1 := by unfold v_sw; rw [if_neg k1, if_pos k2]
        rw [e, k2, c_plc_4, c_plc_5, r1, if_pos rfl]
      · have e : v_sw m k = k := by unfold v_sw; rw [if_neg k1, if_neg k2]
        rw [e]
        unfold c_plc
        by_cases k0 : k = 0
        · rw [if_pos k0, if_pos k0]
          exact (vv 94 (by unfold c_fix; omega) (low _ (by omega) (by omega))).2 6
        · rw [if_neg k0, if_neg k0]
          rw [(vv (120 + 54 * ((k - 1) / 2)) (by unfold c_fix; omega) (nj _ (by omega) (fun q => by omega))).2]
          by_cases kp : k % 2 = 1
          · rw [if_pos kp, if_pos kp]
          · rw [if_neg kp, if_neg kp]
            exact (vv (120 + 54 * ((k - 2) / 2)) (by unfold c_fix; omega) (nj _ (by omega) (fun q => by omega))).2 5
  · by_cases k2 : k = 2 * m + 2
    · rw [k2, c_plc_5, ← hg]
      exact hgp.1
    · have d := gd k hk k2
      have b := c_pl_b (h6.1 k hk).1
      have pm := c_pl_m (h6.1 k hk).1 hm
      exact c_gs_ch (h6.1 k hk).2 fl ad c (fun a ha hn => by have := hA a ha; omega) (fun cc => by have := hA _ cc; omega)
  · have a1 := hA a ha
    have a2 := gm j hj
    have a3 := ga j 49 hj (by omega) (by omega)
    have a4 := ga j 53 hj (by omega) (by omega)
    refine ⟨fun e => nj j hj cj (e ▸ ha), ?_⟩
    by_cases q : a < 120 + 54 * j + 49 ∨ 120 + 54 * j + 53 < a
    · exact q
    · have a5 := na j (a - (120 + 54 * j)) hj (by omega) (by omega)
      rw [show 120 + 54 * j + (a - (120 + 54 * j)) = a by omega] at a5
      exact absurd ha a5
  · have a1 := hA a ha
    have d := gd k hk (by omega)
    have b := c_pl_b (h6.1 k hk).1
    have pm := c_pl_m (h6.1 k hk).1 hm
    omega
  · show c_gp Z mm (sw_rv Z (120 + 54 * m) 4) (w_G0 m nn)
    rw [r1, if_neg (by omega), if_pos rfl]
    exact hgp
  · show sw_iv Z (120 + 54 * m) 6 = -1
    rw [i1, if_neg (by omega), if_pos rfl]
  · exact c_ma_ch zm.2.2.2.1 hm fl ad c (fun _ f hf => by rw [r1, if_neg (by omega), if_neg (by omega)])
  · show c_up Z mm m []
    exact ⟨by rw [i1, if_neg (by omega), if_neg (by omega), if_neg (by omega), if_pos rfl]; rfl, by simp, fun i h v hi => by simp at hi⟩
  · show c_pk Z mm ms m (v_Lk (B m))
    obtain ⟨p1, p2, p3⟩ := zm.2.2.2.2.2
    refine ⟨by rw [i1, if_neg (by omega), if_neg (by omega), if_neg (by omega), if_neg (by omega)]; exact p1, p2, fun i k u v hi => ?_⟩
    obtain ⟨z1, z2, z3, p, z4, z5⟩ := p3 i k u v hi
    rw [(vv (120 + 54 * m + 50) (by unfold c_fix; omega) (na m 50 hm (by omega) (by omega))).1, (vv (120 + 54 * m + 51) (by unfold c_fix; omega) (na m 51 hm (by omega) (by omega))).1, (vv (120 + 54 * m + 52) (by unfold c_fix; omega) (na m 52 hm (by omega) (by omega))).1, (vv (120 + 54 * m + 53) (by unfold c_fix; omega) (na m 53 hm (by omega) (by omega))).1]
    exact ⟨z1, w_le_at hl z2, w_le_at hl z3, p, z4, w_le_at hl z5⟩
theorem x_create (lm : c_lm cn cs N U M) (hno : ∀ m, m < 24 → ¬ v_in (B m) → v_La (B m) = []) (bd : ∀ m : Nat, x = m → m < 24 → ¬ v_in (B m) → c_bl (w_tls mk (w_crL m nn)) tl N U M) (rm : sw_n H < sxlim.1 ∧ sw_s H + 6 ≤ sxlim.2) (h : c_ZZ H mk nn K tl cn cs tp rd ms B) (q1 : ¬ (0 ≤ x ∧ x < 24) → c_ZZ (sw_nw H 112 0 6) mk nn K tl (cn + 1) (cs + 6) tp rd ms B → c_ch [] H (sw_nw H 112 0 6) → E (sw_n H + 2) (sw_nw H 112 0 6)) (q2 : ∀ m : Nat, x = m → m < 24 → v_in (B m) → c_ZZ (sw_nw H 120 0 6) mk nn K tl (cn + 1) (cs + 6) tp rd ms B → c_ch [] H (sw_nw H 120 0 6) → E (sw_n H + 2) (sw_nw H 120 0 6)) (q : ∀ (m : Nat) (A : List Nat) X, x = m → m < 24 → ¬ v_in (B m) → c_ZZ X (w_tls mk (w_crL m nn)) (nn + 2) K tl cn cs tp rd ms (v_up B m (v_cr m nn (B m))) → c_ch A H X → (∀ a ∈ A, 13 < a ∧ a < 1423) → Q X) : wm_65 2 x H Q E := by
  have zm := h.2.2.2.2.2.2
  have pl := h.2.2.2.2.2.1
  have no : ∀ m, m < 24 → sw_iv H (120 + 54 * m) 3 = 0 → ¬ v_in (B m) := fun m hm h0 => by
    rcases (zm m hm).1 with ⟨a, _⟩ | ⟨_, b⟩
    · rw [h0] at a; exact absurd a (by decide)
    · exact b
  have yes : ∀ m, m < 24 → sw_iv H (120 + 54 * m) 3 = 1 → v_in (B m) := fun m hm h0 => by
    rcases (zm m hm).1 with ⟨_, b⟩ | ⟨a, _⟩
    · exact b
    · rw [h0] at a; exact absurd a (by decide)
  have a1 : ∀ m, m < 24 → sw_iv H (120 + 54 * m) 3 = 0 ∨ sw_iv H (120 + 54 * m) 3 = 1 := fun m hm => by
    rcases (zm m hm).1 with ⟨a, _⟩ | ⟨a, _⟩
    · exact Or.inr a
    · exact Or.inl a
  refine c_create lm h.1.1 h.1.2.1.1 h.1.2.2.1 h.2.2.1.2.2.2 a1 (fun m hm => ⟨(c_PL_5 pl hm).1, (c_PL_5 pl hm).2, (c_PL_4 pl hm).2.2.2.1, (c_PL_4 pl hm).1⟩) rm (fun m hx hm h0 => bd m hx hm (no m hm h0)) (fun c => q1 c (c_ZZ_throw h 112) (c_I_throw (c_ZZ_I h) 112).2) (fun m hx hm h1 => q2 m hx hm (yes m hm h1) (c_ZZ_throw h 120) (c_I_throw (c_ZZ_I h) 120).2) (fun m g X hx hm h0 hg hW hgp i1 r1 c => ?_)
  have gb : 96 ≤ g ∧ g + 22 ≤ 1415 := by rw [hg]; exact c_pl_b (c_PL_5 pl hm).1
  have hA : ∀ a ∈ [14, 15, 16, 1422, 120 + 54 * m, g, g + 1, g + 2, g + 3, g + 4, g + 6, g + 22], a = 14 ∨ a = 15 ∨ a = 16 ∨ a = 1422 ∨ a = 120 + 54 * m ∨ (g ≤ a ∧ a ≤ g + 22) := fun a ha => by
    simp only [List.mem_cons, List.not_mem_nil, or_false] at ha
    omega
  exact q m _ X hx hm (no m hm h0) (v_cr_c hm (hno m hm (no m hm h0)) h hg hW hgp i1 r1 c hA (w_tls_le (w_crL m nn) mk)) c (fun a ha => by have := hA a ha; omega)
end
end
