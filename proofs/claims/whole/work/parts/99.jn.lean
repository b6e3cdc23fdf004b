/-! ===== the class: propose, by the whole state ===== -/
noncomputable section
section
variable {H Z : sw_H} {nn nm m : Nat} {K K' : Wt → Prop} {tl tp mk mm : List Wt} {rd : Nat → Int} {ms ms' : List (List Wt)} {cn cs cn' cs' x kd of N U M : Int} {A : List Nat} {B : Nat → v_M} {La : List (Wt × Nat)} {Ul : List (Wt × Wt)} {P : Int → sw_H → Prop} {E : Nat → sw_H → Prop}
theorem c_ka_78 (hKS : c_KS H mk ms (fun j => v_La (B j))) (hm : m < 24) : (c_ka H m 7 = 120 + 54 * m + 47 ∨ 1491 < c_ka H m 7) ∧ (c_ka H m 8 = 120 + 54 * m + 48 ∨ 1491 < c_ka H m 8) := by
  have := (hKS.1 m hm).1.2.2.2.2.2
  exact ⟨by omega, by omega⟩
theorem v_pr_c (hm : m < 24) (h : c_ZZ H mk nn K tl cn cs tp rd ms B) (hBS : c_BS Z mm nm K' tl cn' cs' tp rd ms' (w_upd (fun j => v_La (B j)) m La)) (hup : c_up Z mm m Ul) (i1 : ∀ f, f ≠ 9 → f ≠ 11 → sw_iv Z (120 + 54 * m) f = sw_iv H (120 + 54 * m) f) (r1 : ∀ f, f ≠ 7 → f ≠ 8 → sw_rv Z (120 + 54 * m) f = sw_rv H (120 + 54 * m) f) (hOut : c_Out Z) (hRe : c_Re Z) (r18 : c_r18 Z) (c : c_ch A H Z) (hA : ∀ a ∈ A, a = 14 ∨ a = 15 ∨ (18 ≤ a ∧ a ≤ 43) ∨ (1420 ≤ a ∧ a ≤ 1422) ∨ a = 2 ∨ a = 1416 ∨ a = 120 + 54 * m ∨ (120 + 54 * m + 47 ≤ a ∧ a ≤ 120 + 54 * m + 49) ∨ 1491 < a) (hl : w_le mk mm) (hs : w_msl ms ms') : c_ZZ Z mm nm K' tl cn' cs' tp rd ms' (v_up B m (v_ok2 (B m) La Ul)) := by
  have h' := h
  obtain ⟨⟨hW0, hX, hMS, hKS⟩, ⟨y1, y2, y3, y4, y5⟩, ⟨t1, t2, t3, t4⟩, h4, h5, h6, h7⟩ := h'
  have fl := hW0.1.2.2.2.1
  have ad := hW0.1.2.2.2.2
  have low : ∀ a, 43 < a → a < 120 → a ∉ A := fun a b1 b2 cc => by have := hA a cc; omega
  have nj : ∀ j, j < 24 → j ≠ m → 120 + 54 * j ∉ A := fun j hj hn cc => by
    have := hA _ cc
    omega
  have vv : ∀ a, c_fix a → a ∉ A → (∀ f, sw_iv Z a f = sw_iv H a f) ∧ ∀ f, sw_rv Z a f = sw_rv H a f := fun a ha hn => c_fx_iv fl ad c ha hn
  have rm : ∀ j, j < 24 → ∀ f, f ≠ 7 → f ≠ 8 → sw_rv Z (120 + 54 * j) f = sw_rv H (120 + 54 * j) f := fun j hj f f7 f8 => by
    by_cases cj : j = m
    · rw [cj]; exact r1 f f7 f8
    · exact (vv _ (by unfold c_fix; omega) (nj j hj cj)).2 f
  have out : ∀ g, c_pl g → ∀ a ∈ A, a < g ∨ g + 22 < a := fun g hg a ha => by
    have a1 := hA a ha
    have b := c_pl_b hg
    have pm := c_pl_m hg hm
    by_cases q : 120 + 54 * m + 47 ≤ a ∧ a ≤ 120 + 54 * m + 49
    · have pa := c_pl_a (k := a - (120 + 54 * m)) hg hm (by omega) (by omega)
      omega
    · omega
  have eL : (fun j => v_La (v_up B m (v_ok2 (B m) La Ul) j)) = w_upd (fun j => v_La (B j)) m La := by
    funext j
    unfold w_upd
    by_cases cj : j = m
    · subst cj
      have : v_up B j (v_ok2 (B j) La Ul) j = v_ok2 (B j) La Ul := if_pos rfl
      rw [this, if_pos rfl]
      rfl
    · have : v_up B m (v_ok2 (B m) La Ul) j = B j := if_neg cj
      rw [this, if_neg cj]
  obtain ⟨z1, z2, z3, z4, z5, z6⟩ := h7 m hm
  have p4 := (c_PL_4 h6 hm).1
  have p5 := (c_PL_5 h6 hm).1
  refine c_ZZ_up h (by rw [eL]; exact hBS) ⟨c_Ch_ch y1 fl ad c (low _ (by omega) (by omega)) (low _ (by omega) (by omega)), c_Pa_ch y2 fl ad c (fun cc => absurd cc (low _ (by omega) (by omega))), by rw [(vv 91 (by unfold c_fix; omega) (low _ (by omega) (by omega))).1]; exact y3, c_Ta_ch y4 fl ad c (fun cc => absurd cc (low _ (by omega) (by omega))), hRe⟩ hOut c hl hs r18.2 id (fun k hk => ⟨hk, ?_⟩) (fun j k _ _ e => e) (fun k hk hk0 => ?_) (fun a ha j hj cj => ?_) (fun a ha k hk hk0 => out _ (h6.1 k hk).1 a ha) ⟨?_, fun hin => ?_, ?_, ?_, hup, ?_⟩
  · show c_plc Z k = c_plc H k
    unfold c_plc
    by_cases k0 : k = 0
    · rw [if_pos k0, if_pos k0]
      exact (vv 94 (by unfold c_fix; omega) (low _ (by omega) (by omega))).2 6
    · rw [if_neg k0, if_neg k0, rm _ (by omega) _ (by omega) (by omega), rm _ (by omega) _ (by omega) (by omega)]
  · have o := out _ (h6.1 k hk).1
    exact c_gs_ch (h6.1 k hk).2 fl ad c (fun a ha hn => by have := o a ha; omega) (fun cc => by have := o _ cc; omega)
  · have a1 := hA a ha
    refine ⟨fun e => nj j hj cj (e ▸ ha), ?_⟩
    omega
  · rw [i1 3 (by omega) (by omega)]; exact z1
  · show c_gp Z mm (sw_rv Z (120 + 54 * m) 4) (v_G (B m))
    rw [r1 4 (by omega) (by omega)]
    exact c_gp_ch (z2 hin) fl ad c (fun a ha => out _ p4 a ha) hl
  · show c_pend Z mm m ms' (sw_rv Z (120 + 54 * m) 5) (v_pd (B m))
    obtain ⟨o, eo⟩ : ∃ o, v_pd (B m) = o := ⟨_, rfl⟩
    rw [eo] at z3 ⊢
    cases o with
    | none => exact (i1 6 (by omega) (by omega)).trans z3
    | some pp =>
      obtain ⟨lp, G'⟩ := pp
      obtain ⟨⟨pn, q1, q2⟩, q3⟩ := z3
      exact ⟨⟨pn, (i1 6 (by omega) (by omega)).trans q1, hs pn lp q2⟩, by rw [r1 5 (by omega) (by omega)]; exact c_gp_ch q3 fl ad c (fun a ha => out _ p5 a ha) hl⟩
  · exact c_ma_ch z4 hm fl ad c (fun _ f hf => r1 f (by omega) (by omega))
  · show c_pk Z mm ms' m (v_Lk (B m))
    obtain ⟨p1, p2, p3⟩ := z6
    have na : ∀ k, 50 ≤ k → k ≤ 53 → 120 + 54 * m + k ∉ A := fun k k1 k2 cc => by have := hA _ cc; omega
    refine ⟨by rw [i1 16 (by omega) (by omega)]; exact p1, p2, fun i k u v hi => ?_⟩
    obtain ⟨w1, w2, w3, p, w4, w5⟩ := p3 i k u v hi
    rw [(vv (120 + 54 * m + 50) (by unfold c_fix; omega) (na 50 (by omega) (by omega))).1, (vv (120 + 54 * m + 51) (by unfold c_fix; omega) (na 51 (by omega) (by omega))).1, (vv (120 + 54 * m + 52) (by unfold c_fix; omega) (na 52 (by omega) (by omega))).1, (vv (120 + 54 * m + 53) (by unfold c_fix; omega) (na 53 (by omega) (by omega))).1]
    exact ⟨w1, w_le_at hl w2, w_le_at hl w3, p, hs k p w4, w_le_at hl w5⟩
/-- reading alone -/
theorem c_ZZ_rd (h : c_ZZ H mk nn K tl cn cs tp rd ms B) (hBS : c_BS Z mk nn K tl cn' cs' tp rd ms (fun j => v_La (B j))) (hRe : c_Re Z) (r18 : c_r18 Z) (c : c_ch ([14, 15] ++ c_Bk) H Z) : c_ZZ Z mk nn K tl cn' cs' tp rd ms B := by
  have fl := h.1.1.1.2.2.2.1
  have ad := h.1.1.1.2.2.2.2
  obtain ⟨y1, y2, y3, y4, y5⟩ := h.2.1
  have hA : ∀ a ∈ [14, 15] ++ c_Bk, a = 14 ∨ a = 15 ∨ (18 ≤ a ∧ a ≤ 43) := fun a ha => by
    rw [List.mem_append] at ha
    rcases ha with ha | ha
    · simp at ha; omega
    · have := c_Bk_b ha; omega
  have no : ∀ a, 43 < a → a ∉ [14, 15] ++ c_Bk := fun a b cc => by have := hA a cc; omega
  exact c_ZZ_ch h hBS.1 c (w_le_refl _) ⟨c_Ch_ch y1 fl ad c (no _ (by omega)) (no _ (by omega)), c_Pa_ch y2 fl ad c (fun cc => absurd cc (no _ (by omega))), by rw [(c_fx_iv fl ad c (q := 91) (by unfold c_fix; omega) (no _ (by omega))).1]; exact y3, c_Ta_ch y4 fl ad c (fun cc => absurd cc (no _ (by omega))), hRe⟩ (c_Out_ch h.2.2.2.1 fl ad c (no _ (by omega)) (no _ (by omega))) ((c_fx_iv fl ad c (q := 94) (by unfold c_fix; omega) (no _ (by omega))).2 6) r18.2 (fun a ha => c_Bk_hl ha)
/-- the room of the kept proposals -/
def c_cp (H : sw_H) : Int := ((List.range 24).map (fun m => (sw_ln H (c_ka H m 8) : Int))).sum
theorem c_cp_aux (f g : Nat → Int) (m d : Nat) : ∀ n, (∀ j, j < n → j ≠ m → g j = f j) → g m = f m + d → ((List.range n).map g).sum = ((List.range n).map f).sum + (if m < n then (d : Int) else 0)
  | 0, _, _ => by simp
  | n + 1, h, hd => by
    have ih := c_cp_aux f g m d n (fun j hj => h j (by omega)) hd
    rw [List.range_succ, List.map_append, List.map_append, List.sum_append, List.sum_append, ih]
    simp only [List.map_cons, List.map_nil, List.sum_cons, List.sum_nil]
    by_cases c : n = m
    · subst c
      rw [hd, if_neg (by omega), if_pos (by omega)]
      omega
    · rw [h n (by omega) c]
      by_cases c2 : m < n
      · rw [if_pos c2, if_pos (by omega)]; omega
      · rw [if_neg c2, if_neg (by omega)]; omega
theorem c_cp_up (hm : m < 24) (h : ∀ j, j < 24 → j ≠ m → sw_ln Z (c_ka Z j 8) = sw_ln H (c_ka H j 8)) {d : Nat} (hd : sw_ln Z (c_ka Z m 8) = sw_ln H (c_ka H m 8) + d) : c_cp Z = c_cp H + d := by
  have := c_cp_aux (fun m => (sw_ln H (c_ka H m 8) : Int)) (fun m => (sw_ln Z (c_ka Z m 8) : Int)) m d 24 (fun j hj hn => by show ((sw_ln Z (c_ka Z j 8) : Nat) : Int) = _; rw [h j hj hn]) (by show ((sw_ln Z (c_ka Z m 8) : Nat) : Int) = _; rw [hd]; simp)
  rw [if_pos hm] at this
  exact this
theorem c_cp_eq (h : ∀ j, j < 24 → sw_ln Z (c_ka Z j 8) = sw_ln H (c_ka H j 8)) : c_cp Z = c_cp H := by
  have := c_cp_up (m := 0) (d := 0) (by decide) (fun j hj _ => h j hj) (h 0 (by decide))
  simpa using this
/-- a call that leaves a member's arrays -/
theorem c_cp_ln (hKS : c_KS H mk ms (fun j => v_La (B j))) (c : c_ch A H Z) {j : Nat} (hj : j < 24) (hr : sw_rv Z (120 + 54 * j) 8 = sw_rv H (120 + 54 * j) 8) : sw_ln Z (c_ka Z j 8) = sw_ln H (c_ka H j 8) := by
  have kp := (hKS.1 j hj).1
  have e : c_ka Z j 8 = c_ka H j 8 := hr
  rw [e]
  exact (c.1.2 _ (by rw [kp.1.2]; decide)).2
theorem c_cp_ch (h : c_ZZ H mk nn K tl cn cs tp rd ms B) (c : c_ch A H Z) (hr : ∀ j, j < 24 → 120 + 54 * j ∈ A → sw_rv Z (120 + 54 * j) 8 = sw_rv H (120 + 54 * j) 8) : c_cp Z = c_cp H := by
  have fl := h.1.1.1.2.2.2.1
  have ad := h.1.1.1.2.2.2.2
  refine c_cp_eq (fun j hj => c_cp_ln h.1.2.2.2 c hj ?_)
  by_cases cc : 120 + 54 * j ∈ A
  · exact hr j hj cc
  · exact (c_fx_iv fl ad c (q := 120 + 54 * j) (by unfold c_fix; omega) cc).2 8
theorem c_cp_b_aux (f : Nat → Int) : ∀ n : Nat, (∀ j, j < n → 0 ≤ f j ∧ f j ≤ 1000) → 0 ≤ ((List.range n).map f).sum ∧ ((List.range n).map f).sum ≤ 1000 * (n : Int)
  | 0, _ => by simp
  | n + 1, h => by
    have ih := c_cp_b_aux f n (fun j hj => h j (by omega))
    have hn := h n (by omega)
    rw [List.range_succ, List.map_append, List.sum_append]
    simp only [List.map_cons, List.map_nil, List.sum_cons, List.sum_nil]
    omega
theorem c_cp_b (h : c_ZZ H mk nn K tl cn cs tp rd ms B) : 0 ≤ c_cp H ∧ c_cp H ≤ 24000 := by
  have := c_cp_b_aux (fun m => (sw_ln H (c_ka H m 8) : Int)) 24 (fun j hj => by
    have := (h.1.2.2.2.1 j hj).1.2.2.2.1
    show 0 ≤ ((sw_ln H (c_ka H j 8) : Nat) : Int) ∧ ((sw_ln H (c_ka H j 8) : Nat) : Int) ≤ 1000
    omega)
  exact ⟨this.1, by have := this.2; exact this⟩
theorem c_pA_b (hKS : c_KS H mk ms (fun j => v_La (B j))) (hm : m < 24) : ∀ a ∈ c_pA m H, a = 14 ∨ a = 15 ∨ (18 ≤ a ∧ a ≤ 43) ∨ (1420 ≤ a ∧ a ≤ 1422) ∨ a = 2 ∨ a = 1416 ∨ a = 120 + 54 * m ∨ (120 + 54 * m + 47 ≤ a ∧ a ≤ 120 + 54 * m + 49) ∨ 1491 < a := fun a ha => by
  have k := c_ka_78 hKS hm
  unfold c_pA at ha
  simp only [List.mem_append, List.mem_cons, List.not_mem_nil, or_false] at ha
  rcases ha with (ha | ha) | ha
  · omega
  · have := c_Bk_b ha; omega
  · omega
theorem x_propose (lm : c_lm (cn + 4) (cs + 4000) N U M) (h0 : 0 ≤ cn ∧ 0 ≤ cs) (h : c_ZZ H mk nn K tl cn cs tp rd ms B) (hU : ∀ m, m < 24 → (v_U (B m)).length ≤ (v_La (B m)).length) (rm : sw_n H < sxlim.1 ∧ sw_s H + 6 ≤ sxlim.2) (bm : c_bl mk tl N U M) (bd : ∀ (m : Nat) l, x = m → m < 24 → v_in (B m) → ms.length < 300 → (v_La (B m)).length < 20 → (kd = 1 → ms[of.toNat]? = some l) → c_bl (w_tls mk (w_prA m nn (v_G (B m)) kd of l)) tl N U M)
    (q1 : ∀ X, w_prN x kd of ms.length → c_ZZ X mk nn K tl (cn + 1) (cs + 6) tp rd ms B → c_ch [] H X → X = sw_nw H 112 0 6 → E (sw_n H + 2) X)
    (q2 : ∀ l X, ¬ w_prN x kd of ms.length → kd = 1 → ms[of.toNat]? = some l → ¬ w_rp K l → c_ZZ X mk nn K tl (cn + 1) (cs + 6) tp rd ms B → c_ch ([14, 15] ++ c_Bk) H X → (∃ Z, X = sw_nw Z 128 0 6 ∧ sw_n Z = sw_n H) → E (sw_n H + 2) X)
    (q3 : ∀ (m : Nat) X, ¬ w_prN x kd of ms.length → (kd = 1 → ∃ l, ms[of.toNat]? = some l ∧ w_rp K l) → x = m → m < 24 → (ms.length = 300 ∨ ¬ v_in (B m) ∨ 20 ≤ (v_La (B m)).length) → c_ZZ X mk nn K tl (cn + 1) (cs + 6) tp rd ms B → c_ch ([14, 15] ++ c_Bk) H X → (∃ Z, X = sw_nw Z 120 0 6 ∧ sw_n Z = sw_n H) → E (sw_n H + 2) X)
    (q : ∀ (m : Nat) l X cn' cs', ¬ w_prN x kd of ms.length → (kd = 1 → ms[of.toNat]? = some l ∧ w_rp K l) → x = m → m < 24 → ms.length < 300 → v_in (B m) → (v_La (B m)).length < 20 → cn' ≤ cn + 4 → cs' ≤ cs + 1200 + 4 * (c_cp X - c_cp H) → c_ZZ X (w_tls mk (w_prA m nn (v_G (B m)) kd of l)) (if kd = 2 then nn + 1 else nn) (w_lrs K (v_prM m nn (B m) kd of l)) tl cn' cs' tp rd (ms ++ [v_prM m nn (B m) kd of l]) (v_up B m (v_pr m nn ms.length (B m) kd of l)) → c_ch (c_pA m H) H X → P ms.length X) : wm_82 2 x kd of H P E := by
  have zm := h.2.2.2.2.2.2
  have pl := h.2.2.2.2.2.1
  have hKS := h.1.2.2.2
  have r18 : c_r18 H := ⟨h.2.2.1.2.1, h.2.2.1.2.2.1⟩
  have yes : ∀ m, m < 24 → sw_iv H (120 + 54 * m) 3 = 1 → v_in (B m) := fun m hm h0 => by
    rcases (zm m hm).1 with ⟨_, b⟩ | ⟨a, _⟩
    · exact b
    · rw [h0] at a; exact absurd a (by decide)
  have no : ∀ m, m < 24 → sw_iv H (120 + 54 * m) 3 = 0 → ¬ v_in (B m) := fun m hm h0 => by
    rcases (zm m hm).1 with ⟨a, _⟩ | ⟨_, b⟩
    · rw [h0] at a; exact absurd a (by decide)
    · exact b
  refine c_propose (Ga := fun m => v_G (B m)) (La := fun m => v_La (B m)) (Ua := fun m => v_U (B m)) lm h0 h.1 h.2.2.1.2.2.2 h.2.2.2.1 h.2.1.2.2.2.2 r18 (fun m hm => (zm m hm).2.2.2.1) (fun m hm => ⟨(zm m hm).2.2.2.2.1, hU m hm⟩) (fun m hm => ?_) rm bm (fun m l hx hm h1 => bd m l hx hm (yes m hm h1)) (fun c => q1 _ c (c_ZZ_throw h 112) (c_I_throw (c_ZZ_I h) 112).2 rfl) (fun l X c1 c2 c3 c4 BX ReX r18X cX nX sX => ?_) (fun m X c1 c2 hx hm c3 BX ReX r18X cX nX sX => ?_) (fun m l X cn' cs' c1 c2 hx hm h3 h1 h20 hcc BX uX oX ReX r18X iX rX cX => ?_)
  · rcases (zm m hm).1 with ⟨a, b⟩ | ⟨a, b⟩
    · exact Or.inr ⟨a, (c_PL_4 pl hm).1, (zm m hm).2.1 b⟩
    · exact Or.inl a
  · have zX := c_ZZ_rd h BX ReX r18X cX
    have t := (c_I_throw (c_ZZ_I zX) 128).2
    rw [nX]
    exact q2 l _ c1 c2 c3 c4 (c_ZZ_throw zX 128) (c_ch_sub (c_ch_trans cX t) (by simp)) ⟨X, rfl, nX⟩
  · have zX := c_ZZ_rd h BX ReX r18X cX
    have t := (c_I_throw (c_ZZ_I zX) 120).2
    rw [nX]
    exact q3 m _ c1 c2 hx hm (by
      rcases c3 with c | c | c
      · exact Or.inl c
      · exact Or.inr (Or.inl (no m hm c))
      · exact Or.inr (Or.inr c)) (c_ZZ_throw zX 120) (c_ch_sub (c_ch_trans cX t) (by simp)) ⟨X, rfl, nX⟩
  · have hA := c_pA_b hKS hm
    have zX := v_pr_c hm h BX uX iX rX oX ReX r18X cX hA (w_tls_le (w_prA m nn (v_G (B m)) kd of l) mk) (w_msl_app _ _)
    have oth : ∀ j, j < 24 → j ≠ m → sw_ln X (c_ka X j 8) = sw_ln H (c_ka H j 8) := fun j hj hn => by
      refine c_cp_ln hKS cX hj ((c_fx_iv h.1.1.1.2.2.2.1 h.1.1.1.2.2.2.2 cX (q := 120 + 54 * j) (by unfold c_fix; omega) (fun cc => ?_)).2 8)
      have := hA _ cc
      omega
    refine q m l X cn' cs' c1 c2 hx hm h3 (yes m hm h1) h20 (by omega) ?_ zX cX
    rcases hcc with ⟨_, e2, e3⟩ | ⟨_, e2, e3, _⟩
    · have := c_cp_up (d := 0) hm oth (by rw [e3]; simp)
      omega
    · have := c_cp_up (d := sw_ln H (c_ka H m 8)) hm oth (by rw [e3]; omega)
      omega
end
end
