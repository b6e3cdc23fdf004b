/-! ===== the class: offer, by the whole state ===== -/
noncomputable section
section
variable {H Z : sw_H} {nn nm m : Nat} {K K' : Wt → Prop} {tl tp mk mm : List Wt} {rd : Nat → Int} {ms ms' : List (List Wt)} {cn cs cn' cs' x N U M : Int} {A : List Nat} {B : Nat → v_M} {Lk : List (Nat × Wt × Wt)} {P : Int → sw_H → Prop} {E : Nat → sw_H → Prop}
theorem v_of_c (hm : m < 24) (h : c_ZZ H mk nn K tl cn cs tp rd ms B) (hW : c_W Z mm nm K' tl cn' cs') (hXx : c_X Z mm tp rd ms') (hpk : c_pk Z mm ms' m Lk) (i1 : ∀ f, f ≠ 16 → sw_iv Z (120 + 54 * m) f = sw_iv H (120 + 54 * m) f) (r1 : ∀ f, sw_rv Z (120 + 54 * m) f = sw_rv H (120 + 54 * m) f) (hOut : c_Out Z) (hK : c_KS Z mm ms' (fun j => v_La (B j))) (c : c_ch A H Z) (hA : ∀ a ∈ A, a = 14 ∨ a = 15 ∨ (1420 ≤ a ∧ a ≤ 1422) ∨ a = 2 ∨ a = 1416 ∨ a = 120 + 54 * m ∨ (120 + 54 * m + 50 ≤ a ∧ a ≤ 120 + 54 * m + 53)) (hl : w_le mk mm) (hs : w_msl ms ms') : c_ZZ Z mm nm K' tl cn' cs' tp rd ms' (v_up B m (v_ok1 (B m) Lk)) := by
  have h' := h
  obtain ⟨⟨hW0, hX, hMS, hKS⟩, ⟨y1, y2, y3, y4, y5⟩, ⟨t1, t2, t3, t4⟩, h4, h5, h6, h7⟩ := h'
  have fl := hW0.1.2.2.2.1
  have ad := hW0.1.2.2.2.2
  have low : ∀ a, 16 < a → a < 120 → a ∉ A := fun a b1 b2 cc => by have := hA a cc; omega
  have nj : ∀ j, j < 24 → j ≠ m → 120 + 54 * j ∉ A := fun j hj hn cc => by
    have := hA _ cc
    omega
  have vv : ∀ a, c_fix a → a ∉ A → (∀ f, sw_iv Z a f = sw_iv H a f) ∧ ∀ f, sw_rv Z a f = sw_rv H a f := fun a ha hn => c_fx_iv fl ad c ha hn
  have rm : ∀ j, j < 24 → ∀ f, sw_rv Z (120 + 54 * j) f = sw_rv H (120 + 54 * j) f := fun j hj f => by
    by_cases cj : j = m
    · rw [cj]; exact r1 f
    · exact (vv _ (by unfold c_fix; omega) (nj j hj cj)).2 f
  have out : ∀ g, c_pl g → ∀ a ∈ A, a < g ∨ g + 22 < a := fun g hg a ha => by
    have a1 := hA a ha
    have b := c_pl_b hg
    have pm := c_pl_m hg hm
    by_cases q : 120 + 54 * m + 50 ≤ a ∧ a ≤ 120 + 54 * m + 53
    · have pa := c_pl_a (k := a - (120 + 54 * m)) hg hm (by omega) (by omega)
      omega
    · omega
  have eL : (fun j => v_La (v_up B m (v_ok1 (B m) Lk) j)) = fun j => v_La (B j) := by
    funext j
    by_cases cj : j = m
    · subst cj
      have : v_up B j (v_ok1 (B j) Lk) j = v_ok1 (B j) Lk := if_pos rfl
      rw [this]
      rfl
    · have : v_up B m (v_ok1 (B m) Lk) j = B j := if_neg cj
      rw [this]
  obtain ⟨z1, z2, z3, z4, z5, z6⟩ := h7 m hm
  have p4 := (c_PL_4 h6 hm).1
  have p5 := (c_PL_5 h6 hm).1
  refine c_ZZ_up h ⟨hW, hXx, c_MS_ch hMS fl ad c (low _ (by omega) (by omega)) (fun j hj cc f hf => ?_) hl, by rw [eL]; exact hK⟩ ⟨c_Ch_ch y1 fl ad c (low _ (by omega) (by omega)) (low _ (by omega) (by omega)), c_Pa_ch y2 fl ad c (fun cc => absurd cc (low _ (by omega) (by omega))), by rw [(vv 91 (by unfold c_fix; omega) (low _ (by omega) (by omega))).1]; exact y3, c_Ta_ch y4 fl ad c (fun cc => absurd cc (low _ (by omega) (by omega))), c_Re_ch y5 fl ad c (fun a ha => by have := hA a ha; omega)⟩ hOut c hl hs (by rw [(vv 18 (by unfold c_fix; omega) (low _ (by omega) (by omega))).2]; exact t3) id (fun k hk => ⟨hk, ?_⟩) (fun j k _ _ e => e) (fun k hk hk0 => ?_) (fun a ha j hj cj => ?_) (fun a ha k hk hk0 => out _ (h6.1 k hk).1 a ha) ⟨?_, fun hin => ?_, ?_, ?_, ?_, hpk⟩
  · by_cases cj : j = m
    · rw [cj]; exact i1 f (by omega)
    · exact absurd cc (nj j hj cj)
  · show c_plc Z k = c_plc H k
    unfold c_plc
    by_cases k0 : k = 0
    · rw [if_pos k0, if_pos k0]
      exact (vv 94 (by unfold c_fix; omega) (low _ (by omega) (by omega))).2 6
    · rw [if_neg k0, if_neg k0, rm _ (by omega), rm _ (by omega)]
  · have o := out _ (h6.1 k hk).1
    exact c_gs_ch (h6.1 k hk).2 fl ad c (fun a ha hn => by have := o a ha; omega) (fun cc => by have := o _ cc; omega)
  · have a1 := hA a ha
    refine ⟨fun e => nj j hj cj (e ▸ ha), ?_⟩
    omega
  · rw [i1 3 (by omega)]; exact z1
  · show c_gp Z mm (sw_rv Z (120 + 54 * m) 4) (v_G (B m))
    rw [r1]
    exact c_gp_ch (z2 hin) fl ad c (fun a ha => out _ p4 a ha) hl
  · show c_pend Z mm m ms' (sw_rv Z (120 + 54 * m) 5) (v_pd (B m))
    obtain ⟨o, eo⟩ : ∃ o, v_pd (B m) = o := ⟨_, rfl⟩
    rw [eo] at z3 ⊢
    cases o with
    | none => exact (i1 6 (by omega)).trans z3
    | some pp =>
      obtain ⟨lp, G'⟩ := pp
      obtain ⟨⟨pn, q1, q2⟩, q3⟩ := z3
      exact ⟨⟨pn, (i1 6 (by omega)).trans q1, hs pn lp q2⟩, by rw [r1]; exact c_gp_ch q3 fl ad c (fun a ha => out _ p5 a ha) hl⟩
  · exact c_ma_ch z4 hm fl ad c (fun _ f _ => r1 f)
  · exact c_up_ch z5 hm fl ad c (fun _ => i1 11 (by omega)) (fun cc => by have := hA _ cc; omega) hl
theorem x_offer (lm : c_lm cn cs N U M) (lm2 : c_lm (cn + 2) (cs + 2 + 9) N U M) (bd : ∀ m : Nat, x = m → m < 24 → ms.length < 300 → (v_Lk (B m)).length < 8 → c_bl (w_tls mk (w_ofC m nn)) tl N U M) (rm : sw_n H < sxlim.1 ∧ sw_s H + 6 ≤ sxlim.2) (h : c_ZZ H mk nn K tl cn cs tp rd ms B) (q1 : ¬ (0 ≤ x ∧ x < 24) → c_ZZ (sw_nw H 112 0 6) mk nn K tl (cn + 1) (cs + 6) tp rd ms B → c_ch [] H (sw_nw H 112 0 6) → E (sw_n H + 2) (sw_nw H 112 0 6)) (q2 : ∀ m : Nat, x = m → m < 24 → ms.length = 300 ∨ (v_Lk (B m)).length = 8 → c_ZZ (sw_nw H 120 0 6) mk nn K tl (cn + 1) (cs + 6) tp rd ms B → c_ch [] H (sw_nw H 120 0 6) → E (sw_n H + 2) (sw_nw H 120 0 6)) (q : ∀ (m : Nat) (A : List Nat) X, x = m → m < 24 → ms.length < 300 → (v_Lk (B m)).length < 8 → c_ZZ X (w_tls mk (w_ofC m nn)) (nn + 2) (w_lrs K (w_pkg m (w_ky nn) (w_ky (nn + 1)))) tl (cn + 2) (cs + 2 + 9) tp rd (ms ++ [w_pkg m (w_ky nn) (w_ky (nn + 1))]) (v_up B m (v_of nn ms.length (B m))) → c_ch A H X → (∀ a ∈ A, 1 < a ∧ a < 1423) → P ms.length X) : wm_74 2 x H P E := by
  have zm := h.2.2.2.2.2.2
  have pl := h.2.2.2.2.2.1
  have a1 : ∀ m, m < 24 → sw_iv H (120 + 54 * m) 3 = 0 ∨ (sw_iv H (120 + 54 * m) 3 ≠ 0 ∧ sw_ty H (sw_rv H (120 + 54 * m) 4) = 40 ∧ c_pl (sw_rv H (120 + 54 * m) 4)) := fun m hm => by
    rcases (zm m hm).1 with ⟨a, _⟩ | ⟨a, _⟩
    · exact Or.inr ⟨by omega, (c_PL_4 pl hm).2.2.2.1, (c_PL_4 pl hm).1⟩
    · exact Or.inl a
  refine cc_offer (Lk := fun m => v_Lk (B m)) (La := fun j => v_La (B j)) lm lm2 h.1.1 h.1.2.1 h.1.2.2.1 h.1.2.2.2 h.2.2.1.2.2.2 h.2.2.2.1 (fun m hm => (zm m hm).2.2.2.1) (fun m hm => (zm m hm).2.2.2.2.2) a1 rm bd (fun c => q1 c (c_ZZ_throw h 112) (c_I_throw (c_ZZ_I h) 112).2) (fun m hx hm h1 => q2 m hx hm h1 (c_ZZ_throw h 120) (c_I_throw (c_ZZ_I h) 120).2) (fun m X hx hm h3 h8 hW hXx hpk i1 r1 hOut hK c => ?_)
  have hA : ∀ a ∈ [14, 15, 1422, 1420, 1421, 2, 1416, 120 + 54 * m, 120 + 54 * m + 50, 120 + 54 * m + 51, 120 + 54 * m + 52, 120 + 54 * m + 53], a = 14 ∨ a = 15 ∨ (1420 ≤ a ∧ a ≤ 1422) ∨ a = 2 ∨ a = 1416 ∨ a = 120 + 54 * m ∨ (120 + 54 * m + 50 ≤ a ∧ a ≤ 120 + 54 * m + 53) := fun a ha => by
    simp only [List.mem_cons, List.not_mem_nil, or_false] at ha
    omega
  exact q m _ X hx hm h3 h8 (v_of_c hm h hW hXx hpk (fun f hf => by rw [i1, if_neg hf]) r1 hOut hK c hA (w_tls_le (w_ofC m nn) mk) (w_msl_app _ _)) c (fun a ha => by have := hA a ha; omega)
end
end
