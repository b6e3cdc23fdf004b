/-! ===== the class: a member that joined, left or went on ===== -/
noncomputable section
section
variable {H Z X Y : sw_H} {nn nm r ra g m n : Nat} {K K' S : Wt → Prop} {tl tl' tp mk mm l : List Wt} {ms : List (List Wt)} {rd : Nat → Int} {a b c x y cn cs cn' cs' N U M : Int} {Q : sw_H → Prop} {P : Int → sw_H → Prop} {A B : List Nat} {w h : Wt} {La : Nat → List (Wt × Nat)} {L : List (Wt × Nat)}
theorem c_KS_st {Lb : Nat → List (Wt × Nat)} (hV : c_V H mk nn K tl cn cs) (hX : c_X H mk tp rd ms) (hK : c_KS H mk ms La) (k : c_ch A H Z) (hl : w_le mk mm) (h1416 : 1416 ∉ A) (hM : ∀ m, m < 24 → ((sw_iv Z (120 + 54 * m) 9 = sw_iv H (120 + 54 * m) 9 ∧ Lb m = La m) ∨ (sw_iv Z (120 + 54 * m) 9 = 0 ∧ Lb m = [])) ∧ c_ka Z m 7 = c_ka H m 7 ∧ c_ka Z m 8 = c_ka H m 8 ∧ c_ka H m 7 ∉ A ∧ c_ka H m 8 ∉ A) (hr : ∀ i, i < ms.length → sw_rv H 1416 i ∉ A) : c_KS Z mm ms Lb := by
  have fl := hV.2.2.2.1
  have ad := hV.2.2.2.2
  refine ⟨fun m hm => ?_, ?_, ?_⟩
  · obtain ⟨kp, p1, p2, p3⟩ := hK.1 m hm
    obtain ⟨m9, m7, m8, a7, a8⟩ := hM m hm
    obtain ⟨⟨t7, t8⟩, e1, e2, e3, ⟨o7, o8⟩, l7, l8⟩ := kp
    have n7 : sw_ty H (c_ka H m 7) ≠ 0 := by rw [t7]; decide
    have n8 : sw_ty H (c_ka H m 8) ≠ 0 := by rw [t8]; decide
    have s7 := k.1.2 _ n7
    have s8 := k.1.2 _ n8
    have i7 := (k.2.1 _ n7 o7 a7).1
    have i8 := (k.2.1 _ n8 o8 a8).1
    refine ⟨?_, ?_⟩
    · unfold c_kp
      rw [m7, m8, s7.1, s7.2, s8.1, s8.2]
      exact ⟨⟨t7, t8⟩, e1, e2, e3, ⟨c_ch_no k n7 o7, c_ch_no k n8 o8⟩, l7, l8⟩
    · unfold c_pp
      rcases m9 with ⟨m9, eL⟩ | ⟨m9, eL⟩
      · rw [m7, m8, s8.2, m9, eL]
        refine ⟨p1, p2, fun i kk h hi => ?_⟩
        rw [i7, i8]
        obtain ⟨x1, x2⟩ := p3 i kk h hi
        exact ⟨x1, w_le_at hl x2⟩
      · rw [m9, eL]
        exact ⟨rfl, by simp, fun i kk h hi => by simp at hi⟩
  · intro m m' f f' hm hm' hf hf' e
    obtain ⟨_, m7, m8, _⟩ := hM m hm
    obtain ⟨_, m7', m8', _⟩ := hM m' hm'
    refine hK.2.1 m m' f f' hm hm' hf hf' ?_
    rcases hf with e1 | e1 <;> rcases hf' with e2 | e2 <;> subst e1 <;> subst e2
    · rw [← m7, ← m7']; exact e
    · rw [← m7, ← m8']; exact e
    · rw [← m8, ← m7']; exact e
    · rw [← m8, ← m8']; exact e
  · intro m f i hm hf hi
    obtain ⟨_, m7, m8, _⟩ := hM m hm
    have r6 := (c_fx_iv fl ad k (q := 1416) (by unfold c_fix; omega) h1416).2
    obtain ⟨l, hl⟩ : ∃ l, ms[i]? = some l := ⟨ms[i]'hi, List.getElem?_eq_getElem hi⟩
    obtain ⟨_, g2, _, a, _, _, s, q, _⟩ := hX.2.2.2.2.2 i l hl
    have tr : sw_ty H (sw_rv H 1416 i) ≠ 0 := by rw [q.1]; decide
    rw [r6, (k.2.1 _ tr g2 (hr i hi)).2 0]
    have := hK.2.2 m f i hm hf hi
    rcases hf with e1 | e1 <;> subst e1
    · rw [m7]; exact this
    · rw [m8]; exact this
end
section
variable {H X Z : sw_H} {nn nm m k0 : Nat} {K K' : Wt → Prop} {tl tp mk mm : List Wt} {rd : Nat → Int} {ms ms' : List (List Wt)} {cn cs cn' cs' x x2 N U M : Int} {A : List Nat} {B : Nat → v_M} {lp : List Wt} {P : Int → sw_H → Prop} {E : Nat → sw_H → Prop}
theorem c_ZZ_dj {G : w_G} {inn : Prop} {Lk : List (Nat × Wt × Wt)} (hm : m < 24) (h : c_ZZ H mk nn K tl cn cs tp rd ms B) (hW : c_W X mm nn K tl cn cs) (htol : c_tol X) (c : c_ch A H X) (hk0 : k0 = 0 ∨ k0 = 2 * m + 1 ∨ k0 = 2 * m + 2) (hA : ∀ a ∈ A, a = 120 + 54 * m ∨ (120 + 54 * m + 50 ≤ a ∧ a ≤ 120 + 54 * m + 53) ∨ (14 ≤ a ∧ a ≤ 17) ∨ (44 ≤ a ∧ a ≤ 95) ∨ (c_plc H k0 ≤ a ∧ a ≤ c_plc H k0 + 22)) (hl : w_le mk mm) (t : Nat → Nat) (ht : ∀ k, k < 49 → t k < 49 ∧ c_plc X k = c_plc H (t k)) (hi : ∀ j k, j < 49 → k < 49 → t j = t k → j = k) (hg0 : c_gs X (c_plc H k0)) (i12 : ∀ f, f < 3 → sw_iv X (120 + 54 * m) f = sw_iv H (120 + 54 * m) f) (i3 : (sw_iv X (120 + 54 * m) 3 = 1 ∧ inn) ∨ (sw_iv X (120 + 54 * m) 3 = 0 ∧ ¬ inn)) (hg : inn → c_gp X mm (sw_rv X (120 + 54 * m) 4) G) (i6 : sw_iv X (120 + 54 * m) 6 = -1) (i9 : sw_iv X (120 + 54 * m) 9 = 0) (i11 : sw_iv X (120 + 54 * m) 11 = 0) (r1 : ∀ f, f ≠ 4 → f ≠ 5 → sw_rv X (120 + 54 * m) f = sw_rv H (120 + 54 * m) f) (hpk : c_pk X mm ms m Lk) : c_ZZ X mm nn K tl cn cs tp rd ms (v_up B m (inn, G, none, [], [], Lk)) ∧ c_cp X = c_cp H := by
  have h' := h
  obtain ⟨⟨hW0, hX, hMS, hKS⟩, ⟨y1, y2, y3, y4, y5⟩, ⟨t1, t2, t3, t4⟩, h4, h5, h6, h7⟩ := h'
  have fl := hW0.1.2.2.2.1
  have ad := hW0.1.2.2.2.2
  have k49 : k0 < 49 := by omega
  have gpl := (h6.1 k0 k49).1
  obtain ⟨g, eg⟩ : ∃ g, g = c_plc H k0 := ⟨_, rfl⟩
  rw [← eg] at hA gpl hg0
  have gb := c_pl_b gpl
  have g119 := c_pl_119 gpl
  have gm : ∀ j, j < 24 → 120 + 54 * j < g ∨ g + 22 < 120 + 54 * j := fun j hj => c_pl_m gpl hj
  have ga : ∀ j k, j < 24 → 47 ≤ k → k < 54 → 120 + 54 * j + k < g ∨ g + 22 < 120 + 54 * j + k := fun j k hj h1 h2 => c_pl_a gpl hj h1 h2
  have gd : ∀ k, k < 49 → k ≠ k0 → g + 22 < c_plc H k ∨ c_plc H k + 22 < g := fun k hk hn => c_pl_d gpl (h6.1 k hk).1 (fun e => by
    rw [eg] at e
    exact hn (h6.2 _ _ k49 hk e).symm)
  have nj : ∀ j, j < 24 → j ≠ m → 120 + 54 * j ∉ A := fun j hj hn cc => by
    have := hA _ cc
    have := gm j hj
    omega
  have na : ∀ j k, j < 24 → 47 ≤ k → k < 50 → 120 + 54 * j + k ∉ A := fun j k hj k1 k2 cc => by
    have := hA _ cc
    have := ga j k hj k1 (by omega)
    omega
  have na2 : ∀ j k, j < 24 → j ≠ m → 47 ≤ k → k < 54 → 120 + 54 * j + k ∉ A := fun j k hj hn k1 k2 cc => by
    have := hA _ cc
    have := ga j k hj k1 (by omega)
    omega
  have hi14 : ∀ a, 1416 ≤ a → a ≤ 1491 → a ∉ A := fun a b1 b2 cc => by have := hA _ cc; omega
  have n18 : 18 ∉ A := fun cc => by have := hA _ cc; omega
  have vv : ∀ a, c_fix a → a ∉ A → (∀ f, sw_iv X a f = sw_iv H a f) ∧ ∀ f, sw_rv X a f = sw_rv H a f := fun a ha hn => c_fx_iv fl ad c ha hn
  have r78 : ∀ j, j < 24 → ∀ f, f ≠ 4 → f ≠ 5 → sw_rv X (120 + 54 * j) f = sw_rv H (120 + 54 * j) f := fun j hj f f4 f5 => by
    by_cases cj : j = m
    · rw [cj]; exact r1 f f4 f5
    · exact (vv _ (by unfold c_fix; omega) (nj j hj cj)).2 f
  have eL : ∀ j, j ≠ m → v_La (v_up B m (inn, G, none, [], [], Lk) j) = v_La (B j) := fun j cj => by
    have : v_up B m (inn, G, none, [], [], Lk) j = B j := if_neg cj
    rw [this]
  have eLm : v_La (v_up B m (inn, G, none, [], [], Lk) m) = [] := by
    have : v_up B m (inn, G, none, [], [], Lk) m = (inn, G, none, [], [], Lk) := if_pos rfl
    rw [this]
    rfl
  obtain ⟨z1, z2, z3, z4, z5, z6⟩ := h7 m hm
  have hBS : c_BS X mm nn K tl cn cs tp rd ms (fun j => v_La (v_up B m (inn, G, none, [], [], Lk) j)) := by
    refine ⟨hW, c_X_ch hW0.1 hX c hW.1 hl (fun a ha => by have := hA a ha; omega), c_MS_ch hMS fl ad c (fun cc => by have := hA _ cc; omega) (fun j hj cc f hf => ?_) hl, c_KS_st hW0.1 hX hKS c hl (hi14 _ (by omega) (by omega)) (fun j hj => ⟨?_, r78 j hj 7 (by omega) (by omega), r78 j hj 8 (by omega) (by omega), fun cc => ?_, fun cc => ?_⟩) (fun i hi cc => ?_)⟩
    · by_cases cj : j = m
      · subst cj; exact i12 f hf
      · exact absurd cc (nj j hj cj)
    · by_cases cj : j = m
      · subst cj; exact Or.inr ⟨i9, eLm⟩
      · exact Or.inl ⟨(vv (120 + 54 * j) (by unfold c_fix; omega) (nj j hj cj)).1 9, eL j cj⟩
    · rcases (c_ka_78 hKS hj).1 with e | e
      · rw [e] at cc; exact na j 47 hj (by omega) (by omega) cc
      · have := hA _ cc; omega
    · rcases (c_ka_78 hKS hj).2 with e | e
      · rw [e] at cc; exact na j 48 hj (by omega) (by omega) cc
      · have := hA _ cc; omega
    · obtain ⟨l, hl⟩ : ∃ l, ms[i]? = some l := ⟨ms[i]'hi, List.getElem?_eq_getElem hi⟩
      obtain ⟨g1, _⟩ := hX.2.2.2.2.2 i l hl
      have := hA _ cc
      omega
  have hu0 : c_up X mm m [] := ⟨i11, by simp, fun i h v hi => by simp at hi⟩
  refine ⟨c_ZZ_up h hBS htol (c_Out_ch h4 fl ad c (hi14 _ (by omega) (by omega)) (hi14 _ (by omega) (by omega))) c hl (w_msl_refl _) (by rw [(vv 18 (by unfold c_fix; omega) n18).2]; exact t3) t ht hi (fun k hk hk1 => ?_) (fun a ha j hj cj => ?_) (fun a ha k hk hk1 => ?_) ⟨i3, hg, i6, c_ma_ch z4 hm fl ad c (fun _ f hf => r1 f (by omega) (by omega)), hu0, hpk⟩, c_cp_ch h c (fun j hj _ => r78 j hj 8 (by omega) (by omega))⟩
  · by_cases k2 : k = k0
    · rw [k2, ← eg]; exact hg0
    · have d := gd k hk k2
      have b := c_pl_b (h6.1 k hk).1
      have pm := c_pl_m (h6.1 k hk).1 hm
      have pa := fun i (i1 : 47 ≤ i) (i2 : i < 54) => c_pl_a (k := i) (h6.1 k hk).1 hm i1 i2
      have pa50 := pa 50 (by omega) (by omega)
      have pa53 := pa 53 (by omega) (by omega)
      have pa51 := pa 51 (by omega) (by omega)
      have pa52 := pa 52 (by omega) (by omega)
      exact c_gs_ch (h6.1 k hk).2 fl ad c (fun a ha hn => by have := hA a ha; omega) (fun cc => by have := hA _ cc; omega)
  · have a1 := hA a ha
    refine ⟨fun e => nj j hj cj (e ▸ ha), ?_⟩
    by_cases q : a < 120 + 54 * j + 49 ∨ 120 + 54 * j + 53 < a
    · exact q
    · have a5 := na2 j (a - (120 + 54 * j)) hj cj (by omega) (by omega)
      rw [show 120 + 54 * j + (a - (120 + 54 * j)) = a by omega] at a5
      exact absurd ha a5
  · have a1 := hA a ha
    have d := gd k hk (by omega)
    have b := c_pl_b (h6.1 k hk).1
    have pm := c_pl_m (h6.1 k hk).1 hm
    have pa := fun i (i1 : 47 ≤ i) (i2 : i < 54) => c_pl_a (k := i) (h6.1 k hk).1 hm i1 i2
    have pa50 := pa 50 (by omega) (by omega)
    have pa53 := pa 53 (by omega) (by omega)
    have pa51 := pa 51 (by omega) (by omega)
    have pa52 := pa 52 (by omega) (by omega)
    omega
end
end
