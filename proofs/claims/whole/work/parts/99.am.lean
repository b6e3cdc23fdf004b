/-! ===== the class: numbers ===== -/
noncomputable section
section
variable {H G X Y Z : sw_H} {d : Nat → Wt} {nn : Nat} {K : Wt → Prop} {tl : List Wt} {t w : Nat} {x m cn cs : Int} {Q : sw_H → Prop} {P : Int → sw_H → Prop}
theorem c_K_cg (en : c_n Y = c_n H) (hd : ∀ t k : Nat, (k ≤ 3 ∨ k = 9) → c_d Y t k = c_d H t k) (h : c_K H d K) : c_K Y d K := by
  obtain ⟨h1, h2, h3⟩ := h
  have kn : ∀ t, c_kn Y t ↔ c_kn H t := fun t => by
    unfold c_kn c_R c_k
    rw [en, hd t 9 (by omega)]
  have ek : c_kn Y = c_kn H := funext fun t => propext (kn t)
  refine ⟨fun t ht => by rw [hd t 9 (by omega)]; exact h1 t (by rw [← en]; exact ht), fun t ht => ?_, fun w => ?_⟩
  · have := h2 t (by unfold c_R at ht ⊢; rw [← en]; exact ht)
    rw [ek, hd t 0 (by omega), hd t 1 (by omega), hd t 2 (by omega), hd t 3 (by omega), hd _ 1 (by omega)]
    refine ⟨fun hm => this.1 ((c_mk_cg (fun k hk => hd t k (by omega)) Iff.rfl (fun _ => Iff.rfl) Iff.rfl).mp hm), this.2⟩
  · rw [h3]
    have eB : c_B Y d = c_B H d := by
      unfold c_B
      rw [ek]
    rw [eB]
/-- numbers: the place for one more is there -/
def c_tg (H G : sw_H) (m : Int) : Prop := c_S G ∧ c_D G ∧ c_F G ∧ c_ft H G ∧ (∀ f, f ≠ 6 → sw_rv G 3 f = sw_rv H 3 f) ∧ (∀ f, sw_iv G 3 f = if f = 7 then m else sw_iv H 3 f) ∧ (∀ f j, f = 1 ∨ f = 3 ∨ f = 5 → sw_iv G (sw_rv H 3 f) j = sw_iv H (sw_rv H 3 f) j) ∧ (∀ j : Nat, (j : Int) < m → sw_iv G (sw_rv G 3 6) j = sw_iv H (sw_rv H 3 6) j) ∧ m < sw_ln G (sw_rv G 3 6)
theorem c_tell2 (A : c_A H d nn K tl) (em : m = tl.length + 1) (h1 : c_R H t) (hn : d t ∉ tl) (g : c_tg H G m) (qG : c_qb G cn cs (c_n H + 1) (sw_iv H 3 4) m) (k : ∀ Y, c_A Y d nn K (tl ++ [d t]) → c_F Y → c_q Y cn cs → c_ft H Y → c_n Y = c_n H → sw_iv Y 3 4 = sw_iv H 3 4 → P m Y) : wb_123_37 P 3 t (14 * t + 8) G := by
  obtain ⟨T, Z, n4, n5, U, hK, hN, h9⟩ := A
  obtain ⟨S, D, F, ft, rv, iv, ar, nb, ln⟩ := g
  obtain ⟨N1, N2, N3, N4, N5⟩ := hN
  have D' := D
  obtain ⟨d1, d2, d3, d4, d5, d6, d7, d8, d9, d10⟩ := D'
  have n31 : sw_rv G 3 1 ≠ 3 := fun e => by
    have a1 := S.1
    have a2 := S.2.1
    rw [e, a1] at a2
    cases a2
  have n36 : sw_rv G 3 6 ≠ 3 := fun e => by
    have a1 := S.1
    have a2 := S.2.2.2.2.1
    rw [e, a1] at a2
    cases a2
  have ht2 := h1.2
  have ht1 := h1.1
  have lnG : ∀ f, f = 1 ∨ f = 3 ∨ f = 5 ∨ f = 8 → sw_ln G (sw_rv G 3 f) = sw_ln H (sw_rv H 3 f) := fun f hf => by
    have ty : sw_ty H (sw_rv H 3 f) ≠ 0 := by
      rcases hf with e | e | e | e
      · rw [e, T.1.2.1]; decide
      · rw [e, T.1.2.2.1]; decide
      · rw [e, T.1.2.2.2.1]; decide
      · rw [e, T.1.2.2.2.2.2.1]; decide
    rw [rv f (by omega), (ft.1.2 _ ty).2]
  have l1 := T.2.2.2.1
  have e7 : sw_iv G 3 7 = m := by rw [iv, if_pos rfl]
  unfold wb_123_37
  refine ⟨S.2.2.2.2.1, ?_⟩
  intro q7 eq7 v10 e10 _
  subst eq7
  rw [e7] at e10
  have e10 := e10.symm
  subst e10
  refine ⟨by omega, ln, ?_⟩
  intro B eB
  have frB : c_fr [sw_rv G 3 6] G B := by rw [eB]; exact c_fr_si _ _ _ _
  refine ⟨by rw [frB.2.2.2.2.1, frB.2.2.1]; exact S.2.1, ?_⟩
  intro q16 e16 v19 e19 _
  rw [frB.2.2.2.2.1] at e16
  subst e16
  rw [frB.2.2.2.2.2 3 (by simp; exact fun e => n36 e.symm), e7] at e19
  have e19 := e19.symm
  subst e19
  refine ⟨by omega, by rw [frB.2.2.2.1, lnG 1 (by omega)]; omega, ?_⟩
  intro Y eY
  have ej : (14 * (t : Int) + 8).toNat = 14 * t + 8 := by omega
  rw [ej] at eY
  have frY : c_fr [sw_rv G 3 1] B Y := by rw [eY]; exact c_fr_si _ _ _ _
  have fr : c_fr [sw_rv G 3 6, sw_rv G 3 1] G Y := c_fr_sub (c_fr_trans frB frY) (by simp)
  have rY : ∀ f, sw_rv Y 3 f = sw_rv G 3 f := fr.2.2.2.2.1 3
  have lY : ∀ a, sw_ln Y a = sw_ln G a := fr.2.2.2.1
  have iY : ∀ f, sw_iv Y 3 f = sw_iv G 3 f := fun f => by rw [fr.2.2.2.2.2 3 (by simp; exact ⟨fun e => n36 e.symm, fun e => n31 e.symm⟩)]
  have dY : ∀ j, sw_iv Y (sw_rv G 3 1) j = if j = 14 * t + 8 then m else sw_iv G (sw_rv G 3 1) j := fun j => by
    rw [eY, sw_iv_si, frB.2.2.2.2.2 _ (by simp; exact d3)]
    simp only [true_and]
  have bY : ∀ j, sw_iv Y (sw_rv G 3 6) j = if j = m.toNat then (t : Int) else sw_iv G (sw_rv G 3 6) j := fun j => by
    rw [frY.2.2.2.2.2 _ (by simp; exact fun e => d3 e.symm), eB, sw_iv_si]
    simp only [true_and]
  have aY : ∀ f j, f = 3 ∨ f = 5 → sw_iv Y (sw_rv G 3 f) j = sw_iv G (sw_rv G 3 f) j := fun f j hf => by
    rw [fr.2.2.2.2.2 (sw_rv G 3 f)]
    simp
    rcases hf with e | e
    · rw [e]; exact ⟨d6, fun e => d1 e.symm⟩
    · rw [e]; exact ⟨d8, fun e => d2 e.symm⟩
  clear eY eB
  have ty4 : sw_ty H 4 ≠ 0 := by rw [T.1.2.2.2.2.2.2.2.2.2.2.2.1.1]; decide
  have ty5 : sw_ty H 5 ≠ 0 := by rw [T.1.2.2.2.2.2.2.2.2.2.2.2.1.2.2.1]; decide
  have n4G := c_ft_no ft ty4 n4
  have n5G := c_ft_no ft ty5 n5
  obtain ⟨SY, DY⟩ := c_fr_S fr S D (by simp; exact ⟨fun e => n4G (Or.inr (Or.inr (Or.inr (Or.inr (Or.inl e))))), fun e => n4G (Or.inr (Or.inl e))⟩) (by simp; exact ⟨fun e => n5G (Or.inr (Or.inr (Or.inr (Or.inr (Or.inl e))))), fun e => n5G (Or.inr (Or.inl e))⟩)
  have ftY : c_ft H Y := c_ft_trans ft (c_fr_ft fr (fun a ha => by
    simp at ha
    unfold c_ow
    rcases ha with e | e
    · exact Or.inr (Or.inr (Or.inr (Or.inr (Or.inl e))))
    · exact Or.inr (Or.inl e)))
  have enY : c_n Y = c_n H := by
    have : sw_iv Y 3 2 = sw_iv H 3 2 := by rw [iY, iv, if_neg (by decide)]
    exact this
  have e4Y : sw_iv Y 3 4 = sw_iv H 3 4 := by rw [iY, iv, if_neg (by decide)]
  have cd : ∀ u k : Nat, k ≤ 13 → (u ≠ t ∨ k ≠ 8) → c_d Y u k = c_d H u k := fun u k hk h8 => by
    unfold c_d
    rw [rY, dY, if_neg (by omega), rv 1 (by decide), ar 1 _ (by omega)]
  have cd8 : c_d Y t 8 = m := by
    unfold c_d
    rw [rY, dY, if_pos rfl]
  unfold wb_123_49
  refine ⟨SY.2.1, ?_⟩
  intro q1 e1
  rw [rY] at e1
  subst e1
  refine ⟨by omega, by rw [lY, lnG 1 (by omega)]; omega, ?_⟩
  intro v4 e4 _
  rw [ej, dY, if_pos rfl] at e4
  have e4 := e4.symm
  subst e4
  refine k Y ⟨?_, ?_, c_ft_no ftY ty4 n4, c_ft_no ftY ty5 n5, ?_, c_K_cg enY (fun u k hk => cd u k (by omega) (Or.inr (by omega))) hK, ?_, by rw [iY, iv, if_neg (by decide)]; exact h9⟩ (c_fr_F fr F) ?_ ftY enY e4Y
  · refine c_T_cg T SY DY enY e4Y (fun u k _ hk => cd u k (by omega) (Or.inr (by omega))) (fun j _ => ?_) (fun j => ?_) ?_ ?_ ?_ ?_
    · rw [rY, aY 3 j (by omega), rv 3 (by decide), ar 3 j (by omega)]
    · rw [rY, aY 5 j (by omega), rv 5 (by decide), ar 5 j (by omega)]
    · rw [rY, lY, lnG 5 (by omega)]
    · rw [rY, lY, lnG 1 (by omega)]; exact T.2.2.2.1
    · rw [rY, lY, lnG 3 (by omega)]; exact T.2.2.2.2.2.1
    · rw [rY, rY, lY, lY, lnG 1 (by omega), lnG 8 (by omega)]; exact T.2.2.2.2.2.2.2.2.1
  · intro j hj hz
    rw [rY, lY, lnG 1 (by omega)] at hj
    rw [enY] at hz
    rw [rY, dY, if_neg (by omega), rv 1 (by decide), ar 1 j (by omega)]
    exact Z j hj hz
  · unfold c_U
    rw [enY]
    refine c_UL_cg U (fun p _ _ => cd p 10 (by decide) (Or.inr (by decide))) (fun k _ => cd _ _ (by omega) (Or.inr (by omega))) (fun k => ?_) (fun k _ => ?_)
    · unfold c_Lk
      rw [enY, cd _ 0 (by decide) (Or.inr (by decide))]
    · unfold c_pt
      rw [cd _ _ (by omega) (Or.inr (by omega))]
  · refine ⟨?_, ?_, fun i w hw => ?_, fun u hu => ?_, ?_⟩
    · rw [iY, e7, em]; simp
    · rw [rY, lY, List.length_append, List.length_singleton]; omega
    · rw [rY, bY]
      by_cases ci : i = tl.length
      · rw [ci, List.getElem?_append_right (Nat.le_refl _), Nat.sub_self] at hw
        have hw : d t = w := by simpa using hw
        rw [if_pos (by omega)]
        exact ⟨t, ⟨ht1, by rw [enY]; exact ht2⟩, rfl, hw⟩
      · have hlt : i < (tl ++ [d t]).length := by
          rcases Nat.lt_or_ge i (tl ++ [d t]).length with h | h
          · exact h
          · rw [List.getElem?_eq_none h] at hw; cases hw
        rw [List.length_append, List.length_singleton] at hlt
        rw [List.getElem?_append_left (by omega)] at hw
        obtain ⟨u, u1, u2, u3⟩ := N3 i w hw
        rw [if_neg (by omega), nb _ (by omega)]
        exact ⟨u, ⟨u1.1, by rw [enY]; exact u1.2⟩, u2, u3⟩
    · have hu : c_R H u := ⟨hu.1, by rw [← enY]; exact hu.2⟩
      by_cases cu : u = t
      · rw [cu, cd8, if_pos (by simp), List.idxOf_append, if_neg hn]
        simp
        omega
      · have hne : d u ≠ d t := fun e => cu (T.2.2.2.2.2.2.2.2.2.2.1 u t hu h1 e)
        rw [cd u 8 (by decide) (Or.inl cu), N4 u hu]
        by_cases ci : d u ∈ tl
        · rw [if_pos ci, if_pos (by rw [List.mem_append]; exact Or.inl ci), List.idxOf_append, if_pos ci]
        · rw [if_neg ci, if_neg (by simp; exact ⟨ci, hne⟩)]
    · rw [List.nodup_append]
      refine ⟨N5, by simp, fun a ha b hb e => ?_⟩
      simp at hb
      rw [e, hb] at ha
      exact hn ha
  · unfold c_q c_qb
    rw [enY, e4Y, iY, e7]
    simp only [rY, lY, fr.1, fr.2.1]
    exact qG
/-- the room that tell may take -/
def c_rmN (H : sw_H) : Prop := sw_n H + 1 ≤ sxlim.1 ∧ sw_s H + 2 * sw_ln H (sw_rv H 3 6) ≤ sxlim.2 ∧ 2 * sw_ln H (sw_rv H 3 6) ≤ 134217728
theorem c_tell (A : c_A H d nn K tl) (F : c_F H) (q : c_q H cn cs) (room : c_rmN H) (h1 : c_R H t) (k : ∀ Y, c_A Y d nn K (w_tl tl (d t)) → c_F Y → c_q Y cn cs → c_ft H Y → c_n Y = c_n H → sw_iv Y 3 4 = sw_iv H 3 4 → P (((w_tl tl (d t)).idxOf (d t) : Nat) + 1) Y) : wm_123 3 t H P := by
  have A' := A
  obtain ⟨T, Z, n4, n5, U, hK, hN, h9⟩ := A'
  have s := c_A_sh A
  have S := s.1
  have dl := S.2.2.2.2.2.2.1
  have nl := S.2.2.2.2.2.2.2.2.2.1
  have l1 := s.2.2.2.2.1
  have ht1 := h1.1
  have ht2 := h1.2
  obtain ⟨N1, N2, N3, N4, N5⟩ := hN
  have n8 := N4 t h1
  have n31 : sw_rv H 3 1 ≠ 3 := fun e => by
    have a1 := S.1
    have a2 := S.2.1
    rw [e, a1] at a2
    cases a2
  have n33 : sw_rv H 3 3 ≠ 3 := fun e => by
    have a1 := S.1
    have a2 := S.2.2.1
    rw [e, a1] at a2
    cases a2
  have n35 : sw_rv H 3 5 ≠ 3 := fun e => by
    have a1 := S.1
    have a2 := S.2.2.2.1
    rw [e, a1] at a2
    cases a2
  have n36 : sw_rv H 3 6 ≠ 3 := fun e => by
    have a1 := S.1
    have a2 := S.2.2.2.2.1
    rw [e, a1] at a2
    cases a2
  have n38 : sw_rv H 3 8 ≠ 3 := fun e => by
    have a1 := S.1
    have a2 := S.2.2.2.2.2.1
    rw [e, a1] at a2
    cases a2
  unfold wm_123
  refine ⟨fun _ => ?_, fun h => by omega⟩
  intro y25 e25
  rw [sw_w_s (z := (t : Int) * 14) (by omega) (by omega), sw_w_s (by omega) (by omega)] at e25
  have e25 : y25 = 14 * (t : Int) + 8 := by omega
  subst e25
  have ej : (14 * (t : Int) + 8).toNat = 14 * t + 8 := by omega
  refine ⟨S.2.1, ?_⟩
  intro q29 e29
  subst e29
  refine ⟨by omega, by omega, ?_⟩
  intro v32 e32 _
  rw [ej] at e32
  have e32 : v32 = c_d H t 8 := e32
  refine ⟨fun c0 => ?_, fun c0 => ?_⟩
  · have hm : d t ∈ tl := by
      by_cases c : d t ∈ tl
      · exact c
      · rw [e32, n8, if_neg c] at c0
        exact absurd rfl c0
    have ew : w_tl tl (d t) = tl := if_pos hm
    unfold wb_123_49
    refine ⟨S.2.1, ?_⟩
    intro q1 e1
    subst e1
    refine ⟨by omega, by omega, ?_⟩
    intro v4 e4 _
    rw [ej] at e4
    have e4 : v4 = c_d H t 8 := e4
    rw [e4, n8, if_pos hm]
    have := k H (by rw [ew]; exact A) F q (c_ft_refl H) rfl rfl
    rw [ew] at this
    exact this
  · have hm : d t ∉ tl := fun c => by
      rw [e32, n8, if_pos c] at c0
      omega
    have ew : w_tl tl (d t) = tl ++ [d t] := if_neg hm
    have ei : (((w_tl tl (d t)).idxOf (d t) : Nat) : Int) + 1 = tl.length + 1 := by
      rw [ew, List.idxOf_append, if_neg hm]
      simp
    rw [ei, ew] at k
    intro v35 e35 _
    rw [N1] at e35
    subst e35
    rw [sw_w_s (by omega) (by omega)]
    intro B eB
    have fr : c_fr [3] H B := by rw [eB]; exact c_fr_si _ _ _ _
    obtain ⟨SB, DB⟩ := c_fr_S fr S s.2.1 (by simp) (by simp)
    have FB := c_fr_F fr F
    have ftB : c_ft H B := c_fr_ft fr (fun a ha => by simp at ha; exact Or.inl ha)
    have rB : ∀ f, sw_rv B 3 f = sw_rv H 3 f := fr.2.2.2.2.1 3
    have lB : ∀ a, sw_ln B a = sw_ln H a := fr.2.2.2.1
    have iB : ∀ f, sw_iv B 3 f = if f = 7 then (tl.length : Int) + 1 else sw_iv H 3 f := fun f => by
      rw [eB, sw_iv_si]
      simp only [true_and]
    have aB : ∀ a, a ≠ 3 → sw_iv B a = sw_iv H a := fun a ha => fr.2.2.2.2.2 a (by simp; exact ha)
    clear eB
    have qB : c_qb B cn cs (c_n H + 1) (sw_iv H 3 4) ((tl.length : Int) + 1) := by
      unfold c_qb
      simp only [rB, lB, fr.1, fr.2.1]
      exact c_qq_up q (Int.le_refl _) (Int.le_refl _) (by rw [N1]; omega)
    intro v41 e41 _
    rw [iB, if_pos rfl] at e41
    subst e41
    refine ⟨SB.2.2.2.2.1, ?_⟩
    intro q44 e44 v47 e47 _
    rw [e44, rB, lB] at e47
    subst e47
    refine ⟨fun c1 => ?_, fun c1 => ⟨SB.2.2.2.2.1, ?_⟩⟩
    · refine c_tell2 A rfl h1 hm ⟨SB, DB, FB, ftB, fun f _ => rB f, iB, fun f j hf => ?_, fun j _ => ?_, by rw [rB, lB]; exact c1⟩ qB k
      · rcases hf with e | e | e
        · rw [e, aB _ n31]
        · rw [e, aB _ n33]
        · rw [e, aB _ n35]
      · rw [rB, aB _ n36]
    · intro q50 e50
      refine ⟨SB.2.2.2.2.1, ?_⟩
      intro q53 e53 v56 e56 _
      rw [e53, rB, lB] at e56
      subst e56
      rw [sw_w_s (z := (sw_ln H (sw_rv H 3 6) : Int) * 2) (by omega) (by omega)]
      have free : sw_ty B (sw_n B + 2) = 0 := FB _ (Nat.le_refl _)
      have al : ∀ c, sw_ty B c ≠ 0 → c ≠ sw_n B + 2 := fun c hc e => hc (by rw [e]; exact free)
      have h3 : 3 ≠ sw_n B + 2 := al 3 (by rw [SB.1]; decide)
      obtain ⟨m1, m2, m3⟩ := room
      refine c_copyOf (by rw [e50]; exact SB.2.2.2.2.1) free (by rw [e50, rB, lB]; omega) (by omega) (by rw [fr.1]; omega) (by rw [fr.2.1]; omega) (fun W w1 w2 w3 w4 w5 w6 => ?_)
      refine ⟨by rw [w3, if_pos rfl], fun _ _ => ?_⟩
      intro V eV
      have gr : c_gr B V 6 ((sw_ln H (sw_rv H 3 6) : Int) * 2) := by
        rw [eV]
        exact c_gr_mk h3 w1 w2 w3 w4 w5 (by rw [← e50]; exact w6)
      obtain ⟨ft2, FV⟩ := c_gr_ft gr FB h3 (by decide)
      obtain ⟨a1, a2, a3, a4, a5, a6, a7, a8⟩ := gr
      have S' := SB
      obtain ⟨s1, s2, s3, s4, s5, s6, s7, s8, s9, s10, s11, s12, s13⟩ := S'
      have n4B : ¬ c_ow B 4 := fun h => n4 ((c_fr_ow fr 4).mp h)
      have n5B : ¬ c_ow B 5 := fun h => n5 ((c_fr_ow fr 5).mp h)
      have a31 := al _ (by rw [s2]; decide : sw_ty B (sw_rv B 3 1) ≠ 0)
      have a33 := al _ (by rw [s3]; decide : sw_ty B (sw_rv B 3 3) ≠ 0)
      have a35 := al _ (by rw [s4]; decide : sw_ty B (sw_rv B 3 5) ≠ 0)
      have a38 := al _ (by rw [s6]; decide : sw_ty B (sw_rv B 3 8) ≠ 0)
      have rk : ∀ f, f ≠ 6 → sw_rv V 3 f = sw_rv B 3 f := fun f hf => a6 3 f h3 (fun z => hf z.2)
      have hrow := c_row_ft s12 ft2 n4B n5B
      have l6 : sw_ln V (sw_rv V 3 6) = 2 * sw_ln H (sw_rv H 3 6) := by rw [a8, a4, if_pos rfl]; omega
      have SV : c_S V := by
        refine ⟨by rw [a3, if_neg h3]; exact s1, ?_, ?_, ?_, by rw [a8, a3, if_pos rfl], ?_, ?_, ?_, ?_, by rw [l6]; omega, ?_, hrow.1, by rw [rk 0 (by decide)]; exact s13⟩
        · rw [rk 1 (by decide), a3, if_neg a31]; exact s2
        · rw [rk 3 (by decide), a3, if_neg a33]; exact s3
        · rw [rk 5 (by decide), a3, if_neg a35]; exact s4
        · rw [rk 8 (by decide), a3, if_neg a38]; exact s6
        · rw [rk 1 (by decide), a4, if_neg a31]; exact s7
        · rw [rk 3 (by decide), a4, if_neg a33]; exact s8
        · rw [rk 5 (by decide), a4, if_neg a35]; exact s9
        · rw [rk 8 (by decide), a4, if_neg a38]; exact s11
      have DV : c_D V := by
        unfold c_D at DB ⊢
        rw [a8, rk 1 (by decide), rk 3 (by decide), rk 5 (by decide), rk 8 (by decide)]
        obtain ⟨b1, b2, b3, b4, b5, b6, b7, b8, b9, b10⟩ := DB
        exact ⟨b1, b2, a31, b4, b5, a33, b7, a35, b9, fun e => a38 e.symm⟩
      refine c_tell2 A rfl h1 hm ⟨SV, DV, FV, c_ft_trans ftB ft2, fun f hf => (rk f hf).trans (rB f), fun f => by rw [a5 3 f h3, iB], fun f j hf => ?_, fun j hj => ?_, by rw [l6]; omega⟩ ?_ k
      · rw [← rB f, a5 _ _ (by
          rcases hf with e | e | e
          · rw [e]; exact a31
          · rw [e]; exact a33
          · rw [e]; exact a35), rB, aB]
        rcases hf with e | e | e
        · rw [e]; exact n31
        · rw [e]; exact n33
        · rw [e]; exact n35
      · rw [a8, a7, if_pos (by rw [rB, lB]; omega), rB, aB _ n36]
      · have qq := c_qq_6 qB (by rw [rB, lB]; exact c1)
        unfold c_qb
        rw [l6, a1, a2, rk 1 (by decide), rk 3 (by decide), rk 5 (by decide), rk 8 (by decide), a4, a4, a4, a4, if_neg a31, if_neg a33, if_neg a35, if_neg a38]
        rw [show ((sw_n B + 1 : Nat) : Int) = (sw_n B : Int) + 1 by omega, show ((sw_s B + ((sw_ln H (sw_rv H 3 6) : Int) * 2).toNat : Nat) : Int) = (sw_s B : Int) + 2 * (sw_ln H (sw_rv H 3 6) : Int) by omega, show ((2 * sw_ln H (sw_rv H 3 6) : Nat) : Int) = 2 * (sw_ln H (sw_rv H 3 6) : Int) by omega]
        rw [rB 6, lB (sw_rv H 3 6)] at qq
        exact qq
/-- numbered -/
theorem c_numbered (A : c_A H d nn K tl) (q0 : w_no tl x = none → P 0 H) (q1 : ∀ w (t : Nat), w_no tl x = some w → c_R H t → d t = w → P t H) : wm_119 3 x H P := by
  obtain ⟨N1, N2, N3, N4, N5⟩ := A.2.2.2.2.2.2.1
  have S := A.1.1
  unfold wm_119
  refine ⟨fun c => q0 (if_neg (by omega)), fun c => ?_⟩
  intro v1 e1 _
  rw [N1] at e1
  subst e1
  have ew : w_no tl x = tl[(x - 1).toNat]? := if_pos c
  refine ⟨fun c2 => q0 (by rw [ew, List.getElem?_eq_none (by omega)]), fun c2 => ⟨S.2.2.2.2.1, ?_⟩⟩
  intro q4 e4
  subst e4
  refine ⟨by omega, by omega, ?_⟩
  intro v7 e7 _
  have hlt : (x - 1).toNat < tl.length := by omega
  have hg : tl[(x - 1).toNat]? = some tl[(x - 1).toNat] := List.getElem?_eq_getElem hlt
  obtain ⟨t, t1, t2, t3⟩ := N3 _ _ hg
  rw [show (x - 1).toNat + 1 = x.toNat by omega] at t2
  rw [e7, t2]
  exact q1 _ t (by rw [ew, hg]) t1 t3
end
end
