/-! ===== the class: create ===== -/
noncomputable section
section
variable {H G X Y : sw_H} {d e f : Nat → Wt} {nn r ra g m : Nat} {K : Wt → Prop} {tl mk mm l : List Wt} {s a b c x cn cs N U M wo : Int} {Q : sw_H → Prop} {P : Int → sw_H → Prop} {E : Nat → sw_H → Prop} {A B : List Nat} {w wa wb : Wt} {T : w_T}
/-- where a Group may lie -/
def c_pl (g : Nat) : Prop := g = 96 ∨ ∃ i, i < 24 ∧ (g = 121 + 54 * i ∨ g = 144 + 54 * i)
theorem c_pl_b (h : c_pl g) : 96 ≤ g ∧ g + 22 ≤ 1415 := by
  rcases h with h | ⟨i, hi, h | h⟩ <;> omega
theorem c_pl_m (h : c_pl g) {j : Nat} (hj : j < 24) : 120 + 54 * j < g ∨ g + 22 < 120 + 54 * j := by
  rcases h with h | ⟨i, hi, h | h⟩ <;> omega
theorem c_pl_a (h : c_pl g) {j k : Nat} (hj : j < 24) (h1 : 47 ≤ k) (h2 : k < 54) : 120 + 54 * j + k < g ∨ g + 22 < 120 + 54 * j + k := by
  rcases h with h | ⟨i, hi, h | h⟩ <;> omega
theorem c_pl_d {f : Nat} (h : c_pl g) (k : c_pl f) (n : g ≠ f) : g + 22 < f ∨ f + 22 < g := by
  rcases h with h | ⟨i, hi, h | h⟩ <;> rcases k with k | ⟨j, hj, k | k⟩ <;> omega
/-- enter, but what is kept of the group before -/
theorem c_enter {P : Nat → sw_H → Prop} {a : Nat} (t4 : sw_ty H (sw_rv H a 4) = 40) (q : ∀ Z, c_al [a] H Z → sw_n Z = sw_n H → sw_s Z = sw_s H → (∀ c, sw_ty Z c = sw_ty H c) → (∀ f, sw_iv Z a f = if f = 3 then 1 else if f = 6 then -1 else if f = 9 then 0 else if f = 11 then 0 else sw_iv H a f) → (∀ f, sw_rv Z a f = if f = 4 then g else sw_rv H a f) → P (sw_rv H a 4) Z) : wm_156 a g H P := by
  unfold wm_156
  refine ⟨t4, ?_⟩
  intro q1 e1 H7 e7 H10 e10
  unfold wm_264
  intro H11 e11 H14 e14 H17 e17
  have k7 : c_al [a] H H7 := by rw [e7]; exact c_al_sr _ _ _ _
  have k10 : c_al [a] H H10 := c_al_t k7 (by rw [e10]; exact c_al_si _ _ _ _)
  have k11 : c_al [a] H H11 := c_al_t k10 (by rw [e11]; exact c_al_si _ _ _ _)
  have k14 : c_al [a] H H14 := c_al_t k11 (by rw [e14]; exact c_al_si _ _ _ _)
  have k17 : c_al [a] H H17 := c_al_t k14 (by rw [e17]; exact c_al_si _ _ _ _)
  intro _
  rw [e1]
  refine q H17 k17 (by rw [e17, e14, e11, e10, e7]; rfl) (by rw [e17, e14, e11, e10, e7]; rfl) (fun c => by rw [e17, e14, e11, e10, e7]; rfl) (fun f => ?_) (fun f => ?_)
  · have i7 : ∀ f, sw_iv H7 a f = sw_iv H a f := fun f => by rw [e7]; rfl
    by_cases c11 : f = 11
    · subst c11
      rw [e17, c_si_eq]
      rfl
    by_cases c9 : f = 9
    · subst c9
      rw [e17, c_si_f (by decide), e14, c_si_eq]
      rfl
    by_cases c6 : f = 6
    · subst c6
      rw [e17, c_si_f (by decide), e14, c_si_f (by decide), e11, c_si_eq]
      rfl
    by_cases c3 : f = 3
    · subst c3
      rw [e17, c_si_f (by decide), e14, c_si_f (by decide), e11, c_si_f (by decide), e10, c_si_eq]
      rfl
    rw [if_neg c3, if_neg c6, if_neg c9, if_neg c11, e17, c_si_f c11, e14, c_si_f c9, e11, c_si_f c6, e10, c_si_f c3, i7]
  · have r17 : sw_rv H17 a f = sw_rv H7 a f := by rw [e17, e14, e11, e10]; rfl
    rw [r17, e7]
    by_cases c : f = 4
    · rw [if_pos c, c, c_sr_eq]
    · rw [if_neg c, c_sr_f c]
theorem c_create (lm : c_lm cn cs N U M) (hW : c_W H mk nn K tl cn cs) (hO : c_O H) (hM : c_MS H mk) (h48 : sw_ty H 1422 = 48) (h01 : ∀ m, m < 24 → sw_iv H (120 + 54 * m) 3 = 0 ∨ sw_iv H (120 + 54 * m) 3 = 1) (hpl : ∀ m, m < 24 → c_pl (sw_rv H (120 + 54 * m) 5) ∧ c_gs H (sw_rv H (120 + 54 * m) 5) ∧ sw_ty H (sw_rv H (120 + 54 * m) 4) = 40 ∧ c_pl (sw_rv H (120 + 54 * m) 4)) (rm : sw_n H < sxlim.1 ∧ sw_s H + 6 ≤ sxlim.2) (bd : ∀ m : Nat, x = m → m < 24 → sw_iv H (120 + 54 * m) 3 = 0 → c_bl (w_tls mk (w_crL m nn)) tl N U M) (q1 : ¬ (0 ≤ x ∧ x < 24) → E (sw_n H + 2) (sw_nw H 112 0 6)) (q2 : ∀ m : Nat, x = m → m < 24 → sw_iv H (120 + 54 * m) 3 = 1 → E (sw_n H + 2) (sw_nw H 120 0 6)) (q : ∀ (m g : Nat) X, x = m → m < 24 → sw_iv H (120 + 54 * m) 3 = 0 → g = sw_rv H (120 + 54 * m) 5 → c_W X (w_tls mk (w_crL m nn)) (nn + 2) K tl cn cs → c_gp X (w_tls mk (w_crL m nn)) g (w_G0 m nn) → (∀ f, sw_iv X (120 + 54 * m) f = if f = 3 then 1 else if f = 6 then -1 else if f = 9 then 0 else if f = 11 then 0 else sw_iv H (120 + 54 * m) f) → (∀ f, sw_rv X (120 + 54 * m) f = if f = 5 then sw_rv H (120 + 54 * m) 4 else if f = 4 then g else sw_rv H (120 + 54 * m) f) → c_ch [14, 15, 16, 1422, 120 + 54 * m, g, g + 1, g + 2, g + 3, g + 4, g + 6, g + 22] H X → Q X) : wm_65 2 x H Q E := by
  have o0 : sw_rv H 2 0 = 3 := hO.2.1
  have o1 : sw_rv H 2 1 = 11 := hO.2.2.1
  have o12 : sw_rv H 2 12 = 1422 := hO.2.2.2.2.2.2.2.2.2.2.2.2.1
  have fl := hW.1.2.2.2.1
  have ad := hW.1.2.2.2.2
  unfold wm_65
  refine c_memberAt hO hM rm (fun m em hm => ?_) q1
  obtain ⟨_, k2, k3, k4, k5⟩ := hM.2.2 m hm
  refine ⟨k2, fun _ _ => ?_⟩
  intro v9 e9 _
  have h3 := h01 m hm
  refine ⟨?_, fun c0 => ⟨rm.1, rm.2, fun H80 e80 => by rw [e80]; exact q2 m em hm (by omega)⟩⟩
  intro c0
  have in0 : sw_iv H (120 + 54 * m) 3 = 0 := by omega
  have bd := bd m em hm in0
  have q := fun g X => q m g X em hm in0
  rw [w_crL_tls] at bd q
  have ees : w_es0 m nn = w_t 3 (w_nm (nn + 1)) [0] [] (w_ctx (w_T0 m (w_ky nn)) 0 []) := rfl
  have egi : gg_in (w_G0 m nn) = w_int [] (w_cfm (w_es0 m nn) []) := rfl
  have ege : gg_es (w_G0 m nn) = w_es0 m nn := rfl
  obtain ⟨es, ee⟩ : ∃ es, es = w_es0 m nn := ⟨_, rfl⟩
  rw [← ee] at bd q ees egi ege
  have b8 := c_bl_le (w_le_tl _ _) bd
  have b7 := c_bl_le (w_le_tl _ _) b8
  have b6 := c_bl_le (w_le_tl _ _) b7
  have b5 := c_bl_le (w_le_tl _ _) b6
  have b4 := c_bl_le (w_tls_le _ _) b5
  have b3 := c_bl_le (w_le_tl _ _) b4
  have b2 := c_bl_le (w_le_tl _ _) b3
  have b1 := c_bl_le (w_le_tl _ _) b2
  have b0 := c_bl_le (w_le_tl _ _) b1
  obtain ⟨hp5, hgs, t40, hp4⟩ := hpl m hm
  obtain ⟨g, eg⟩ : ∃ g, g = sw_rv H (120 + 54 * m) 5 := ⟨_, rfl⟩
  have q := fun X => q g X eg
  rw [← eg] at hp5 hgs
  have gb := c_pl_b hp5
  have gm := c_pl_m hp5 hm
  have g4b := c_pl_b hp4
  have fm : c_fix (120 + 54 * m) := by unfold c_fix; omega
  have f2 : c_fix 2 := by unfold c_fix; omega
  have f1422 : c_fix 1422 := by unfold c_fix; omega
  have f3 : ∀ {A : List Nat} {Z : sw_H}, c_ch A H Z → 2 ∉ A → sw_rv Z 2 0 = 3 ∧ sw_rv Z 2 1 = 11 ∧ sw_rv Z 2 12 = 1422 := fun {A Z} k h2 => by
    have := (c_fx_iv fl ad k f2 h2).2
    exact ⟨by rw [this]; exact o0, by rw [this]; exact o1, by rw [this]; exact o12⟩
  rw [o0]
  refine ⟨hW.1.1.1.1.1.1, ?_⟩
  intro q12 e12
  rw [e12]
  refine c_nameL lm hW.1 b0 (fun X1 t1 V1 a1 c1 _ _ => ?_)
  have W1 := c_W_ch hW V1 c1 (by simp) (w_le_tl _ _)
  have mv1 := c_fx_iv fl ad c1 fm (by simp)
  have O1 : c_O X1 := c_O_ch hO c1 ad fl (by simp)
  have M1 : c_MS X1 (w_tl mk (w_nm nn)) := c_MS_ch hM fl ad c1 (by simp) (fun _ _ h => by simp at h) (w_le_tl _ _)
  refine c_writeLeaf (num := 0) (ws := w_nm nn) lm W1 O1 M1 (by rw [(c_fx_ty fl c1 f1422).1]; exact h48) hm a1 (Or.inl rfl) (Or.inl ⟨by rw [mv1.1]; exact in0, rfl⟩) b3 (fun X2 W2 lf2 a2 c2 _ => ?_)
  have c02 : c_ch [14, 15, 1422] H X2 := c_ch_sub (c_ch_trans c1 c2) (by simp)
  have mv2 := c_fx_iv fl ad c02 fm (by simp; omega)
  have gs2 : c_gs X2 g := c_gs_ch hgs fl ad c02 (fun a ha _ => by simp at ha; omega) (fun hm => by simp at hm; omega)
  rw [mv2.2, ← eg]
  refine ⟨gs2.2.2.1, ?_⟩
  intro q28 e28
  rw [e28]
  refine c_groupClear gs2 (fun H34 f34 z2 z3 z5 zt zz zs _ => ?_)
  have gA : ∀ a ∈ [g, g + 1, g + 2, g + 3, g + 4, g + 22], c_fix a ∧ (15 < a ∨ a = 2) := fun a ha => by simp at ha; unfold c_fix; omega
  have W34 := c_W_fr W2 f34 gA
  have gs34 := c_gs_fr gs2 f34
  have c34 := c_V_ch W2.1 f34 (fun a ha => (gA a ha).1)
  have c034 : c_ch [14, 15, 1422, g, g + 1, g + 2, g + 3, g + 4, g + 22] H H34 := c_ch_sub (c_ch_trans c02 c34) (by simp)
  obtain ⟨p0, p1, p12⟩ := f3 c034 (by simp; omega)
  rw [gs34.2.2.2.1, p12]
  refine ⟨gs34.2.2.2.2.2.2.2.2.2.1, ?_⟩
  intro q39 e39
  refine ⟨by rw [(c_fx_ty fl c034 f1422).1]; exact h48, ?_⟩
  intro q42 e42
  rw [e39, e42]
  refine c_putLeaf (k := 0) gs34.2.2.2.2.2.2.2 (by omega) (by omega) (fun H45 f45 h45 hk45 hp45 _ => ?_)
  have lA : ∀ a ∈ [g + 1 + 5 + 0, g + 1 + 1, g + 1 + 2], c_fix a ∧ (15 < a ∨ a = 2) := fun a ha => by simp at ha; unfold c_fix; omega
  have W45 := c_W_fr W34 f45 lA
  have gs45 := c_gs_fr gs34 f45
  have c45 := c_V_ch W34.1 f45 (fun a ha => (lA a ha).1)
  have o1422 : ∀ f, sw_iv H34 1422 f = sw_iv X2 1422 f := fun f => by rw [f34.2.2.2.2.2 1422 (by simp; omega)]
  rw [gs45.2.2.2.2.1]
  refine ⟨gs45.2.2.2.2.2.1, ?_⟩
  intro q50 e50
  rw [e50]
  refine ⟨by rw [gs45.2.2.2.2.2.2.1]; decide, ?_⟩
  intro H53 e53
  have f53 : c_fr [g + 22] H45 H53 := by rw [e53]; exact c_fr_si _ _ _ _
  have sA : ∀ a ∈ [g + 22], c_fix a ∧ (15 < a ∨ a = 2) := fun a ha => by simp at ha; unfold c_fix; omega
  have W53 := c_W_fr W45 f53 sA
  have gs53 := c_gs_fr gs45 f53
  have c53 := c_V_ch W45.1 f53 (fun a ha => (sA a ha).1)
  have c053 : c_ch [14, 15, 1422, g, g + 1, g + 2, g + 3, g + 4, g + 6, g + 22] H H53 := c_ch_sub (c_ch_trans c034 (c_ch_trans c45 c53)) (by simp)
  have s53 : ∀ j, j < 31 → sw_iv H53 (g + 22) j = if j = 0 then t1 else 0 := fun j hj => by
    rw [e53]
    by_cases c : j = 0
    · rw [if_pos c, c, c_si_eq]
    · rw [if_neg c, c_si_f c, f45.2.2.2.2.2 (g + 22) (by simp), zs j hj]
  have iv53 : ∀ f, sw_iv H53 g f = sw_iv H34 g f := fun f => by rw [f53.2.2.2.2.2 g (by simp), f45.2.2.2.2.2 g (by simp; omega)]
  -- the tree
  have tr53 : c_tr H53 (w_tl (w_tl (w_tl mk (w_nm nn)) (w_ky nn)) (w_lsg m (w_ky nn) 1 [] 0)) (g + 1) (w_T0 m (w_ky nn)) := by
    obtain ⟨l0, l1, l2, l3, l4, l5, l6⟩ := lf2
    have v : ∀ q, q ≠ g + 22 → sw_iv H53 q = sw_iv H45 q := fun q hq => f53.2.2.2.2.2 q (by simpa using hq)
    refine ⟨gs53.2.2.2.2.2.2.2, w_T0_ok m hm nn, ?_, fun y hy => ?_, fun y hy hy2 => ?_, fun k hk hn => ?_⟩
    · rw [v (g + 1) (by omega), f45.2.2.2.2.2 (g + 1) (by simp), zt]
      rfl
    · have hy0 : y = 0 := by
        have : y < 1 := hy
        omega
      subst hy0
      rw [v (g + 1 + 1) (by omega), v (g + 1 + 2) (by omega), v (g + 1 + 3) (by omega), hk45, hp45, if_pos rfl, if_pos rfl, o1422, o1422, f45.2.2.2.2.2 (g + 1 + 3) (by simp)]
      have := zz 4 0 (by omega) (by omega) (by omega)
      rw [show g + 1 + 3 = g + 4 by omega, this]
      exact ⟨Or.inr l1, l4, rfl⟩
    · have hy1 : 1 ≤ y := hy
      rw [v (g + 1 + 1) (by omega), v (g + 1 + 2) (by omega), v (g + 1 + 3) (by omega), hk45, hp45, if_neg (by omega), if_neg (by omega), f45.2.2.2.2.2 (g + 1 + 3) (by simp)]
      rw [show g + 1 + 1 = g + 2 by omega, show g + 1 + 2 = g + 3 by omega, show g + 1 + 3 = g + 4 by omega]
      exact ⟨zz 2 y (by omega) (by omega) hy2, zz 3 y (by omega) (by omega) hy2, zz 4 y (by omega) (by omega) hy2⟩
    · have hk0 : k = 0 := by
        have : 2 * k < 1 := hk
        omega
      subst hk0
      have iv : ∀ f, f < 6 → sw_iv H53 (g + 1 + 5 + 0) f = sw_iv X2 1422 f := fun f hf => by rw [v _ (by omega), h45 f hf, o1422]
      refine ⟨⟨by rw [iv 0 (by omega)]; exact l0, by rw [iv 1 (by omega)]; exact l1, by rw [iv 2 (by omega)]; exact l2, by rw [iv 3 (by omega)]; exact l3, by rw [iv 4 (by omega)]; exact l4, l5, l6⟩, ?_⟩
      rw [iv 5 (by omega)]
      exact a2
  obtain ⟨p0, p1, p12⟩ := f3 c053 (by simp; omega)
  rw [p1]
  refine ⟨W53.2.1.1, ?_⟩
  intro q56 e56
  rw [p0]
  refine ⟨W53.1.1.1.1.1.1, ?_⟩
  intro q59 e59
  rw [e56, e59]
  refine c_nameL lm W53.1 b3 (fun X6 t6 V6 a6 c6 _ _ => ?_)
  have W6 := c_W_ch W53 V6 c6 (by simp) (w_le_tl _ _)
  have tr6 := c_tr_ch tr53 W53.1.2.2.2.1 W53.1.2.2.2.2 c6 (by simp) (w_le_tl _ (w_nm (nn + 1)))
  have fg : c_fix g := by unfold c_fix; omega
  have gv6 := c_fx_iv W53.1.2.2.2.1 W53.1.2.2.2.2 c6 fg (by simp)
  have gs6 : c_gs X6 g := c_gs_ch gs53 W53.1.2.2.2.1 W53.1.2.2.2.2 c6 (by simp) (by simp)
  refine c_startEpoch (cf := []) (ep := 0) ees lm W6 gs6 tr6 (by rw [gv6.1, iv53, z2]) (by rw [gv6.1, iv53, z5]; exact Or.inl ⟨rfl, rfl⟩) a6 bd (fun t7 X7 W7 aa a4 a7 a66 hk7 hr7 c7 _ _ => ?_)
  have gs7 : c_gs X7 g := c_gs_ch gs6 W6.1.2.2.2.1 W6.1.2.2.2.2 c7 (fun a ha hne => by simp at ha; omega) (fun _ => hr7)
  have c07 : c_ch [14, 15, 16, 1422, g, g + 1, g + 2, g + 3, g + 4, g + 6, g + 22] H X7 := c_ch_sub (c_ch_trans c053 (c_ch_trans c6 c7)) (by simp)
  have mv7 := c_fx_iv fl ad c07 fm (by simp; omega)
  have ty7 : ∀ {q : Nat}, c_fix q → sw_ty X7 q = sw_ty H q := fun {q} hq => (c_fx_ty fl c07 hq).1
  have f4 : c_fix (sw_rv H (120 + 54 * m) 4) := by unfold c_fix; omega
  have s7 : ∀ j, j < 31 → sw_iv X7 (g + 22) j = if j = 0 then t1 else 0 := fun j hj => by
    have f22 : c_fix (g + 22) := by unfold c_fix; omega
    rw [(c_fx_iv W6.1.2.2.2.1 W6.1.2.2.2.2 c7 f22 (by simp)).1, (c_fx_iv W53.1.2.2.2.1 W53.1.2.2.2.2 c6 f22 (by simp)).1]
    exact s53 j hj
  have le6 : w_le (w_tl (w_tl (w_tl (w_tl mk (w_nm nn)) (w_ky nn)) (w_lsg m (w_ky nn) 1 [] 0)) (w_nm (nn + 1))) (w_tl (w_tl (w_tl (w_tl (w_mkh (w_T0 m (w_ky nn)) 0 (t_top (w_T0 m (w_ky nn))) (w_tl (w_tl (w_tl (w_tl mk (w_nm nn)) (w_ky nn)) (w_lsg m (w_ky nn) 1 [] 0)) (w_nm (nn + 1)))) es) (w_t 3 es [2] [] [])) (w_cfm es [])) (w_int [] (w_cfm es []))) := w_le_trans (w_tls_le _ _) (w_le_trans (w_le_tl _ _) (w_le_trans (w_le_tl _ _) (w_le_trans (w_le_tl _ _) (w_le_tl _ _))))
  have tr7 := c_tr_ch tr6 W6.1.2.2.2.1 W6.1.2.2.2.2 c7 (fun a ha => by simp at ha; omega) le6
  have gp7 : c_gp X7 (w_tl (w_tl (w_tl (w_tl (w_mkh (w_T0 m (w_ky nn)) 0 (t_top (w_T0 m (w_ky nn))) (w_tl (w_tl (w_tl (w_tl mk (w_nm nn)) (w_ky nn)) (w_lsg m (w_ky nn) 1 [] 0)) (w_nm (nn + 1)))) es) (w_t 3 es [2] [] [])) (w_cfm es [])) (w_int [] (w_cfm es []))) g (w_G0 m nn) := by
    refine ⟨gs7, w_G0_ok m nn, ?_, ?_, tr7, a4, ?_, by rw [egi]; exact a66, by rw [ege]; exact a7, fun y hy => ?_, fun y hy hy2 => ?_⟩
    · rw [hk7 2 (by decide) (by decide) (by decide), gv6.1, iv53, z2]; rfl
    · rw [hk7 3 (by decide) (by decide) (by decide), gv6.1, iv53, z3]; rfl
    · rw [hk7 5 (by decide) (by decide) (by decide), gv6.1, iv53, z5]; exact Or.inl ⟨rfl, rfl⟩
    · have hy0 : y = 0 := by
        have : y < 1 := hy
        omega
      subst hy0
      rw [s7 0 (by omega), if_pos rfl]
      exact Or.inr (w_le_at (w_le_trans (w_le_tl _ _) (w_le_trans (w_le_tl _ _) (w_le_trans (w_le_tl _ _) le6))) a1)
    · have hy1 : 1 ≤ y := hy
      rw [s7 y hy2, if_neg (by omega)]
  refine c_enter (by rw [mv7.2, ty7 f4]; exact t40) (fun Z kZ nZ sZ tZ iZ rZ => ?_)
  have mA : ∀ a ∈ [120 + 54 * m], c_fix a ∧ (15 < a ∨ a = 2) := fun a ha => by simp at ha; rw [ha]; exact ⟨fm, by omega⟩
  have e4 : sw_rv X7 (120 + 54 * m) 4 = sw_rv H (120 + 54 * m) 4 := mv7.2 4
  rw [e4]
  refine ⟨by rw [tZ, ty7 f4]; exact t40, fun _ _ => ?_⟩
  intro H77 e77
  have k77 : c_al [120 + 54 * m] X7 H77 := c_al_t kZ (by rw [e77]; exact c_al_sr _ _ _ _)
  have W77 := c_W_al W7 k77 (by rw [e77]; exact nZ) (by rw [e77]; exact sZ) mA (fun c => by rw [e77]; exact tZ c)
  have c77 := c_W_alch W7 k77 (fun a ha => (mA a ha).2)
  refine q H77 W77 (c_gp_ch gp7 W7.1.2.2.2.1 W7.1.2.2.2.2 c77 (fun a ha => by simp at ha; omega) (w_le_refl _)) (fun f => ?_) (fun f => ?_) (c_ch_sub (c_ch_trans c07 c77) (by simp))
  · have : sw_iv H77 (120 + 54 * m) f = sw_iv Z (120 + 54 * m) f := by rw [e77]; rfl
    rw [this, iZ, mv7.1]
  · rw [e77]
    by_cases c5 : f = 5
    · rw [if_pos c5, c5, c_sr_eq]
    · rw [if_neg c5, c_sr_f c5, rZ, mv7.2]
end
end
