/-! ===== the class: offer, with what is kept of proposals ===== -/
noncomputable section
section
variable {H Z : sw_H} {nn nm m : Nat} {K K' : Wt → Prop} {tl tl' tp mk mm : List Wt} {rd : Nat → Int} {ms : List (List Wt)} {cn cs : Int} {A : List Nat} {La : Nat → List (Wt × Nat)}
theorem c_KS_hl (hV : c_V H mk nn K tl cn cs) (hX : c_X H mk tp rd ms) (hK : c_KS H mk ms La) (k : c_ch A H Z) (hl : w_le mk mm) (hA : ∀ a ∈ A, c_hl a) : c_KS Z mm ms La := by
  have fl := hV.2.2.2.1
  have ad := hV.2.2.2.2
  refine c_KS_ch hV hX hK k hl (fun c => by have := hA _ c; unfold c_hl at this; omega) (fun m hm => ?_) (fun i hi c => ?_)
  · obtain ⟨e1, e2⟩ := c_fx_iv fl ad k (q := 120 + 54 * m) (by unfold c_fix; omega) (fun c => by have := hA _ c; unfold c_hl at this; omega)
    obtain ⟨kp, _⟩ := hK.1 m hm
    have n7 : c_ka H m 7 ∉ A := fun c => by
      have := hA _ c
      unfold c_hl at this
      have := kp.2.2.2.2.2.1
      omega
    have n8 : c_ka H m 8 ∉ A := fun c => by
      have := hA _ c
      unfold c_hl at this
      have := kp.2.2.2.2.2.2
      omega
    exact ⟨e1 9, e2 7, e2 8, n7, n8⟩
  · obtain ⟨l, hl⟩ : ∃ l, ms[i]? = some l := ⟨ms[i]'hi, List.getElem?_eq_getElem hi⟩
    obtain ⟨g1, _⟩ := hX.2.2.2.2.2 i l hl
    have := hA _ c
    unfold c_hl at this
    omega
theorem c_KS_mb (hm : m < 24) (hV : c_V H mk nn K tl cn cs) (hX : c_X H mk tp rd ms) (hK : c_KS H mk ms La) (f : c_fr [120 + 54 * m, 120 + 54 * m + 50, 120 + 54 * m + 51, 120 + 54 * m + 52, 120 + 54 * m + 53] H Z) (k : c_ch [120 + 54 * m, 120 + 54 * m + 50, 120 + 54 * m + 51, 120 + 54 * m + 52, 120 + 54 * m + 53] H Z) (h9 : sw_iv Z (120 + 54 * m) 9 = sw_iv H (120 + 54 * m) 9) : c_KS Z mk ms La := by
  refine c_KS_ch hV hX hK k (w_le_refl _) (by simp; omega) (fun j hj => ?_) (fun i hi c => ?_)
  · obtain ⟨kp, _⟩ := hK.1 j hj
    have k7 := kp.2.2.2.2.2.1
    have k8 := kp.2.2.2.2.2.2
    refine ⟨?_, f.2.2.2.2.1 _ _, f.2.2.2.2.1 _ _, by simp; omega, by simp; omega⟩
    by_cases cj : j = m
    · subst cj; exact h9
    · rw [f.2.2.2.2.2 (120 + 54 * j) (by simp; omega)]
  · obtain ⟨l, hl⟩ : ∃ l, ms[i]? = some l := ⟨ms[i]'hi, List.getElem?_eq_getElem hi⟩
    obtain ⟨g1, _⟩ := hX.2.2.2.2.2 i l hl
    simp at c
    omega
end
section
variable {H G X Y : sw_H} {d e f : Nat → Wt} {nn nm r ra g m : Nat} {K K' : Wt → Prop} {tl tl' tp mk mm l : List Wt} {ms : List (List Wt)} {rd : Nat → Int} {s a b c x cn cs cn' cs' N U M wo : Int} {Q : sw_H → Prop} {P : Int → sw_H → Prop} {E : Nat → sw_H → Prop} {A B : List Nat} {w wa wb : Wt} {T : w_T}
theorem cc_offer {La : Nat → List (Wt × Nat)} {Lk : Nat → List (Nat × Wt × Wt)} (lm : c_lm cn cs N U M) (lm2 : c_lm (cn + 2) (cs + 2 + 9) N U M) (hW : c_W H mk nn K tl cn cs) (hX : c_X H mk tp rd ms) (hM : c_MS H mk) (hKS : c_KS H mk ms La) (h48 : sw_ty H 1422 = 48) (hOut : c_Out H) (hma : ∀ m, m < 24 → c_ma H m) (hpk : ∀ m, m < 24 → c_pk H mk ms m (Lk m)) (hin : ∀ m, m < 24 → sw_iv H (120 + 54 * m) 3 = 0 ∨ (sw_iv H (120 + 54 * m) 3 ≠ 0 ∧ sw_ty H (sw_rv H (120 + 54 * m) 4) = 40 ∧ c_pl (sw_rv H (120 + 54 * m) 4))) (rm : sw_n H < sxlim.1 ∧ sw_s H + 6 ≤ sxlim.2) (bd : ∀ m : Nat, x = m → m < 24 → ms.length < 300 → (Lk m).length < 8 → c_bl (w_tls mk (w_ofC m nn)) tl N U M) (q1 : ¬ (0 ≤ x ∧ x < 24) → E (sw_n H + 2) (sw_nw H 112 0 6)) (q2 : ∀ m : Nat, x = m → m < 24 → ms.length = 300 ∨ (Lk m).length = 8 → E (sw_n H + 2) (sw_nw H 120 0 6)) (q : ∀ (m : Nat) X, x = m → m < 24 → ms.length < 300 → (Lk m).length < 8 → c_W X (w_tls mk (w_ofC m nn)) (nn + 2) (w_lrs K (w_pkg m (w_ky nn) (w_ky (nn + 1)))) tl (cn + 2) (cs + 2 + 9) → c_X X (w_tls mk (w_ofC m nn)) tp rd (ms ++ [w_pkg m (w_ky nn) (w_ky (nn + 1))]) → c_pk X (w_tls mk (w_ofC m nn)) (ms ++ [w_pkg m (w_ky nn) (w_ky (nn + 1))]) m (Lk m ++ [(ms.length, w_nm nn, w_nm (nn + 1))]) → (∀ f, sw_iv X (120 + 54 * m) f = if f = 16 then ((Lk m).length : Int) + 1 else sw_iv H (120 + 54 * m) f) → (∀ f, sw_rv X (120 + 54 * m) f = sw_rv H (120 + 54 * m) f) → c_Out X → c_KS X (w_tls mk (w_ofC m nn)) (ms ++ [w_pkg m (w_ky nn) (w_ky (nn + 1))]) La → c_ch [14, 15, 1422, 1420, 1421, 2, 1416, 120 + 54 * m, 120 + 54 * m + 50, 120 + 54 * m + 51, 120 + 54 * m + 52, 120 + 54 * m + 53] H X → P ms.length X) : wm_74 2 x H P E := by
  have hO := hX.1
  have o0 : sw_rv H 2 0 = 3 := hO.2.1
  have o1 : sw_rv H 2 1 = 11 := hO.2.2.1
  have o11 : sw_rv H 2 11 = 1420 := hO.2.2.2.2.2.2.2.2.2.2.2.1
  have o12 : sw_rv H 2 12 = 1422 := hO.2.2.2.2.2.2.2.2.2.2.2.2.1
  have fl := hW.1.2.2.2.1
  have ad := hW.1.2.2.2.2
  have h22 := hX.2.2.2.1
  have h300 := hX.2.2.2.2.1
  have thr : E (sw_n H + 2) (sw_nw H 120 0 6) → wb_74_12 P E H := fun h => ⟨rm.1, rm.2, fun H1 e1 => by rw [e1]; exact h⟩
  unfold wm_74
  refine c_memberAt hO hM rm (fun m em hm => ?_) q1
  obtain ⟨_, k2, k3, k4, k5⟩ := hM.2.2 m hm
  have pm := hpk m hm
  have mam := hma m hm
  refine ⟨k2, fun _ _ => ?_⟩
  intro v11 e11 _
  rw [h22] at e11
  refine ⟨fun c => thr (q2 m em hm (by omega)), fun c3 => ?_⟩
  intro v14 e14 _
  have p16 := pm.1
  have p8 := pm.2.1
  rw [p16] at e14
  refine ⟨?_, fun c => thr (q2 m em hm (by omega))⟩
  intro c8
  have l3 : ms.length < 300 := by omega
  have l8 : (Lk m).length < 8 := by omega
  have bd := bd m em hm l3 l8
  have q := fun X => q m X em hm l3 l8
  have hin := hin m hm
  generalize Lk m = L at *
  clear p16 e14 c8 e11 c3
  rw [w_ofC_tls] at bd q
  have b6 := c_bl_le (w_le_tl _ _) bd
  have b5 := c_bl_le (w_le_tl _ _) b6
  have b4 := c_bl_le (w_le_tl _ _) b5
  have b3 := c_bl_le (w_le_tl _ _) b4
  have b2 := c_bl_le (w_le_tl _ _) b3
  have b1 := c_bl_le (w_le_tl _ _) b2
  have b0 := c_bl_le (w_le_tl _ _) b1
  have fm : c_fix (120 + 54 * m) := by unfold c_fix; omega
  have f2 : c_fix 2 := by unfold c_fix; omega
  have f1422 : c_fix 1422 := by unfold c_fix; omega
  have f1420 : c_fix 1420 := by unfold c_fix; omega
  have f1421 : c_fix 1421 := by unfold c_fix; omega
  have oo : ∀ {A : List Nat} {Z : sw_H}, c_ch A H Z → 2 ∉ A → sw_rv Z 2 0 = 3 ∧ sw_rv Z 2 1 = 11 ∧ sw_rv Z 2 11 = 1420 ∧ sw_rv Z 2 12 = 1422 ∧ sw_ty Z 1420 = 80 ∧ sw_ty Z 1422 = 48 := fun {A Z} k h2 => by
    have := (c_fx_iv fl ad k f2 h2).2
    obtain ⟨_, s, hr⟩ := hOut
    exact ⟨by rw [this]; exact o0, by rw [this]; exact o1, by rw [this]; exact o11, by rw [this]; exact o12, by rw [(c_fx_ty fl k f1420).1]; exact hr.1, by rw [(c_fx_ty fl k f1422).1]; exact h48⟩
  rw [o0]
  refine ⟨hW.1.1.1.1.1.1, ?_⟩
  intro q17 e17
  rw [e17]
  refine c_nameL lm hW.1 b0 (fun X1 t1 V1 a1 c1 _ _ => ?_)
  have W1 := c_W_ch hW V1 c1 (by simp) (w_le_tl _ _)
  obtain ⟨p0, p1, p11, p12, p80, p48⟩ := oo c1 (by simp)
  rw [p0]
  refine ⟨W1.1.1.1.1.1.1, ?_⟩
  intro q28 e28
  rw [e28]
  refine c_nameL lm W1.1 b1 (fun X2 t2 V2 a2 c2 _ _ => ?_)
  have W2 := c_W_ch W1 V2 c2 (by simp) (w_le_tl _ _)
  have c02 : c_ch [] H X2 := c_ch_sub (c_ch_trans c1 c2) (by simp)
  have mv2 := c_fx_iv fl ad c02 fm (by simp)
  have le2 : w_le mk (w_tl (w_tl mk (w_nm nn)) (w_nm (nn + 1))) := w_le_trans (w_le_tl _ _) (w_le_tl _ _)
  have O2 : c_O X2 := c_O_ch hO c02 ad fl (by simp)
  have M2 := c_MS_ch hM fl ad c02 (by simp) (fun _ _ h => by simp at h) le2
  obtain ⟨num, hnum⟩ : ∃ num : Int, (sw_iv X2 (120 + 54 * m) 3 = 0 ∧ num = 0) ∨ (sw_iv X2 (120 + 54 * m) 3 ≠ 0 ∧ sw_ty X2 (sw_rv X2 (120 + 54 * m) 4) = 40 ∧ c_fix (sw_rv X2 (120 + 54 * m) 4) ∧ 15 < sw_rv X2 (120 + 54 * m) 4 ∧ sw_rv X2 (120 + 54 * m) 4 ≠ 1422 ∧ sw_iv X2 (sw_rv X2 (120 + 54 * m) 4) 3 = num) := by
    rcases hin with h | ⟨h1, h2, h3⟩
    · exact ⟨0, Or.inl ⟨by rw [mv2.1]; exact h, rfl⟩⟩
    · have gb := c_pl_b h3
      have fg : c_fix (sw_rv H (120 + 54 * m) 4) := by unfold c_fix; omega
      refine ⟨_, Or.inr ⟨by rw [mv2.1]; exact h1, by rw [mv2.2, (c_fx_ty fl c02 fg).1]; exact h2, by rw [mv2.2]; exact fg, by rw [mv2.2]; omega, by rw [mv2.2]; omega, rfl⟩⟩
  have el := w_lsg_1 m (w_ky (nn + 1)) [] num
  refine c_writeLeaf (num := num) (ws := w_nm (nn + 1)) lm W2 O2 M2 (oo c02 (by simp)).2.2.2.2.2 hm a2 (Or.inl rfl) hnum (by rw [show w_t 5 (w_nm (nn + 1)) [] [] [] = w_ky (nn + 1) from rfl, el]; exact b4) (fun X3 W3 lf3 a3 c3 _ => ?_)
  rw [show w_t 5 (w_nm (nn + 1)) [] [] [] = w_ky (nn + 1) from rfl, el] at W3 lf3 a3
  clear hnum el
  have c03 : c_ch [14, 15, 1422] H X3 := c_ch_sub (c_ch_trans c02 c3) (by simp)
  obtain ⟨p0, p1, p11, p12, p80, p48⟩ := oo c03 (by simp)
  have Out3 : c_Out X3 := by
    obtain ⟨h1, s, hr⟩ := hOut
    exact ⟨by rw [(c_fx_ty fl c03 f1421).2]; exact h1, s, c_row_ch hr c03 (c_fix_no ad f1420) (c_fix_no ad f1421) (by simp) (by simp)⟩
  rw [p11]
  refine ⟨p80, ?_⟩
  intro q44 e44
  rw [e44]
  refine c_out_clear W3 Out3 (fun H4 W4 r4 f4 l4 _ => ?_)
  have rA : ∀ a ∈ [1420, 1421], c_fix a ∧ (15 < a ∨ a = 2) := fun a ha => by simp at ha; unfold c_fix; omega
  have c4 := c_V_ch W3.1 f4 (fun a ha => (rA a ha).1)
  have c04 : c_ch [14, 15, 1422, 1420, 1421] H H4 := c_ch_sub (c_ch_trans c03 c4) (by simp)
  have ml := c_W_len lm bd
  have n4 := w_le_len (w_le_trans (w_le_tl (w_tl (w_tl (w_tl (w_tl mk (w_nm nn)) (w_nm (nn + 1))) (w_ky (nn + 1))) (w_lsg m (w_ky (nn + 1)) 1 [] 0)) (w_ky nn)) (w_le_trans (w_le_tl _ (w_t 7 (w_nm m) [] [] (w_pkb m (w_ky nn) (w_ky (nn + 1))))) (w_le_tl _ (w_t 1 [] [] [] (w_pkg m (w_ky nn) (w_ky (nn + 1)))))))
  obtain ⟨p0, p1, p11, p12, p80, p48⟩ := oo c04 (by simp)
  rw [p11]
  refine ⟨p80, ?_⟩
  intro q52 e52
  rw [e52]
  refine c_s_byte r4 (by rw [l4]; simp) (by omega) (by omega) (fun H5 r5 f5 _ => ?_)
  have W5 := c_W_fr W4 f5 rA
  have c05 : c_ch [14, 15, 1422, 1420, 1421] H H5 := c_ch_sub (c_ch_trans c04 (c_V_ch W4.1 f5 (fun a ha => (rA a ha).1))) (by simp)
  obtain ⟨p0, p1, p11, p12, p80, p48⟩ := oo c05 (by simp)
  rw [p11, p1]
  refine ⟨p80, ?_⟩
  intro q60 e60
  refine ⟨W5.2.1.1, ?_⟩
  intro q63 e63
  rw [e60, e63]
  have lX : ∀ {Z : sw_H} {A : List Nat}, c_ch A H Z → sw_ln Z 1421 = 1400 := fun {Z A} k => by rw [(c_fx_ty fl k f1421).2]; exact hOut.1
  refine c_pub lm W5 (w_le_at (w_le_trans (w_le_tl _ _) (w_le_trans (w_le_tl _ _) (w_le_tl _ _))) a1) b4 (fun X6 t6 W6 a6 c6 _ _ => ?_)
  have r6 := c_rr_ch W5.1 r5 c6 W6.1 (w_le_tl _ _) (by simp) (by simp)
  have c06 : c_ch [14, 15, 1422, 1420, 1421] H X6 := c_ch_sub (c_ch_trans c05 c6) (by simp)
  have le5 : w_le (w_tl (w_tl (w_tl (w_tl mk (w_nm nn)) (w_nm (nn + 1))) (w_ky (nn + 1))) (w_lsg m (w_ky (nn + 1)) 1 [] 0)) (w_tl (w_tl (w_tl (w_tl (w_tl mk (w_nm nn)) (w_nm (nn + 1))) (w_ky (nn + 1))) (w_lsg m (w_ky (nn + 1)) 1 [] 0)) (w_ky nn)) := w_le_tl _ _
  have n5 := w_le_len (w_le_trans (w_le_tl (w_tl (w_tl (w_tl (w_tl (w_tl mk (w_nm nn)) (w_nm (nn + 1))) (w_ky (nn + 1))) (w_lsg m (w_ky (nn + 1)) 1 [] 0)) (w_ky nn)) (w_t 7 (w_nm m) [] [] (w_pkb m (w_ky nn) (w_ky (nn + 1))))) (w_le_tl _ (w_t 1 [] [] [] (w_pkg m (w_ky nn) (w_ky (nn + 1))))))
  refine c_s_term r6 (by rw [lX c06]; simp) (show (w_tl (w_tl (w_tl (w_tl (w_tl mk (w_nm nn)) (w_nm (nn + 1))) (w_ky (nn + 1))) (w_lsg m (w_ky (nn + 1)) 1 [] 0)) (w_ky nn)).length ≤ _ by omega) a6 (fun H7 r7 f7 _ => ?_)
  have W7 := c_W_fr W6 f7 rA
  have c07 : c_ch [14, 15, 1422, 1420, 1421] H H7 := c_ch_sub (c_ch_trans c06 (c_V_ch W6.1 f7 (fun a ha => (rA a ha).1))) (by simp)
  obtain ⟨p0, p1, p11, p12, p80, p48⟩ := oo c07 (by simp)
  rw [p11, p12]
  refine ⟨p48, ?_⟩
  intro q76 e76
  refine ⟨p80, ?_⟩
  intro q79 e79
  rw [e76, e79]
  have i1422 : ∀ f, sw_iv H7 1422 f = sw_iv X3 1422 f := fun f => by
    rw [f7.2.2.2.2.2 1422 (by simp), (c_fx_iv W5.1.2.2.2.1 W5.1.2.2.2.2 c6 f1422 (by simp)).1, f5.2.2.2.2.2 1422 (by simp), f4.2.2.2.2.2 1422 (by simp)]
  refine c_writeTo (z := 1) (sg := w_lsg m (w_ky (nn + 1)) 1 [] 0) W7.1.1 (show (w_tl (w_tl (w_tl (w_tl (w_tl mk (w_nm nn)) (w_nm (nn + 1))) (w_ky (nn + 1))) (w_lsg m (w_ky (nn + 1)) 1 [] 0)) (w_ky nn)).length ≤ _ by omega) r7 (by rw [lX c07]; simp) (c_lf_iv lf3 (fun f _ => i1422 f) le5) (fun _ => by rw [i1422]; exact w_le_at le5 a3) (by omega) (fun H8 r8 f8 _ => ?_)
  rw [if_pos (by decide)] at r8
  have er : [] ++ [w_by 1] ++ [w_ky nn] ++ w_lh m (w_ky (nn + 1)) (w_pub m) 1 [] ++ [w_lsg m (w_ky (nn + 1)) 1 [] 0] = w_pkb m (w_ky nn) (w_ky (nn + 1)) := by
    unfold w_pkb
    simp
  have r8' : c_rr H8 (w_tl (w_tl (w_tl (w_tl (w_tl mk (w_nm nn)) (w_nm (nn + 1))) (w_ky (nn + 1))) (w_lsg m (w_ky (nn + 1)) 1 [] 0)) (w_ky nn)) 1420 1421 (w_pkb m (w_ky nn) (w_ky (nn + 1))) := by
    rw [← er]
    exact r8
  have W8 := c_W_fr W7 f8 rA
  have c08 : c_ch [14, 15, 1422, 1420, 1421] H H8 := c_ch_sub (c_ch_trans c07 (c_V_ch W7.1 f8 (fun a ha => (rA a ha).1))) (by simp)
  obtain ⟨p0, p1, p11, p12, p80, p48⟩ := oo c08 (by simp)
  have mv8 := c_fx_iv fl ad c08 fm (by simp; omega)
  rw [p11, p0]
  refine ⟨p80, ?_⟩
  intro q87 e87
  refine ⟨W8.1.1.1.1.1.1, ?_⟩
  intro q90 e90 v93 e93 _
  refine ⟨p80, ?_⟩
  intro q96 e96
  rw [mv8.1] at e93
  rw [e87, e90, e93, e96]
  have lesec : w_le mk (w_tl (w_tl (w_tl (w_tl (w_tl mk (w_nm nn)) (w_nm (nn + 1))) (w_ky (nn + 1))) (w_lsg m (w_ky (nn + 1)) 1 [] 0)) (w_ky nn)) := w_le_trans le2 (w_le_trans (w_le_tl _ _) (w_le_trans (w_le_tl _ _) (w_le_tl _ _)))
  refine c_partL (Or.inr rfl) lm W8.1 (w_le_at lesec k4) r8' (show 8 ≤ 1400 by decide) b5 (fun X9 t9 V9 a9 c9 _ _ => ?_)
  have W9 := c_W_ch W8 V9 c9 (by simp) (w_le_tl _ _)
  have r9 := c_rr_ch W8.1 r8' c9 W9.1 (w_le_tl _ _) (by simp) (by simp)
  have c09 : c_ch [14, 15, 1422, 1420, 1421] H X9 := c_ch_sub (c_ch_trans c08 c9) (by simp)
  have n6 := w_le_len (w_le_tl (w_tl (w_tl (w_tl (w_tl (w_tl (w_tl mk (w_nm nn)) (w_nm (nn + 1))) (w_ky (nn + 1))) (w_lsg m (w_ky (nn + 1)) 1 [] 0)) (w_ky nn)) (w_t 7 (w_nm m) [] [] (w_pkb m (w_ky nn) (w_ky (nn + 1))))) (w_t 1 [] [] [] (w_pkg m (w_ky nn) (w_ky (nn + 1)))))
  refine c_s_term r9 (by rw [lX c09]; show 8 < 1400; decide) (show (w_tl (w_tl (w_tl (w_tl (w_tl (w_tl mk (w_nm nn)) (w_nm (nn + 1))) (w_ky (nn + 1))) (w_lsg m (w_ky (nn + 1)) 1 [] 0)) (w_ky nn)) (w_t 7 (w_nm m) [] [] (w_pkb m (w_ky nn) (w_ky (nn + 1))))).length ≤ _ by omega) a9 (fun H10 r10 f10 _ => ?_)
  have W10 := c_W_fr W9 f10 rA
  have c010 : c_ch [14, 15, 1422, 1420, 1421] H H10 := c_ch_sub (c_ch_trans c09 (c_V_ch W9.1 f10 (fun a ha => (rA a ha).1))) (by simp)
  have r10' : c_rr H10 (w_tl (w_tl (w_tl (w_tl (w_tl (w_tl mk (w_nm nn)) (w_nm (nn + 1))) (w_ky (nn + 1))) (w_lsg m (w_ky (nn + 1)) 1 [] 0)) (w_ky nn)) (w_t 7 (w_nm m) [] [] (w_pkb m (w_ky nn) (w_ky (nn + 1))))) 1420 1421 (w_pkg m (w_ky nn) (w_ky (nn + 1))) := r10
  have le10 := w_le_trans lesec (w_le_tl _ (w_t 7 (w_nm m) [] [] (w_pkb m (w_ky nn) (w_ky (nn + 1)))))
  have X10 := c_X_ch hW.1 hX c010 W10.1 le10 (fun a ha => by simp at ha; omega)
  have K10 := c_KS_hl hW.1 hX hKS c010 le10 (fun a ha => by simp at ha; unfold c_hl; omega)
  clear n4 n5 n6 ml
  refine c_send2 lm b6 W10 X10 r10' (show 9 ≤ 1200 by decide) l3 (fun X11 W11 X11x r11 c11 nw _ _ => ?_)
  have K11 := c_KS_send (l := w_pkg m (w_ky nn) (w_ky (nn + 1))) W10.1 X10 K10 c11 nw
  have W11' : c_W X11 (w_tl (w_tl (w_tl (w_tl (w_tl (w_tl mk (w_nm nn)) (w_nm (nn + 1))) (w_ky (nn + 1))) (w_lsg m (w_ky (nn + 1)) 1 [] 0)) (w_ky nn)) (w_t 7 (w_nm m) [] [] (w_pkb m (w_ky nn) (w_ky (nn + 1))))) (nn + 1 + 1) (w_lrs K (w_pkg m (w_ky nn) (w_ky (nn + 1)))) tl (cn + 2) (cs + 2 + 9) := W11
  have c011 : c_ch [14, 15, 1422, 1420, 1421, 2, 1416] H X11 := c_ch_sub (c_ch_trans c010 c11) (by simp)
  have O11 := X11x.1
  have p1 : sw_rv X11 2 1 = 11 := O11.2.2.1
  have p11 : sw_rv X11 2 11 = 1420 := O11.2.2.2.2.2.2.2.2.2.2.2.1
  rw [p1, p11]
  refine ⟨W11'.2.1.1, ?_⟩
  intro q117 e117
  have r11' := r11
  obtain ⟨⟨sg11, rr11, _⟩, _⟩ := r11'
  refine ⟨rr11.1, ?_⟩
  intro q120 e120
  rw [e117, e120]
  unfold wm_164
  rw [W11'.2.1.2.1]
  refine ⟨W11'.1.1.1.1.1.1, ?_⟩
  intro qq1 ee1
  rw [ee1]
  refine c_hashL lm2 W11'.1 r11 (show 9 ≤ 1400 by decide) b6 (fun X12 t12 V12 a12 c12 _ _ => ?_)
  have W12 := c_W_chN W11' V12 c12 (by simp) (w_le_tl _ _)
  have c012 : c_ch [14, 15, 1422, 1420, 1421, 2, 1416] H X12 := c_ch_sub (c_ch_trans c011 c12) (by simp)
  have X12x := c_X_ch W11'.1 X11x c12 V12 (w_le_tl _ _) (by simp)
  have K12 := c_KS_hl W11'.1 X11x K11 c12 (w_le_tl _ (w_t 1 [] [] [] (w_pkg m (w_ky nn) (w_ky (nn + 1))))) (by simp)
  have ma12 := c_ma_ch mam hm fl ad c012 (fun h => by simp at h; omega)
  have mv12 := c_fx_iv fl ad c012 fm (by simp; omega)
  have av12 : ∀ i, 50 ≤ i → i ≤ 53 → ∀ f, sw_iv X12 (120 + 54 * m + i) f = sw_iv H (120 + 54 * m + i) f := fun i h1 h2 => (c_fx_iv fl ad c012 (by unfold c_fix; omega) (by simp; omega)).1
  intro _ _
  refine c_keepPackage (n := L.length) ma12 (by rw [mv12.1]; exact pm.1) l8 (fun X13 f13 h50 h51 h52 h53 hf _ => ?_)
  have kA : ∀ a ∈ [120 + 54 * m, 120 + 54 * m + 50, 120 + 54 * m + 51, 120 + 54 * m + 52, 120 + 54 * m + 53], c_fix a ∧ (15 < a ∨ a = 2) := fun a ha => by simp at ha; unfold c_fix; omega
  have W13 := c_W_fr W12 f13 kA
  have c13 := c_V_ch W12.1 f13 (fun a ha => (kA a ha).1)
  have c013 : c_ch [14, 15, 1422, 1420, 1421, 2, 1416, 120 + 54 * m, 120 + 54 * m + 50, 120 + 54 * m + 51, 120 + 54 * m + 52, 120 + 54 * m + 53] H X13 := c_ch_sub (c_ch_trans c012 c13) (by simp)
  have X13x := c_X_ch W12.1 X12x c13 W13.1 (w_le_refl _) (fun a ha => by simp at ha; omega)
  have le13 := w_le_trans le10 (w_le_tl _ (w_t 1 [] [] [] (w_pkg m (w_ky nn) (w_ky (nn + 1)))))
  have K13 := c_KS_mb hm W12.1 X12x K12 f13 c13 (by rw [hf, if_neg (by omega)])
  refine q X13 W13 X13x ?_ (fun f => ?_) (fun f => ?_) ?_ K13 c013
  · refine ⟨by rw [hf, if_pos rfl, List.length_append]; simp, by rw [List.length_append]; simp; omega, fun i k u v hi => ?_⟩
    by_cases ci : i < L.length
    · rw [List.getElem?_append_left ci] at hi
      obtain ⟨j1, j2, j3, p, j4, j5⟩ := pm.2.2 i k u v hi
      rw [h50, h51, h52, h53, if_neg (by omega), if_neg (by omega), if_neg (by omega), if_neg (by omega), av12 50 (by omega) (by omega), av12 51 (by omega) (by omega), av12 52 (by omega) (by omega), av12 53 (by omega) (by omega)]
      have kl : k < ms.length := by
        rcases Nat.lt_or_ge k ms.length with c | c
        · exact c
        · rw [List.getElem?_eq_none c] at j4
          exact absurd j4 (by simp)
      exact ⟨j1, w_le_at le13 j2, w_le_at le13 j3, p, by rw [List.getElem?_append_left kl]; exact j4, w_le_at le13 j5⟩
    · have ei : i = L.length := by
        have : i < (L ++ [(ms.length, w_nm nn, w_nm (nn + 1))]).length := by
          rcases Nat.lt_or_ge i (L ++ [(ms.length, w_nm nn, w_nm (nn + 1))]).length with c | c
          · exact c
          · rw [List.getElem?_eq_none c] at hi
            exact absurd hi (by simp)
        rw [List.length_append] at this
        simp at this
        omega
      subst ei
      rw [List.getElem?_append_right (by omega), Nat.sub_self] at hi
      have hi := Option.some.inj hi
      rw [Prod.mk.injEq, Prod.mk.injEq] at hi
      obtain ⟨i1, i2, i3⟩ := hi
      rw [h50, h51, h52, h53, if_pos rfl, if_pos rfl, if_pos rfl, if_pos rfl, ← i1, ← i2, ← i3]
      have la1 : w_le (w_tl mk (w_nm nn)) (w_tl (w_tl (w_tl (w_tl (w_tl (w_tl (w_tl mk (w_nm nn)) (w_nm (nn + 1))) (w_ky (nn + 1))) (w_lsg m (w_ky (nn + 1)) 1 [] 0)) (w_ky nn)) (w_t 7 (w_nm m) [] [] (w_pkb m (w_ky nn) (w_ky (nn + 1))))) (w_t 1 [] [] [] (w_pkg m (w_ky nn) (w_ky (nn + 1))))) := w_le_trans (w_le_tl _ _) (w_le_trans (w_le_tl _ _) (w_le_trans (w_le_tl _ _) (w_le_trans (w_le_tl _ _) (w_le_trans (w_le_tl _ _) (w_le_tl _ _)))))
      have la2 : w_le (w_tl (w_tl mk (w_nm nn)) (w_nm (nn + 1))) (w_tl (w_tl (w_tl (w_tl (w_tl (w_tl (w_tl mk (w_nm nn)) (w_nm (nn + 1))) (w_ky (nn + 1))) (w_lsg m (w_ky (nn + 1)) 1 [] 0)) (w_ky nn)) (w_t 7 (w_nm m) [] [] (w_pkb m (w_ky nn) (w_ky (nn + 1))))) (w_t 1 [] [] [] (w_pkg m (w_ky nn) (w_ky (nn + 1))))) := w_le_trans (w_le_tl _ _) (w_le_trans (w_le_tl _ _) (w_le_trans (w_le_tl _ _) (w_le_trans (w_le_tl _ _) (w_le_tl _ _))))
      exact ⟨rfl, w_le_at la1 a1, w_le_at la2 a2, _, by rw [List.getElem?_append_right (Nat.le_refl _), Nat.sub_self]; rfl, a12⟩
  · rw [hf, mv12.1]
  · rw [f13.2.2.2.2.1, mv12.2]
  · obtain ⟨⟨s12, row12, _⟩, _⟩ := c_rr_chN W11'.1 r11 c12 V12 (w_le_tl _ _) (by simp) (by simp)
    exact ⟨by rw [(c_fx_ty fl c013 f1421).2]; exact hOut.1, s12, c_row_fr row12 f13 (by simp; omega) (by simp; omega)⟩
end
end
