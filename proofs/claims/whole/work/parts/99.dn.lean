/-! ===== the class: propose ===== -/
noncomputable section
variable {H Z X Y : sw_H} {nn nm r ra g m n : Nat} {K K' S : Wt → Prop} {tl tl' tp mk mm l lp b : List Wt} {ms : List (List Wt)} {rd : Nat → Int} {a c x y cn cs cn' cs' N U M kd of : Int} {Q : sw_H → Prop} {P : Int → sw_H → Prop} {E : Nat → sw_H → Prop} {A B : List Nat} {w h : Wt} {L : List (Wt × Nat)} {G' : w_G} {Ul : List (Wt × Wt)} {Ga : Nat → w_G} {La : Nat → List (Wt × Nat)} {Ua : Nat → List (Wt × Wt)}
theorem c_Re_ch (h : c_Re H) (fl : c_full H) (ad : c_ads H) (k : c_ch A H Z) (hA : ∀ a ∈ A, a < 18 ∨ 43 < a) : c_Re Z := by
  obtain ⟨h1, h2, h3, h4⟩ := h
  have n18 : 18 ∉ A := fun c => by have := hA _ c; omega
  have rv := (c_fx_iv fl ad k (q := 18) (by unfold c_fix; omega) n18).2
  have ty : ∀ a, 1 ≤ a → a ≤ 1491 → sw_ty Z a = sw_ty H a ∧ sw_ln Z a = sw_ln H a := fun a h1 h2 => k.1.2 a (fl a h1 h2)
  refine ⟨by simp only [rv]; exact h1, fun i a b => by rw [(ty i (by omega) (by omega)).1, (ty i (by omega) (by omega)).2]; exact h2 i a b, by rw [(ty 22 (by decide) (by decide)).1]; exact h3, c_ts_ch h4 fl ad k (fun a ha => by have := hA a ha; omega)⟩
theorem c_lm_le (h : c_lm cn cs N U M) (h1 : cn' ≤ cn) (h2 : cs' ≤ cs) : c_lm cn' cs' N U M := by
  unfold c_lm at h ⊢
  omega
/-- what propose may change -/
def c_pA (m : Nat) (H : sw_H) : List Nat := [14, 15] ++ c_Bk ++ [1420, 1421, 1422, 2, 1416, 120 + 54 * m, 120 + 54 * m + 49, c_ka H m 7, c_ka H m 8]
def c_r18 (H : sw_H) : Prop := sw_ty H 18 = 72 ∧ sw_rv H 18 0 = 3
theorem c_r18_ch (h : c_r18 H) (fl : c_full H) (ad : c_ads H) (k : c_ch A H Z) (hA : 18 ∉ A) : c_r18 Z := ⟨by rw [(k.1.2 18 (fl 18 (by decide) (by decide))).1]; exact h.1, by rw [(c_fx_iv fl ad k (q := 18) (by unfold c_fix; omega) hA).2]; exact h.2⟩
/-- from where all is in order -/
theorem c_prop_go (hm : m < 24) (lm : c_lm (cn + 4) (cs + 4000) N U M) (h0 : 0 ≤ cn ∧ 0 ≤ cs) (hB : c_BS H mk nn K tl cn cs tp rd ms La) (h48 : sw_ty H 1422 = 48) (hOut : c_Out H) (hma : c_ma H m) (hup : c_up H mk m Ul) (hul : Ul.length ≤ (La m).length) (hg : sw_iv H (120 + 54 * m) 3 = 1 → c_pl (sw_rv H (120 + 54 * m) 4) ∧ c_gp H mk (sw_rv H (120 + 54 * m) 4) G') (h01 : sw_iv H (120 + 54 * m) 3 = 0 ∨ sw_iv H (120 + 54 * m) 3 = 1) (hk : (kd = 1 ∧ 0 ≤ of ∧ ms[of.toNat]? = some lp ∧ lp.length ≤ 1000) ∨ kd = 2 ∨ kd = 3) (rm : sw_n H < sxlim.1 ∧ sw_s H + 6 ≤ sxlim.2) (bd : ms.length < 300 → sw_iv H (120 + 54 * m) 3 = 1 → (La m).length < 20 → c_bl (w_tls mk (w_prA m nn G' kd of lp)) tl N U M)
    (q3 : (ms.length = 300 ∨ sw_iv H (120 + 54 * m) 3 = 0 ∨ 20 ≤ (La m).length) → E (sw_n H + 2) (sw_nw H 120 0 6))
    (q : ∀ X cn' cs', ms.length < 300 → sw_iv H (120 + 54 * m) 3 = 1 → (La m).length < 20 → ((cn' = cn + 2 ∧ cs' ≤ cs + 1200 ∧ sw_ln X (c_ka X m 8) = sw_ln H (c_ka H m 8)) ∨ (cn' = cn + 4 ∧ cs' ≤ cs + 1200 + 4 * sw_ln H (c_ka H m 8) ∧ sw_ln X (c_ka X m 8) = 2 * sw_ln H (c_ka H m 8) ∧ sw_ln H (c_ka H m 8) < 340)) → c_BS X (w_tls mk (w_prA m nn G' kd of lp)) (if kd = 2 then nn + 1 else nn) (w_lrs K (w_prM G' m (w_prB G' kd (w_prC m nn G' kd of lp)))) tl cn' cs' tp rd (ms ++ [w_prM G' m (w_prB G' kd (w_prC m nn G' kd of lp))]) (w_upd La m (w_kp (La m) (w_hs (w_prM G' m (w_prB G' kd (w_prC m nn G' kd of lp)))) ms.length)) → c_up X (w_tls mk (w_prA m nn G' kd of lp)) m (if kd = 2 then Ul ++ [(w_hs (w_prM G' m (w_prB G' kd (w_prC m nn G' kd of lp))), w_nm nn)] else Ul) → c_Out X → (∀ f, f ≠ 9 → f ≠ 11 → sw_iv X (120 + 54 * m) f = sw_iv H (120 + 54 * m) f) → (∀ f, f ≠ 7 → f ≠ 8 → sw_rv X (120 + 54 * m) f = sw_rv H (120 + 54 * m) f) → c_ch [14, 15, 1420, 1421, 1422, 2, 1416, 120 + 54 * m, 120 + 54 * m + 49, c_ka H m 7, c_ka H m 8] H X → P ms.length X) : wb_82_63 P E 2 kd of (120 + 54 * m) H := by
  obtain ⟨hW, hX, hMS, hK⟩ := id hB
  have fl := hW.1.2.2.2.1
  have ad := hW.1.2.2.2.2
  have O := hX.1
  have o11 : sw_rv H 2 11 = 1420 := O.2.2.2.2.2.2.2.2.2.2.2.1
  have m24 : sw_iv H 2 4 = ms.length := hX.2.2.2.1
  have m300 := hX.2.2.2.2.1
  obtain ⟨⟨kp, pp⟩, _⟩ : (c_kp H m ∧ c_pp H mk m (La m)) ∧ True := ⟨hK.1 m hm, trivial⟩
  have t1420 : sw_ty H 1420 = 80 := by obtain ⟨_, s, hs⟩ := hOut; exact hs.1
  have thr : (ms.length = 300 ∨ sw_iv H (120 + 54 * m) 3 = 0 ∨ 20 ≤ (La m).length) → wb_82_74 P E H := fun h => ⟨rm.1, rm.2, fun H1 e1 => by rw [e1]; exact q3 h⟩
  unfold wb_82_63
  intro v3 e3 _
  rw [m24] at e3
  refine ⟨fun c => thr (Or.inl (by omega)), fun c => ?_⟩
  intro v6 e6 _
  refine ⟨fun c1 => thr (Or.inr (Or.inl (by omega))), fun c1 => ?_⟩
  have in1 : sw_iv H (120 + 54 * m) 3 = 1 := by omega
  intro v9 e9 _
  rw [pp.1] at e9
  refine ⟨fun c2 => ?_, fun c2 => thr (Or.inr (Or.inr (by omega)))⟩
  have l20 : (La m).length < 20 := by omega
  have h3 : ms.length < 300 := by omega
  have bd := bd h3 in1 l20
  obtain ⟨hpl, gp⟩ := hg in1
  obtain ⟨pl1, pl2⟩ := c_pl_b hpl
  have bm := c_bl_le (w_tls_le _ mk) bd
  have lm0 : c_lm cn cs N U M := c_lm_le lm (by omega) (by omega)
  have hml := c_W_len lm0 bm
  have t40 := gp.1.2.2.1
  have gep := gp.2.2.1
  have glf := gp.2.2.2.1
  rw [o11]
  refine ⟨t1420, ?_⟩
  intro q12 e12
  rw [e12]
  refine c_out_clear hW hOut (fun G1 W1 R1 F1 L1 _ => ?_)
  rw [F1.2.2.2.2.1, o11]
  refine ⟨by rw [F1.2.2.1]; exact t1420, ?_⟩
  intro q20 e20
  rw [e20]
  refine c_s_byte R1 (by rw [L1]; simp) (by decide) (by decide) (fun G2 R2 F2 _ => ?_)
  have F12 := c_fr_t F1 F2
  rw [F12.2.2.2.2.1, o11]
  refine ⟨by rw [F12.2.2.1]; exact t1420, ?_⟩
  intro q28 e28
  rw [F12.2.2.2.2.1]
  refine ⟨by rw [F12.2.2.1]; exact t40, ?_⟩
  intro q31 e31 v34 e34 _
  rw [e31, F12.2.2.2.2.2 _ (by simp; omega), gep] at e34
  rw [e28, e34]
  refine c_s_b32 R2 (by rw [F2.2.2.2.1, L1]; simp) (fun G3 R3 F3 _ => ?_)
  have F13 := c_fr_t F12 F3
  rw [F13.2.2.2.2.1, o11]
  refine ⟨by rw [F13.2.2.1]; exact t1420, ?_⟩
  intro q42 e42
  rw [F13.2.2.2.2.1]
  refine ⟨by rw [F13.2.2.1]; exact t40, ?_⟩
  intro q45 e45 v48 e48 _
  rw [e45, F13.2.2.2.2.2 _ (by simp; omega), glf] at e48
  rw [e42, e48]
  refine c_s_b16 R3 (by rw [F3.2.2.2.1, F2.2.2.2.1, L1]; simp [w_b32, w_b16]) (fun G4 R4 F4 _ => ?_)
  have F14 := c_fr_t F13 F4
  have W4 := c_W_fr hW F14 (by unfold c_fix; simp)
  have B4 := c_BS_fr hB W4 F14 (by unfold c_hl; simp)
  have C4 := c_V_ch hW.1 F14 (by unfold c_fix; simp)
  have L4 : sw_ln G4 1421 = 1400 := by rw [F4.2.2.2.1, F3.2.2.2.1, F2.2.2.2.1]; exact L1
  have b7 : ([] ++ [w_by 2] ++ w_b32 (gg_ep G') ++ w_b16 (gg_lf G') : List Wt).length = 7 := by simp [w_b32, w_b16]
  have hd : ∀ c', [] ++ [w_by 2] ++ w_b32 (gg_ep G') ++ w_b16 (gg_lf G') ++ (w_by kd :: c') = w_prB G' kd c' := fun c' => by unfold w_prB; simp
  have gp4 : c_gp G4 mk (sw_rv H (120 + 54 * m) 4) G' := c_gp_ch gp fl ad C4 (fun a ha => by simp at ha; omega) (w_le_refl _)
  have mv4 : ∀ f, sw_rv G4 (120 + 54 * m) f = sw_rv H (120 + 54 * m) f := fun f => F14.2.2.2.2.1 _ _
  have mi4 : sw_iv G4 (120 + 54 * m) = sw_iv H (120 + 54 * m) := F14.2.2.2.2.2 _ (by simp; omega)
  -- behind the content
  have fin : ∀ (mm : List Wt) (n2 : Nat) (c' : List Wt) (G5 : sw_H) (A5 : List Nat), w_tls mk (w_prA m nn G' kd of lp) = w_tls mm (w_prE G' m (w_prB G' kd c')) → c' = w_prC m nn G' kd of lp → n2 = (if kd = 2 then nn + 1 else nn) → w_le mk mm → c_BS G5 mm n2 K tl cn cs tp rd ms La → c_rr G5 mm 1420 1421 (w_prB G' kd c') → (w_prB G' kd c').length ≤ 1100 → c_ch A5 H G5 → (∀ a ∈ A5, a = 14 ∨ a = 15 ∨ a = 1420 ∨ a = 1421 ∨ a = 1422 ∨ a = 120 + 54 * m ∨ a = 120 + 54 * m + 49) → (∀ f, f ≠ 11 → sw_iv G5 (120 + 54 * m) f = sw_iv H (120 + 54 * m) f) → (∀ f, sw_rv G5 (120 + 54 * m) f = sw_rv H (120 + 54 * m) f) → c_up G5 mm m (if kd = 2 then Ul ++ [(w_hs (w_prM G' m (w_prB G' kd (w_prC m nn G' kd of lp))), w_nm nn)] else Ul) → c_ptl P 2 (120 + 54 * m) G5 := by
    intro mm n2 c' G5 A5 hall hc' hn2 hle B5 R5 l5 C5 hA5 i5 r5 u5
    have ln5 : sw_ln G5 1421 = 1400 := by rw [(C5.1.2 1421 (fl 1421 (by decide) (by decide))).2]; obtain ⟨hh, _⟩ := hOut; exact hh
    rw [hall] at bd q
    subst hn2
    subst hc'
    have gp5 : c_gp G5 mm (sw_rv H (120 + 54 * m) 4) G' := c_gp_ch gp fl ad C5 (fun a ha => by
      have := hA5 a ha
      have p1 := c_pl_m hpl hm
      have p2 := c_pl_a hpl hm (show 47 ≤ 49 by omega) (show 49 < 54 by omega)
      omega) hle
    have ml : (w_prM G' m (w_prB G' kd (w_prC m nn G' kd of lp))).length = (w_prB G' kd (w_prC m nn G' kd of lp)).length + 2 := by unfold w_prM; simp
    have ka7 : c_ka G5 m 7 = c_ka H m 7 := r5 7
    have ka8 : c_ka G5 m 8 = c_ka H m 8 := r5 8
    have l8 : sw_ln G5 (c_ka G5 m 8) = sw_ln H (c_ka H m 8) := by
      rw [ka8]
      exact (C5.1.2 _ (by rw [kp.1.2]; decide)).2
    refine c_prop_tail hm lm0 (c_lm_le lm (by omega) (by omega)) B5 R5 ln5 l5 (by rw [r5 4]; exact gp5) (by rw [r5 4]; exact hpl) h3 (by omega) bd (fun X cn' cs' hcc BX iX rX cX oX => ?_)
    rw [ka7, ka8] at cX
    have W5 := B5.1
    refine q X cn' cs' h3 in1 l20 ?_ BX (c_up_ch u5 hm W5.1.2.2.2.1 W5.1.2.2.2.2 cX (fun _ => iX 11 (by omega)) (fun c => ?_) (w_tls_le _ _)) oX (fun f h9 h11 => by rw [iX f h9, i5 f h11]) (fun f h7 h8 => by rw [rX f h7 h8, r5 f]) (c_ch_sub (c_ch_trans C5 cX) (fun a ha => ?_))
    · rw [l8] at hcc
      rcases hcc with ⟨d1, d2, d3⟩ | ⟨d1, d2, d3, d4⟩
      · exact Or.inl ⟨d1, by omega, d3⟩
      · exact Or.inr ⟨d1, by omega, d3, d4⟩
    · simp only [List.mem_cons, List.not_mem_nil, or_false] at c
      have := kp.2.2.2.2.2
      omega
    · rw [List.mem_append] at ha
      rcases ha with ha | ha
      · have := hA5 a ha
        simp only [List.mem_cons, List.not_mem_nil, or_false]
        omega
      · simp only [List.mem_cons, List.not_mem_nil, or_false] at ha ⊢
        omega
  rcases hk with hk | hk | hk
  · have c' : w_prC m nn G' kd of lp = w_b16 lp.length ++ lp := by unfold w_prC; rw [if_pos hk.1]
    refine c_wc_13 (lp := lp) hml B4 R4 L4 (by rw [b7]; omega) (Or.inl hk) (fun G5 W5 R5 F5 _ => ?_)
    rw [if_pos hk.1, hd] at R5
    refine fin mk nn (w_b16 lp.length ++ lp) G5 [1420, 1421] ?_ c'.symm (by rw [if_neg (by omega)]) (w_le_refl _) (c_BS_fr B4 W5 F5 (by unfold c_hl; simp)) R5 ?_ (c_ch_t C4 (c_V_ch W4.1 F5 (by unfold c_fix; simp))) (by simp) (fun f _ => by rw [F5.2.2.2.2.2 _ (by simp; omega), mi4]) (fun f => by rw [F5.2.2.2.2.1, mv4]) ?_
    · unfold w_prA w_prP
      rw [if_neg (by omega), c']
      rfl
    · rw [← hd, List.length_append, b7]
      simp [w_b16]
      omega
    · rw [if_neg (by omega)]
      exact c_up_ch hup hm fl ad (c_ch_t C4 (c_V_ch W4.1 F5 (by unfold c_fix; simp))) (fun c => by simp at c; omega) (by simp; omega) (w_le_refl _)
  · subst hk
    have eP : w_tls mk (w_prA m nn G' 2 of lp) = w_tls (w_tl (w_tl (w_tl mk (w_nm nn)) (w_ky nn)) (w_lsg m (w_ky nn) 2 [] (gg_lf G'))) (w_prE G' m (w_prB G' 2 (w_lh m (w_ky nn) (w_pub m) 2 [] ++ [w_lsg m (w_ky nn) 2 [] (gg_lf G')]))) := by
      unfold w_prA w_prP w_prC
      rw [if_pos rfl, if_neg (by decide), if_pos rfl, w_tls_app]
      rfl
    have c' : w_prC m nn G' 2 of lp = w_lh m (w_ky nn) (w_pub m) 2 [] ++ [w_lsg m (w_ky nn) 2 [] (gg_lf G')] := by unfold w_prC; rw [if_neg (by decide), if_pos rfl]
    have bd3 : c_bl (w_tl (w_tl (w_tl mk (w_nm nn)) (w_ky nn)) (w_lsg m (w_ky nn) 2 [] (gg_lf G'))) tl N U M := by
      rw [eP] at bd
      exact c_bl_le (w_tls_le _ _) bd
    have ma4 := c_ma_ch hma hm fl ad C4 (fun c => by simp at c; omega)
    have up4 := c_up_ch hup hm fl ad C4 (fun c => by simp at c; omega) (by simp; omega) (w_le_refl _)
    refine c_wc_2 hm lm0 B4 (by rw [F14.2.2.1]; exact h48) ma4 up4 (by omega) (by rw [mi4]; exact in1) (by rw [mv4]; exact gp4) (by rw [mv4]; exact hpl) R4 L4 (by rw [b7]; omega) bd3 (fun G5 B5 R5 u5 i5 r5 c5 _ => ?_)
    rw [hd] at R5
    have ll := w_lh_len m (w_ky nn) (w_pub m) 2 []
    refine fin _ (nn + 1) _ G5 [1420, 1421, 14, 15, 1422, 120 + 54 * m, 120 + 54 * m + 49] eP c'.symm (by rw [if_pos rfl]) (w_le_trans (w_le_tl _ _) (w_le_trans (w_le_tl _ _) (w_le_tl _ _))) B5 R5 ?_ (c_ch_sub (c_ch_trans C4 c5) (by simp)) (by simp) (fun f hf => by rw [i5 f hf, mi4]) (fun f => by rw [r5 f, mv4]) ?_
    · rw [← hd, List.length_append, b7]
      simp
      omega
    · rw [if_pos rfl]
      exact u5 _
  · have c' : w_prC m nn G' kd of lp = w_b16 of := by unfold w_prC; rw [if_neg (by omega), if_neg (by omega)]
    refine c_wc_13 (lp := []) hml B4 R4 L4 (by rw [b7]; omega) (Or.inr hk) (fun G5 W5 R5 F5 _ => ?_)
    rw [if_neg (by omega), hd] at R5
    refine fin mk nn (w_b16 of) G5 [1420, 1421] ?_ c'.symm (by rw [if_neg (by omega)]) (w_le_refl _) (c_BS_fr B4 W5 F5 (by unfold c_hl; simp)) R5 ?_ (c_ch_t C4 (c_V_ch W4.1 F5 (by unfold c_fix; simp))) (by simp) (fun f _ => by rw [F5.2.2.2.2.2 _ (by simp; omega), mi4]) (fun f => by rw [F5.2.2.2.2.1, mv4]) ?_
    · unfold w_prA w_prP
      rw [if_neg (by omega), c']
      rfl
    · rw [← hd, List.length_append, b7]
      simp [w_b16]
    · rw [if_neg (by omega)]
      exact c_up_ch hup hm fl ad (c_ch_t C4 (c_V_ch W4.1 F5 (by unfold c_fix; simp))) (fun c => by simp at c; omega) (by simp; omega) (w_le_refl _)
end
