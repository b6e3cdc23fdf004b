/-! ===== the class: join ===== -/
noncomputable section
def c_Agr (g : Nat) : List Nat := (List.range 23).map (fun i => g + i)
theorem c_Agr_m {g a : Nat} : a ∈ c_Agr g ↔ g ≤ a ∧ a ≤ g + 22 := by
  unfold c_Agr
  simp only [List.mem_map, List.mem_range]
  constructor
  · rintro ⟨i, h1, h2⟩; omega
  · intro h; exact ⟨a - g, by omega, by omega⟩
def c_Ajn (g : Nat) : List Nat := 14 :: 15 :: 16 :: c_Agr g
theorem c_Ajn_m {g a : Nat} : a ∈ c_Ajn g ↔ (14 ≤ a ∧ a ≤ 16) ∨ (g ≤ a ∧ a ≤ g + 22) := by
  unfold c_Ajn
  simp only [List.mem_cons, c_Agr_m]
  omega
variable {H H0 Z X : sw_H} {nn g r ra l sd e1 r2 b2 : Nat} {K S : Wt → Prop} {tl mk m0 mm lm l2 : List Wt} {cn cs N U M z ep : Int} {P : Int → sw_H → Prop} {T : w_T} {cf cm jn sc a : Wt} {L' : List Wt}
/-- a HASH or 0 of a row -/
theorem c_s_phAt {k : Nat} (hL : c_L H mk nn K tl) (h2 : c_sg H (w_d mk) r2 b2 l2) (hk : l2[k]? = some (w_pb cf)) (hw : cf = [] ∨ cf.head? = some 1) (q : ∀ z, w_az mk z cf → P z H) : wm_269 r2 k H P := by
  have hn := hL.2.1
  by_cases c : cf = []
  · rw [c] at hk
    have hk : l2[k]? = some (w_by 0) := hk
    obtain ⟨s, hs, hv, hm⟩ := h2
    refine c_termAt hs (fun _ => q 0 (Or.inl ⟨rfl, c⟩)) (fun s' _ h1 h3 _ => ?_)
    exfalso
    rw [Int.toNat_natCast] at h1
    have hk' : (s.map (w_sg (w_d mk)))[k]? = some (w_by 0) := by rw [hm]; exact hk
    rw [List.getElem?_map, h1] at hk'
    have e := Option.some.inj hk'
    unfold w_sg at e
    rw [if_neg (by omega)] at e
    have vy := hv s' (List.mem_of_getElem? h1)
    rw [hn] at vy
    unfold m_vs at vy
    have a := w_at_of (mk := mk) (x := s' - 256) (by omega) (by omega)
    rw [e] at a
    exact c_at_head hL a rfl
  · have e : w_pb cf = cf := if_neg c
    rw [e] at hk
    refine c_s_termAt hn h2 hk ?_ (fun z hz => q z (Or.inr hz))
    rcases hw with h | h
    · exact absurd h c
    · rw [h]; decide
theorem c_join (lmm : c_lm cn cs N U M) (hb : c_bS S mk tl N U M) (hW : c_W H mk nn K tl cn cs) (hTa : c_Ta H) (h18 : sw_ty H 18 = 72) (r16 : sw_rv H 18 16 = 23) (i6 : sw_iv H 18 6 = ep) (i7 : sw_iv H 18 7 = (sd : Nat)) (i10 : sw_iv H 18 10 = (e1 : Nat)) (h94 : sw_rv H 94 6 = g) (hpl : c_pl g) (hgs : c_gs H g) (ht : c_tr H mk 23 T) (hpk : t_pk T) (hsg : c_sg H (w_d mk) r ra lm) (hr : 1491 < r ∧ 1491 < ra) (ho : ¬ c_ow H r ∧ ¬ c_ow H ra) (he1 : e1 + 8 ≤ lm.length) (hlm : lm.length ≤ 1200) (hcf : lm[e1 + 5]? = some (w_pb cf)) (hcf2 : cf = [] ∨ cf.head? = some 1) (hcm : lm[lm.length - 2]? = some cm) (hcm2 : cm.head? ≠ some 1000) (hz : w_at mk z (w_t 6 a jn sc L')) (hl : l < 2 ^ t_dp T) (hsd : sd < 2 ^ t_dp T) (hS1 : ∀ y ∈ w_ordk (w_h (t_top T)) (t_top T) (w_h (t_top T) + 1) 0, S (w_th T 0 y)) (hS2 : S (e_es T ep cf jn)) (hS3 : S (w_dr (e_es T ep cf jn) 2)) (hS4 : S (w_cfm (e_es T ep cf jn) cf)) (hS5 : S (w_int cf (w_cfm (e_es T ep cf jn) cf))) (hS6 : ∀ w, e_clS T l sc (e_h T l sd) w → S w)
    (q12 : ∀ X mm, w_cfm (e_es T ep cf jn) cf ≠ cm → w_mo S mk mm → c_bS S mm tl N U M → c_W X mm nn K tl cn cs → c_gs X g → c_ch (c_Ajn g) H X → P 12 X)
    (q11 : ∀ X mm, w_cfm (e_es T ep cf jn) cf = cm → sc ≠ [] → ¬ e_cl T l sd sc → w_mo S mk mm → c_bS S mm tl N U M → c_W X mm nn K tl cn cs → c_gs X g → c_ch (c_Ajn g) H X → P 11 X)
    (q0 : ∀ X mm, w_cfm (e_es T ep cf jn) cf = cm → (sc = [] ∨ e_cl T l sd sc) → w_mo S mk mm → c_bS S mm tl N U M → c_W X mm nn K tl cn cs → c_gs X g → c_tr X mm (g + 1) T → sw_iv X g 2 = ep → sw_iv X g 3 = (l : Nat) → w_at mm (sw_iv X g 4) (w_th T 0 (t_top T)) → w_az mm (sw_iv X g 5) cf → w_at mm (sw_iv X g 6) (w_int cf cm) → w_at mm (sw_iv X g 7) (e_es T ep cf jn) → (∀ x v, x < t_w T → x ≠ 2 * l → w_az mm (sw_iv X (g + 22) x) (e_hd T l sd v sc x)) → (∀ x, t_w T ≤ x → x < 31 → sw_iv X (g + 22) x = 0) → c_ch (c_Ajn g) H X → P 0 X) : wm_317 94 l r z H P := by
  obtain ⟨p1, p2⟩ := c_pl_b hpl
  obtain ⟨t94, r0, r1, r2, r3, r4, _⟩ := id hTa
  have h4 := ht.2.1.1
  have d16 := t_d_16 h4
  have w31 := t_w_4 h4
  have fl := hW.1.2.2.2.1
  have ad := hW.1.2.2.2.2
  unfold wm_317
  rw [h94]
  refine ⟨hgs.2.2.1, ?_⟩
  intro q1 e1'
  rw [e1']
  refine c_groupClear hgs (fun A1 fA za2 za3 za5 zat zaa z22 => ?_)
  intro _
  have upA : c_fr (c_Agr g) H A1 := c_fr_sub fA (fun a ha => by rw [c_Agr_m]; simp at ha; omega)
  have gsA := c_gs_fr hgs fA
  have fxA : ∀ a ∈ c_Agr g, c_fix a ∧ (15 < a ∨ a = 2) := fun a ha => by rw [c_Agr_m] at ha; unfold c_fix; omega
  have WA := c_W_fr hW upA fxA
  have tA : c_tr A1 mk 23 T := c_tr_fr hW.1 ht upA (fun a ha => ⟨(fxA a ha).1, by rw [c_Agr_m] at ha; omega⟩)
  rw [fA.2.2.2.2.1 94 6, h94]
  refine ⟨gsA.2.2.1, ?_⟩
  intro q9 e9
  rw [e9, gsA.2.2.2.1]
  refine ⟨gsA.2.2.2.2.2.2.2.2.2.1, ?_⟩
  intro q12' e12
  rw [fA.2.2.2.2.1 94 2, r2]
  refine ⟨by rw [fA.2.2.1]; exact h18, ?_⟩
  intro q15 e15
  rw [e15, fA.2.2.2.2.1 18 16, r16]
  refine ⟨tA.1.2.2.1, ?_⟩
  intro q18 e18
  rw [e12, e18]
  refine c_copyTree gsA.2.2.2.2.2.2.2 tA (by omega) (fun B1 tB fB => ?_)
  intro _
  have upB : c_fr (c_Agr g) A1 B1 := c_fr_sub fB (fun a ha => by rw [c_Agr_m]; rw [c_rg_m] at ha; omega)
  have fHB := c_fr_t upA upB
  rw [fHB.2.2.2.2.1 94 6, h94]
  have gsB := c_gs_fr gsA fB
  refine ⟨gsB.2.2.1, ?_⟩
  intro q26 e26
  rw [fHB.2.2.2.2.1 94 2, r2]
  refine ⟨by rw [fHB.2.2.1]; exact h18, ?_⟩
  intro q29 e29 v32 e32 _
  rw [e29, fHB.2.2.2.2.2 18 (fun c => by rw [c_Agr_m] at c; omega), i6] at e32
  rw [e26, e32]
  intro H35 e35
  have f35 : c_fr [g] B1 H35 := by rw [e35]; exact c_fr_si _ _ _ _
  rw [f35.2.2.2.2.1 94 6, fHB.2.2.2.2.1 94 6, h94]
  refine ⟨(c_gs_fr gsB f35).2.2.1, ?_⟩
  intro q38 e38
  rw [e38]
  intro H41 e41
  have f41 : c_fr [g] H35 H41 := by rw [e41]; exact c_fr_si _ _ _ _
  have fB41 := c_fr_t f35 f41
  have up41 : c_fr (c_Agr g) B1 H41 := c_fr_sub fB41 (fun a ha => by rw [c_Agr_m]; simp at ha; omega)
  have fH41 := c_fr_t fHB up41
  have gs41 := c_gs_fr (c_gs_fr gsB f35) f41
  have x2 : sw_iv H41 g 2 = ep := by rw [e41, c_si_f (by decide), e35, c_si_eq]
  have x3 : sw_iv H41 g 3 = (l : Nat) := by rw [e41, c_si_eq]
  clear e35 e41
  have W41 := c_W_fr hW fH41 fxA
  have c41 := c_V_ch hW.1 fH41 (fun a ha => (fxA a ha).1)
  obtain ⟨sg41, o41⟩ := c_sg_far hW W41 hsg c41 (w_le_refl _) ho ⟨fun c => by rw [c_Agr_m] at c; omega, fun c => by rw [c_Agr_m] at c; omega⟩
  rw [fH41.2.2.2.2.1 94 6, h94]
  refine ⟨gs41.2.2.1, ?_⟩
  intro q44 e44
  rw [fH41.2.2.2.2.1 94 2, r2]
  refine ⟨by rw [fH41.2.2.1]; exact h18, ?_⟩
  intro q47 e47 v50 e50 _
  rw [e47, fH41.2.2.2.2.2 18 (fun c => by rw [c_Agr_m] at c; omega), i10] at e50
  have ix : sw_w (v50 + 5) = ((e1 + 5 : Nat) : Int) := by rw [e50, sw_w_s (by omega) (by omega)]; omega
  rw [ix, e44]
  clear ix
  refine c_s_phAt W41.1.1 sg41 hcf hcf2 (fun z56 a56 => ?_)
  intro _ _ H58 e58
  have f58 : c_fr [g] H41 H58 := by rw [e58]; exact c_fr_si _ _ _ _
  have up58 : c_fr (c_Agr g) H41 H58 := c_fr_sub f58 (fun a ha => by rw [c_Agr_m]; simp at ha; omega)
  have fH58 := c_fr_t fH41 up58
  have gs58 := c_gs_fr gs41 f58
  have y2 : sw_iv H58 g 2 = ep := by rw [e58, c_si_f (by decide)]; exact x2
  have y3 : sw_iv H58 g 3 = (l : Nat) := by rw [e58, c_si_f (by decide)]; exact x3
  have y5 : sw_iv H58 g 5 = z56 := by rw [e58, c_si_eq]
  clear e58
  have W58 := c_W_fr hW fH58 fxA
  have c58 := c_V_ch hW.1 fH58 (fun a ha => (fxA a ha).1)
  have fB58 : c_fr [g] B1 H58 := c_fr_t fB41 f58
  have t58 : c_tr H58 mk (g + 1) T := c_tr_fr (c_W_fr hW fHB fxA).1 tB fB58 (fun a ha => by simp at ha; unfold c_fix; omega)
  have s22 : ∀ x, x < 31 → sw_iv H58 (g + 22) x = 0 := fun x hx => by
    rw [fB58.2.2.2.2.2 (g + 22) (by simp), fB.2.2.2.2.2 (g + 22) (fun c => by rw [c_rg_m] at c; omega)]
    exact z22 x hx
  obtain ⟨sg58, o58⟩ := c_sg_far hW W58 hsg c58 (w_le_refl _) ho ⟨fun c => by rw [c_Agr_m] at c; omega, fun c => by rw [c_Agr_m] at c; omega⟩
  have up : c_ch (c_Ajn g) H H58 := c_ch_sub c58 (fun a ha => by rw [c_Ajn_m]; rw [c_Agr_m] at ha; omega)
  rw [fH58.2.2.2.2.1 94 1, r1]
  refine ⟨W58.2.1.1, ?_⟩
  intro q61 e61
  rw [fH58.2.2.2.2.1 94 6, h94]
  refine ⟨gs58.2.2.1, ?_⟩
  intro q64 e64
  rw [fH58.2.2.2.2.1 94 0, r0]
  refine ⟨(c_V_sh W58.1).1.1, ?_⟩
  intro q67 e67
  obtain ⟨pt1, pt2, pt3⟩ := c_parts W58.1.1 hz (by decide)
  obtain ⟨le1, le2⟩ := w_at_le hz
  have ev : ((z.toNat : Nat) : Int) = z := by omega
  have bne : jn ≠ [] := c_seal_b W58.1.1 hz
  rw [e61, e64, e67, ← ev]
  refine c_secondOf (c_V_sh W58.1) (by rw [W58.1.1.2.1]; omega) (fun _ _ => ?_)
  refine c_startEpochS (ep := ep) (cf := cf) (j := jn) (es := e_es T ep cf jn) (S := S) rfl lmm hb W58 gs58 t58 y2 (by rw [y5]; exact a56) (w_az_at pt2 bne) hS1 hS2 hS3 hS4 hS5 (fun t4 F1 mf f1 f2 WF aF th es2 it fo fr cF => ?_)
  intro _ _
  have flE := W58.1.2.2.2.1
  have adE := W58.1.2.2.2.2
  obtain ⟨sgF, oF⟩ := c_sg_far W58 WF sg58 cF f1.1 o58 ⟨by simp <;> omega, by simp <;> omega⟩
  have gsF := c_gs_ch gs58 flE adE cF (fun a ha hn => by simp at ha; omega) (fun _ f => fr f)
  have tF := c_tr_ch t58 flE adE cF (fun a ha => by simp at ha; omega) f1.1
  have i22F := (c_fx_iv flE adE cF (q := g + 22) (by unfold c_fix; omega) (by simp <;> omega)).1
  have v94F := c_fx_iv flE adE cF (q := 94) (by unfold c_fix; omega) (by simp <;> omega)
  have v18F := c_fx_iv flE adE cF (q := 18) (by unfold c_fix; omega) (by simp <;> omega)
  have upF : c_ch (c_Ajn g) H F1 := c_ch_t up (c_ch_sub cF (fun a ha => by rw [c_Ajn_m]; simp at ha; omega))
  intro v80 e80 _
  rw [(c_sg_len sgF).1] at e80
  have i80 : sw_w (v80 - 2) = ((lm.length - 2 : Nat) : Int) := by rw [e80, sw_w_s (by omega) (by omega)]; omega
  rw [i80]
  clear i80
  refine c_s_termAt WF.1.1.2.1 sgF hcm hcm2 (fun z5 a5 => ?_)
  intro _ _
  have iff := c_az_iff WF.1.1 (Or.inr aF) (Or.inr a5)
  refine ⟨fun c => ?_, fun c => q12 F1 mf (fun e => c (iff.mpr e)) f1 f2 WF gsF upF⟩
  have ecm : w_cfm (e_es T ep cf jn) cf = cm := iff.mp c
  rw [v94F.2 0, fH58.2.2.2.2.1 94 0, r0]
  refine ⟨(c_V_sh WF.1).1.1, ?_⟩
  intro q88 e88
  rw [e88]
  have hzF := w_le_at f1.1 hz
  obtain ⟨_, _, pt3F⟩ := c_parts WF.1.1 hzF (by decide)
  obtain ⟨_, le3⟩ := w_at_le hzF
  refine c_thirdOf (c_V_sh WF.1) (by rw [WF.1.1.2.1]; omega) (fun _ _ => ?_)
  have fin : ∀ (X : sw_H) (mm : List Wt), (sc = [] ∨ e_cl T l sd sc) → w_mo S mf mm → c_bS S mm tl N U M → c_W X mm nn K tl cn cs → c_ch [g + 22] F1 X → (∀ x v, x < t_w T → x ≠ 2 * l → w_az mm (sw_iv X (g + 22) x) (e_hd T l sd v sc x)) → (∀ x, t_w T ≤ x → x < 31 → sw_iv X (g + 22) x = 0) → P 0 X := fun X mm h1 h2 h3 h4' h5 h6 h7 => by
    have flF := WF.1.2.2.2.1
    have adF := WF.1.2.2.2.2
    have vg := c_fx_iv flF adF h5 (q := g) (by unfold c_fix; omega) (by simp)
    refine q0 X mm ecm h1 (w_mo_trans f1 h2) h3 h4' (c_gs_ch gsF flF adF h5 (fun a ha hn => by simp at ha; omega) (fun cc => by simp at cc)) (c_tr_ch tF flF adF h5 (fun a ha => by simp at ha; omega) h2.1) ?_ ?_ ?_ ?_ ?_ ?_ h6 h7 (c_ch_t upF (c_ch_sub h5 (fun a ha => by rw [c_Ajn_m]; simp at ha; omega)))
    · rw [vg.1, fo 2 (by decide) (by decide) (by decide)]; exact y2
    · rw [vg.1, fo 3 (by decide) (by decide) (by decide)]; exact y3
    · rw [vg.1]; exact w_le_at h2.1 th
    · rw [vg.1, fo 5 (by decide) (by decide) (by decide), y5]; exact w_le_az (w_le_trans f1.1 h2.1) a56
    · rw [vg.1, ← ecm]; exact w_le_at h2.1 it
    · rw [vg.1]; exact w_le_at h2.1 es2
  refine ⟨fun c1 => ?_, fun c1 => ?_⟩
  · have asc : w_at mf (c_d F1 z.toNat 3) sc := pt3F.resolve_left (fun h => c1 h.1)
    have scn : sc ≠ [] := c_at_ne WF.1.1 asc
    rw [v94F.2 6, fH58.2.2.2.2.1 94 6, h94]
    refine ⟨gsF.2.2.1, ?_⟩
    intro q99 e99
    rw [e99]
    have TaF : c_Ta F1 := c_Ta_ch hTa fl ad upF (fun cc => by rw [c_Ajn_m] at cc; omega)
    refine c_climb (S := S) (T := T) lmm hpl WF TaF (by rw [(c_fx_ty fl upF (q := 18) (by unfold c_fix; omega)).1]; exact h18) (by rw [v18F.1, fH58.2.2.2.2.2 18 (fun c => by rw [c_Agr_m] at c; omega)]; exact i7) gsF tF hpk (by rw [fo 3 (by decide) (by decide) (by decide)]; exact y3) hl hsd f2 asc hS6 (fun X mm b1 b2 b3 b4 b5 b6 b7 => ?_) (fun X mm b1 b2 b3 b4 b7 => ?_)
    · intro _ _
      refine fin X mm (Or.inr b1) b2 b3 b4 b7 (fun x v hx hxl => ?_) (fun x hx hx2 => ?_)
      · unfold e_hd
        rw [if_neg hxl]
        by_cases c3 : sc ≠ [] ∧ x % 2 = 1 ∧ x = t_ab l (w_h x) ∧ w_h x ≤ t_dp T ∧ e_h T l sd ≤ w_h x ∧ t_ky T x ≠ []
        · rw [if_pos c3]
          obtain ⟨_, _, d3, d4, d5, d6⟩ := c3
          have := b5 (w_h x) d5 d4 (by rw [← d3]; exact d6)
          rw [← d3] at this
          exact Or.inr this
        · rw [if_neg c3, b6 x (fun j j1 j2 j3 ex => c3 ?_), i22F, s22 x (by omega)]
          · exact Or.inl ⟨rfl, rfl⟩
          · have e0 : 1 ≤ e_h T l sd := e_mt_ge _ _
            have wh : w_h x = j := by rw [ex]; exact (w_h_ab ⟨l, by omega⟩ ⟨j, by omega⟩).1
            rw [wh]
            exact ⟨scn, by rw [ex]; exact t_ab_o (k := l) (h := j) (by omega) (by omega) (by omega), ex, j2, j1, by rw [ex]; exact j3⟩
      · rw [b6 x (fun j j1 j2 j3 ex => ?_), i22F, s22 x hx2]
        have := t_ab_w (T := T) (k := l) (h := j) h4 hl j2
        omega
    · intro _ _
      have gsX := c_gs_ch gsF WF.1.2.2.2.1 WF.1.2.2.2.2 b7 (fun a ha hn => by simp at ha; omega) (fun cc => by simp at cc)
      exact q11 X mm ecm scn b1 (w_mo_trans f1 b2) b3 b4 gsX (c_ch_t upF (c_ch_sub b7 (fun a ha => by rw [c_Ajn_m]; simp at ha; omega)))
  · have esc : sc = [] := by
      rcases pt3F with ⟨_, h⟩ | h
      · exact h
      · have := (w_at_le h).1
        omega
    refine fin F1 mf (Or.inl esc) w_mo_refl f2 WF (c_ch_refl _ _) (fun x v hx hxl => ?_) (fun x hx hx2 => by rw [i22F, s22 x hx2])
    unfold e_hd
    rw [if_neg hxl, if_neg (fun cc => cc.1 esc), i22F, s22 x (by omega)]
    exact Or.inl ⟨rfl, rfl⟩
end
