/-! ===== the class: leaves signed, epochs started ===== -/
noncomputable section
section
variable {H G X Y : sw_H} {d e f : Nat → Wt} {nn r ra : Nat} {K : Wt → Prop} {tl mk mm l : List Wt} {s a b c x cn cs N U M wo : Int} {Q : sw_H → Prop} {P : Int → sw_H → Prop} {A B : List Nat} {w wa wb : Wt} {T : w_T}
theorem c_W_len (lm : c_lm cn cs N U M) (bd : c_bl mk tl N U M) : mk.length ≤ 999999999 := by
  have b1 := bd.1
  have b2 := lm.2.2.1
  omega
theorem c_ch_refl (A : List Nat) (H : sw_H) : c_ch A H H := c_ch_sub (c_ft_ch (c_ft_refl H)) (by simp)
/-- signLeaf -/
theorem c_signLeaf {p m : Nat} {so num : Int} {ky ph : Wt} (lm : c_lm cn cs N U M) (hW : c_W H mk nn K tl cn cs) (hp1 : 16 < p) (hp2 : p ≤ 1491) (hm : m < 24) (hp : c_lf H mk p m ky (w_pub m) so ph) (ha : w_at mk a (w_nm m)) (bd : c_bl mk tl N U M) (q : ∀ X, c_W X (w_tl mk (w_lsg m ky so ph num)) nn K tl cn cs → w_at (w_tl mk (w_lsg m ky so ph num)) (sw_iv X p 5) (w_lsg m ky so ph num) → (∀ f, f ≠ 5 → sw_iv X p f = sw_iv H p f) → c_ch [14, 15, p] H X → Q X) : wm_256 11 p num a H Q := by
  have ml := c_W_len lm bd
  have hC := hW.2.1
  have fl := hW.1.2.2.2.1
  have rv3 := hC.2.2.2.2.1
  have rv0 := hC.2.1
  obtain ⟨s0, hrow⟩ := hW.2.2
  have so1 := hp.2.2.2.2.2.1
  have so3 := hp.2.2.2.2.2.2
  have fp : c_fix p := by unfold c_fix; omega
  unfold wm_256
  rw [rv3]
  refine ⟨hrow.1, ?_⟩
  intro q15 e15
  rw [e15]
  refine c_W_clear hW (fun H1 W1 r1 f1 l15 _ => ?_)
  rw [f1.2.2.2.2.1, rv3]
  refine ⟨by rw [f1.2.2.1]; exact hrow.1, ?_⟩
  intro q23 e23
  rw [e23]
  have pv1 : ∀ f, sw_iv H1 p f = sw_iv H p f := fun f => by rw [f1.2.2.2.2.2 p (by simp; omega)]
  refine c_writeTo (z := 0) (sg := []) W1.1.1 ml r1 (by rw [l15]; simp) (c_lf_iv hp (fun f _ => pv1 f) (w_le_refl _)) (fun h => absurd rfl h) (by omega) (fun H2 r2 f2 _ => ?_)
  rw [if_neg (by simp), List.append_nil, List.nil_append] at r2
  have f12 := c_fr_t f1 f2
  have pv2 : ∀ f, sw_iv H2 p f = sw_iv H p f := fun f => by rw [f12.2.2.2.2.2 p (by simp; omega)]
  have lh := w_lh_len m ky (w_pub m) so ph
  have last : ∀ H3 l3, c_rr H3 mk 14 15 l3 → l3.length ≤ 100 → c_fr [14, 15] H H3 → w_t 7 (w_nm m) [] [] l3 = w_lsg m ky so ph num → wb_256_16 Q 11 p a H3 := by
    intro H3 l3 r3 h3 f3 e3
    have W3 := c_W_row hW f3 r3
    unfold wb_256_16
    rw [f3.2.2.2.2.1, f3.2.2.2.2.1, rv0, rv3]
    refine ⟨W3.1.1.1.1.1.1, ?_⟩
    intro q1 e1
    refine ⟨by rw [f3.2.2.1]; exact hrow.1, ?_⟩
    intro q4 e4
    rw [e1, e4]
    refine c_partL (Or.inr rfl) lm W3.1 ha r3 (by omega) bd (fun X t a1 a2 a3 _ _ => ?_)
    have et : w_t (7 : Int).toNat (w_nm m) [] [] l3 = w_lsg m ky so ph num := e3
    rw [et] at a1 a2
    intro H12 e12
    have WX := c_W_ch W3 a1 a3 (by simp) (w_le_tl _ _)
    have f12' : c_fr [p] X H12 := by rw [e12]; exact c_fr_si _ _ _ _
    have c3 : c_ch [14, 15] H H3 := c_V_ch hW.1 f3 (fun a ha => by simp at ha; unfold c_fix; omega)
    have c12 : c_ch [p] X H12 := c_V_ch WX.1 f12' (fun a ha => by simp at ha; rw [ha]; exact fp)
    have tp : sw_ty H p ≠ 0 := fl p (by omega) hp2
    refine q H12 (c_W_fr WX f12' (fun a ha => by simp at ha; rw [ha]; exact ⟨fp, by omega⟩)) (by rw [e12, c_si_eq]; exact a2) (fun f hf => ?_) (c_ch_sub (c_ch_trans c3 (c_ch_trans a3 c12)) (by simp))
    rw [e12, c_si_f hf, (a3.2.1 p (by rw [f3.2.2.1]; exact tp) (c_fix_no W3.1.2.2.2.2 fp) (by simp)).1, f3.2.2.2.2.2 p (by simp; omega)]
  intro v31 e31 _
  rw [pv2, hp.2.2.2.1] at e31
  refine ⟨fun c => last H2 _ r2 (by omega) f12 ?_, fun c => ?_⟩
  · unfold w_lsg
    rw [if_neg (by omega), List.append_nil]
  · rw [f12.2.2.2.2.1, rv3]
    refine ⟨by rw [f12.2.2.1]; exact hrow.1, ?_⟩
    intro q34 e34
    rw [e34]
    refine c_s_b16 r2 (by rw [f12.2.2.2.1, hC.2.2.2.2.2.2.2.2.2.1]; omega) (fun H3 r3 f3 _ => ?_)
    refine last H3 _ r3 (by rw [List.length_append]; simp [w_b16]; omega) (c_fr_t f12 f3) ?_
    unfold w_lsg
    rw [if_pos (by omega)]
/-- the cells of a Group -/
def c_gs (H : sw_H) (g : Nat) : Prop := 17 < g ∧ g + 22 ≤ 1491 ∧ sw_ty H g = 40 ∧ sw_rv H g 0 = g + 1 ∧ sw_rv H g 1 = g + 22 ∧ sw_ty H (g + 22) = 1 ∧ sw_ln H (g + 22) = 31 ∧ c_ts H (g + 1)
theorem c_gs_ch {g : Nat} (h : c_gs H g) (fl : c_full H) (ad : c_ads H) (k : c_ch A H G) (hA : ∀ a ∈ A, a ≠ g → a ≠ g + 1 ∧ a ≠ g + 5) (hg : g ∈ A → ∀ f, sw_rv G g f = sw_rv H g f) : c_gs G g := by
  obtain ⟨h1, h2, h3, h4, h5, h6, h7, h8⟩ := h
  have no : ∀ q, g ≤ q → q ≤ g + 22 → sw_ty H q ≠ 0 ∧ ¬ c_ow H q := fun q g1 g2 => ⟨fl q (by omega) (by omega), c_fx ad (by omega) (by omega) (by omega) (by omega)⟩
  have et : ∀ q, g ≤ q → q ≤ g + 22 → sw_ty G q = sw_ty H q ∧ sw_ln G q = sw_ln H q := fun q g1 g2 => k.1.2 q (no q g1 g2).1
  have e0 : ∀ f, sw_rv G g f = sw_rv H g f := fun f => by
    by_cases hm : g ∈ A
    · exact hg hm f
    · exact (k.2.1 g (no g (by omega) (by omega)).1 (no g (by omega) (by omega)).2 hm).2 f
  refine ⟨h1, h2, by rw [(et g (by omega) (by omega)).1]; exact h3, by rw [e0]; exact h4, by rw [e0]; exact h5, by rw [(et _ (by omega) (by omega)).1]; exact h6, by rw [(et _ (by omega) (by omega)).2]; exact h7, c_ts_ch h8 fl ad k (fun a ha => ?_)⟩
  by_cases c : a = g
  · omega
  · have := hA a ha c
    omega
/-- startEpoch -/
theorem c_startEpoch {g : Nat} {ep : Int} {cf j es : Wt} (ees : es = w_t 3 j [0] [] (w_ctx T ep cf)) (lm : c_lm cn cs N U M) (hW : c_W H mk nn K tl cn cs) (hg : c_gs H g) (ht : c_tr H mk (g + 1) T) (hep : sw_iv H g 2 = ep) (h33 : w_az mk (sw_iv H g 5) cf) (hj : w_at mk a j) (bd : c_bl (w_tl (w_tl (w_tl (w_tl (w_mkh T 0 (t_top T) mk) es) (w_t 3 es [2] [] [])) (w_cfm es cf)) (w_int cf (w_cfm es cf))) tl N U M) (q : ∀ t X, c_W X (w_tl (w_tl (w_tl (w_tl (w_mkh T 0 (t_top T) mk) es) (w_t 3 es [2] [] [])) (w_cfm es cf)) (w_int cf (w_cfm es cf))) nn K tl cn cs → w_at (w_tl (w_tl (w_tl (w_tl (w_mkh T 0 (t_top T) mk) es) (w_t 3 es [2] [] [])) (w_cfm es cf)) (w_int cf (w_cfm es cf))) t (w_cfm es cf) → w_at (w_tl (w_tl (w_tl (w_tl (w_mkh T 0 (t_top T) mk) es) (w_t 3 es [2] [] [])) (w_cfm es cf)) (w_int cf (w_cfm es cf))) (sw_iv X g 4) (w_th T 0 (t_top T)) → w_at (w_tl (w_tl (w_tl (w_tl (w_mkh T 0 (t_top T) mk) es) (w_t 3 es [2] [] [])) (w_cfm es cf)) (w_int cf (w_cfm es cf))) (sw_iv X g 7) es → w_at (w_tl (w_tl (w_tl (w_tl (w_mkh T 0 (t_top T) mk) es) (w_t 3 es [2] [] [])) (w_cfm es cf)) (w_int cf (w_cfm es cf))) (sw_iv X g 6) (w_int cf (w_cfm es cf)) → (∀ f, f ≠ 4 → f ≠ 6 → f ≠ 7 → sw_iv X g f = sw_iv H g f) → (∀ f, sw_rv X g f = sw_rv H g f) → c_ch [14, 15, 16, g] H X → P t X) : wm_155 11 g a H P := by
  have hd := ht.2.1.1
  obtain ⟨h1, h2, h3⟩ := t_top_h hd
  have bd3 := c_bl_le (w_le_tl _ _) bd
  have bd2 := c_bl_le (w_le_tl _ _) bd3
  have bd1 := c_bl_le (w_le_tl _ _) bd2
  have bd0 := c_bl_le (w_le_tl _ _) bd1
  have le0 : w_le mk (w_mkh T 0 (t_top T) mk) := w_tls_le _ _
  have ml := c_W_len lm bd
  have l3 := w_le_len (w_le_tl (w_tl (w_tl (w_tl (w_mkh T 0 (t_top T) mk) es) (w_t 3 es [2] [] [])) (w_cfm es cf)) (w_int cf (w_cfm es cf)))
  have l2 := w_le_len (w_le_tl (w_tl (w_tl (w_mkh T 0 (t_top T) mk) es) (w_t 3 es [2] [] [])) (w_cfm es cf))
  have l1 := w_le_len (w_le_tl (w_tl (w_mkh T 0 (t_top T) mk) es) (w_t 3 es [2] [] []))
  have l0 := w_le_len (w_le_tl (w_mkh T 0 (t_top T) mk) es)
  obtain ⟨g1, g2, g3, g4, g5, g6, g7, g8⟩ := hg
  have fl := hW.1.2.2.2.1
  have fg : c_fix g := by unfold c_fix; omega
  have tg : sw_ty H g ≠ 0 := fl g (by omega) (by omega)
  have gA : ∀ a ∈ [g], c_fix a ∧ (15 < a ∨ a = 2) := fun a ha => by simp at ha; rw [ha]; exact ⟨fg, by omega⟩
  have rA : ∀ a ∈ [14, 15], c_fix a := fun a ha => by simp at ha; unfold c_fix; omega
  -- what Crypt's cells are, wherever
  have cr : ∀ {Z m0}, c_W Z m0 nn K tl cn cs → sw_rv Z 11 0 = 3 ∧ sw_rv Z 11 3 = 14 ∧ sw_ty Z 3 = 96 ∧ sw_ty Z 14 = 80 ∧ sw_ln Z 15 = 1400 := fun {Z m0} h => by
    obtain ⟨s0, hr⟩ := h.2.2
    exact ⟨h.2.1.2.1, h.2.1.2.2.2.2.1, h.1.1.1.1.1.1, hr.1, h.2.1.2.2.2.2.2.2.2.2.2.1⟩
  unfold wm_155
  rw [g4]
  refine ⟨ht.1.2.2.1, ?_⟩
  intro q1 e1
  refine ⟨ht.1.2.2.1, ?_⟩
  intro q4 e4
  rw [e1, e4]
  unfold wm_259
  intro v1 ev1 _
  rw [ht.2.2.1] at ev1
  have key : ∀ d : Fin 5, sw_w (sw_shl 1 (d.val : Int) - 1) = ((2 ^ d.val - 1 : Nat) : Int) := by decide +kernel
  have kt : sw_w (sw_shl 1 (t_dp T : Int) - 1) = ((t_top T : Nat) : Int) := key ⟨t_dp T, by omega⟩
  rw [ev1, kt]
  clear kt key ev1
  intro _ _
  refine c_treeHash lm h2 h3 hW ht (by unfold sw_c; omega) bd0 (fun th X1 W1 a1 c1 _ _ => ?_)
  intro H17 e17
  have i1 := c1.2.1 g tg (c_fix_no hW.1.2.2.2.2 fg) (by simp; omega)
  have f17 : c_fr [g] X1 H17 := by rw [e17]; exact c_fr_si _ _ _ _
  have W17 := c_W_fr W1 f17 gA
  have c17 : c_ch [14, 15, 16, g] H H17 := c_ch_sub (c_ch_trans c1 (c_V_ch W1.1 f17 (fun a ha => (gA a ha).1))) (by simp)
  have v17 : ∀ f, f ≠ 4 → sw_iv H17 g f = sw_iv H g f := fun f hf => by rw [e17, c_si_f hf, i1.1]
  have u17 : sw_iv H17 g 4 = th := by rw [e17, c_si_eq]
  have w17 : ∀ f, sw_rv H17 g f = sw_rv H g f := fun f => by rw [f17.2.2.2.2.1, i1.2]
  have t17 : sw_ty H17 g ≠ 0 := by rw [f17.2.2.1, (c1.1.2 g tg).1]; exact tg
  clear e17
  obtain ⟨p1, p2, p3, p4, p5⟩ := cr W17
  rw [p2]
  refine ⟨p4, ?_⟩
  intro q20 e20
  rw [e20]
  refine c_W_clear W17 (fun H2 W2 r2 f2 l15 _ => ?_)
  -- the context
  unfold wm_261
  have pg : ∀ {Z}, c_fr [14, 15] H17 Z → sw_iv Z g = sw_iv H17 g := fun {Z} f => f.2.2.2.2.2 g (by simp; omega)
  obtain ⟨p1, p2, p3, p4, p5⟩ := cr W2
  rw [p2]
  refine ⟨p4, ?_⟩
  intro q1' e1' v4 e4' _
  rw [e1']
  rw [pg f2, v17 2 (by decide), hep] at e4'
  subst e4'
  refine c_s_b32 r2 (by rw [l15]; simp) (fun H3 r3 f3 _ => ?_)
  have f23 := c_fr_t f2 f3
  have W3 := c_W_row W17 f23 r3
  obtain ⟨p1, p2, p3, p4, p5⟩ := cr W3
  rw [p2]
  refine ⟨p4, ?_⟩
  intro q12 e12 v15 e15 _
  rw [e12]
  rw [pg f23, u17] at e15
  subst e15
  refine c_s_term r3 (by rw [p5]; simp [w_b32, w_b16]) (by omega) a1 (fun H4 r4 f4 _ => ?_)
  have f24 := c_fr_t f23 f4
  have W4 := c_W_row W17 f24 r4
  obtain ⟨p1, p2, p3, p4, p5⟩ := cr W4
  rw [p2]
  refine ⟨p4, ?_⟩
  intro q23 e23 v26 e26 _
  rw [e23]
  rw [pg f24, v17 5 (by decide)] at e26
  subst e26
  refine c_s_perhaps W4.1.1 r4 (by rw [p5]; simp [w_b32, w_b16]) (by omega) (w_le_az le0 h33) (fun H5 r5 f5 _ => ?_)
  have f25 := c_fr_t f24 f5
  have W5 := c_W_row W17 f25 r5
  have er : [] ++ w_b32 v4 ++ [w_th T 0 (t_top T)] ++ [w_pb cf] = w_ctx T v4 cf := by unfold w_ctx; simp
  rw [er] at r5
  obtain ⟨p1, p2, p3, p4, p5⟩ := cr W5
  intro _
  rw [p1, p2]
  refine ⟨p3, ?_⟩
  intro q33 e33
  refine ⟨p4, ?_⟩
  intro q36 e36
  rw [e33, e36]
  have c5 : c_ch [14, 15] H17 H5 := c_V_ch W17.1 f25 rA
  have es' : w_t 3 j [(0 : Int).toNat] [] (w_ctx T v4 cf) = es := ees.symm
  refine c_derL (b := 0) lm W5.1 (w_le_at le0 hj) (by omega) (by omega) r5 (by unfold w_ctx w_b32 w_b16; simp) bd0 (fun X6 t6 a6 b6 c6 _ _ => ?_)
  rw [es'] at a6 b6
  have W6 := c_W_ch W5 a6 c6 (by simp) (w_le_tl _ _)
  intro H44 e44
  have f44 : c_fr [g] X6 H44 := by rw [e44]; exact c_fr_si _ _ _ _
  have W44 := c_W_fr W6 f44 gA
  have t5 : sw_ty H5 g ≠ 0 := by rw [f25.2.2.1]; exact t17
  have i6 := c6.2.1 g t5 (c_fix_no W5.1.2.2.2.2 fg) (by simp)
  have c44 : c_ch [14, 15, 16, g] H H44 := c_ch_sub (c_ch_trans c17 (c_ch_trans c5 (c_ch_trans c6 (c_V_ch W6.1 f44 (fun a ha => (gA a ha).1))))) (by simp)
  have v44 : ∀ f, f ≠ 7 → sw_iv H44 g f = sw_iv H17 g f := fun f hf => by rw [e44, c_si_f hf, i6.1, pg f25]
  have u44 : sw_iv H44 g 7 = t6 := by rw [e44, c_si_eq]
  have w44 : ∀ f, sw_rv H44 g f = sw_rv H g f := fun f => by rw [f44.2.2.2.2.1, i6.2, f25.2.2.2.2.1, w17]
  have t44 : sw_ty H44 g ≠ 0 := by rw [f44.2.2.1, (c6.1.2 g t5).1]; exact t5
  clear e44
  intro v47 e47 _
  rw [u44] at e47
  subst e47
  refine c_der (b := 2) lm W44 b6 (by omega) (by omega) bd1 (fun X7 t7 W7 b7 c7 _ _ => ?_)
  have i7 := c7.2.1 g t44 (c_fix_no W44.1.2.2.2.2 fg) (by simp)
  have t77 : sw_ty X7 g ≠ 0 := by rw [(c7.1.2 g t44).1]; exact t44
  obtain ⟨p1, p2, p3, p4, p5⟩ := cr W7
  rw [p2]
  refine ⟨p4, ?_⟩
  intro q58 e58
  rw [e58]
  refine c_W_clear W7 (fun H8 W8 r8 f8 l158 _ => ?_)
  have pg8 : ∀ {Z}, c_fr [14, 15] X7 Z → sw_iv Z g = sw_iv X7 g := fun {Z} f => f.2.2.2.2.2 g (by simp; omega)
  obtain ⟨p1, p2, p3, p4, p5⟩ := cr W8
  rw [p2]
  refine ⟨p4, ?_⟩
  intro q66 e66 v69 e69 _
  rw [e66]
  rw [pg8 f8, i7.1, v44 5 (by decide), v17 5 (by decide)] at e69
  subst e69
  have le7 : w_le (w_mkh T 0 (t_top T) mk) (w_tl (w_tl (w_mkh T 0 (t_top T) mk) es) (w_t 3 es [2] [] [])) := w_le_trans (w_le_tl _ _) (w_le_tl _ _)
  refine c_s_perhaps W8.1.1 r8 (by rw [l158]; simp) (by show (w_tl (w_tl (w_mkh T 0 (t_top T) mk) es) (w_t 3 es [2] [] [])).length ≤ _; omega) (w_le_az (w_le_trans le0 le7) h33) (fun H9 r9 f9 _ => ?_)
  have f89 := c_fr_t f8 f9
  have W9 := c_W_row W7 f89 r9
  obtain ⟨p1, p2, p3, p4, p5⟩ := cr W9
  rw [p1, p2]
  refine ⟨p3, ?_⟩
  intro q77 e77
  refine ⟨p4, ?_⟩
  intro q80 e80
  rw [e77, e80]
  refine c_partL (Or.inl rfl) lm W9.1 b7 r9 (by simp) bd2 (fun X10 t10 a10 b10 c10 _ _ => ?_)
  have em : w_t (2 : Int).toNat (w_t 3 es [(2 : Int).toNat] [] []) [] [] ([] ++ [w_pb cf]) = w_cfm es cf := rfl
  rw [em] at a10 b10
  have W10 := c_W_ch W9 a10 c10 (by simp) (w_le_tl _ _)
  have r10 := c_rr_ch W9.1 r9 c10 a10 (w_le_tl _ _) (by simp) (by simp)
  have t9 : sw_ty H9 g ≠ 0 := by rw [f89.2.2.1]; exact t77
  have i10 := c10.2.1 g t9 (c_fix_no W9.1.2.2.2.2 fg) (by simp)
  have t100 : sw_ty X10 g ≠ 0 := by rw [(c10.1.2 g t9).1]; exact t9
  obtain ⟨p1, p2, p3, p4, p5⟩ := cr W10
  rw [p2]
  refine ⟨p4, ?_⟩
  intro q91 e91
  rw [e91]
  refine c_s_term r10 (by rw [p5]; simp) (by show (w_tl (w_tl (w_tl (w_mkh T 0 (t_top T) mk) es) (w_t 3 es [2] [] [])) (w_cfm es cf)).length ≤ _; omega) b10 (fun H11 r11 f11 _ => ?_)
  have W11 := c_W_row W10 f11 r11
  obtain ⟨p1, p2, p3, p4, p5⟩ := cr W11
  rw [p1, p2]
  refine ⟨p3, ?_⟩
  intro q99 e99
  refine ⟨p4, ?_⟩
  intro q102 e102
  rw [e99, e102]
  refine c_hashL lm W11.1 r11 (by simp) bd3 (fun X12 t12 a12 b12 c12 _ _ => ?_)
  have ei : w_t 1 [] [] [] ([] ++ [w_pb cf] ++ [w_cfm es cf]) = w_int cf (w_cfm es cf) := rfl
  rw [ei] at a12 b12
  have W12 := c_W_ch W11 a12 c12 (by simp) (w_le_tl _ _)
  have t11 : sw_ty H11 g ≠ 0 := by rw [f11.2.2.1]; exact t100
  have i12 := c12.2.1 g t11 (c_fix_no W11.1.2.2.2.2 fg) (by simp)
  intro H110 e110
  have f110 : c_fr [g] X12 H110 := by rw [e110]; exact c_fr_si _ _ _ _
  have iv11 : sw_iv H11 g = sw_iv X10 g := f11.2.2.2.2.2 g (by simp; omega)
  have vv : ∀ f, f ≠ 6 → sw_iv H110 g f = sw_iv H44 g f := fun f hf => by rw [e110, c_si_f hf, i12.1, iv11, i10.1, pg8 f89, i7.1]
  refine q t10 H110 (c_W_fr W12 f110 gA) (w_le_at (w_le_tl _ _) b10) ?_ ?_ ?_ (fun f h4 h6 h7 => ?_) (fun f => ?_) ?_
  · rw [vv 4 (by decide), v44 4 (by decide), u17]
    exact w_le_at (w_le_trans (w_le_tl _ _) (w_le_trans (w_le_tl _ _) (w_le_trans (w_le_tl _ _) (w_le_tl _ _)))) a1
  · rw [vv 7 (by decide), u44]
    exact w_le_at (w_le_trans (w_le_tl _ _) (w_le_trans (w_le_tl _ _) (w_le_tl _ _))) b6
  · rw [e110, c_si_eq]
    exact b12
  · rw [vv f h6, v44 f h7, v17 f h4]
  · rw [f110.2.2.2.2.1, i12.2, f11.2.2.2.2.1, i10.2, f89.2.2.2.2.1, i7.2, w44]
  · refine c_ch_sub (c_ch_trans c44 (c_ch_trans c7 (c_ch_trans (c_V_ch W7.1 f89 rA) (c_ch_trans c10 (c_ch_trans (c_V_ch W10.1 f11 rA) (c_ch_trans c12 (c_V_ch W12.1 f110 (fun a ha => (gA a ha).1)))))))) (by simp)
end
end
