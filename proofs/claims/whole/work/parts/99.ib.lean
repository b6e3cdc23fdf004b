/-! ===== the class: openPath ===== -/
noncomputable section
variable {H Z X : sw_H} {nn g l r ra pf b e1 : Nat} {K S : Wt → Prop} {tl mk mm lm : List Wt} {cn cs msk N U M ep sd : Int} {P : Int → sw_H → Prop} {T T2 : w_T} {p cf sg tg : Wt} {ns : List p_N} {f : p_L} {es : List p_E} {hv : Nat → Wt} {kf : Nat → Wt} {A : List Nat}
theorem d_fs_6 : ∀ (ys : List Nat) (ts : List Wt), d_fs T hv ys ts ≠ [] → ∃ a b c L, d_fs T hv ys ts = w_t 6 a b c L
  | [], ts, h => by
    have e1 : d_fs T hv [] ts = [] := by cases ts <;> rfl
    exact absurd e1 h
  | y :: ys, [], h => absurd rfl h
  | y :: ys, w :: ts, h => by
    have e1 : d_fs T hv (y :: ys) (w :: ts) = if hv y = [] then d_fs T hv ys ts else @ite _ (∃ b c L, w = w_t 6 (t_ky T y) b c L) (Classical.propDecidable _) w [] := rfl
    rw [e1] at h ⊢
    by_cases c0 : hv y = []
    · rw [if_pos c0] at h ⊢
      exact d_fs_6 ys ts h
    · rw [if_neg c0] at h ⊢
      by_cases c1 : ∃ b c L, w = w_t 6 (t_ky T y) b c L
      · rw [if_pos c1]
        obtain ⟨b, c, L, e⟩ := c1
        exact ⟨_, b, c, L, e⟩
      · rw [if_neg c1] at h
        exact absurd rfl h
theorem c_seal_b {x : Int} {a b c : Wt} {L : List Wt} (hL : c_L H mk nn K tl) (hx : w_at mk x (w_t 6 a b c L)) : b ≠ [] := by
  intro e
  have z : c_d H x.toNat 2 = 0 := by
    rcases (c_parts hL hx (by decide)).2.1 with ⟨g, _⟩ | g
    · exact g
    · exact absurd e (c_at_ne hL g)
  obtain ⟨t1, t2, rw', eg⟩ := c_L_rw hL hx
  obtain ⟨va, f0, f1, f2, hsn, hd, hn⟩ := rw'
  by_cases c8 : c_d H x.toNat 0 = 0
  · rcases hn c8 with ⟨_, hi⟩ | ⟨_, i, _, hi⟩
    · rw [eg] at hi
      have := (w_mk_inj hi).1
      omega
    · rw [eg] at hi
      have := (w_mk_inj hi).1
      omega
  · have hd := (hd c8).1
    rw [eg] at hd
    have v0 := va.1
    have s6 : c_d H x.toNat 0 = 6 := by
      have := (w_mk_inj hd).1
      omega
    clear hn hd
    obtain ⟨_, _, _, _, _, _, _, _, _, _, _, _, _, v⟩ := va
    have := (v s6).2.2
    omega
theorem c_ob_fr (h : c_ob H mk nn K tl cn cs g T msk l kf) (k : c_fr [94] H Z) : c_ob Z mk nn K tl cn cs g T msk l kf := by
  obtain ⟨h1, h2, h3, h4, h5, h6⟩ := h
  refine ⟨c_W_fr h1 k (fun a ha => by simp at ha; unfold c_fix; omega), ?_, c_Pa_fr h3 k, c_pk2_fr h4 k (fun a ha => by simp at ha; omega), c_gs_fr h5 k, fun i k' hi => ?_⟩
  · unfold c_Ta at h2 ⊢
    simp only [k.2.2.1, k.2.2.2.2.1]
    exact h2
  · rw [k.2.2.2.2.2 88 (by decide)]
    exact h6 i k' hi
/-- without a path nothing is opened -/
theorem c_openPath0 (hTa : c_Ta H) (h18 : sw_ty H 18 = 72) (hno : sw_iv H 18 11 = -1) (q : ∀ X, sw_iv X 94 7 = 1 → c_fr [94] H X → P 0 X) : wm_307 94 g r H P := by
  obtain ⟨t94, r0, r1, r2, r3, r4, _⟩ := id hTa
  unfold wm_307
  intro H105 e105
  have f : c_fr [94] H H105 := by rw [e105]; exact c_fr_si _ _ _ _
  have v : sw_iv H105 94 7 = 1 := by rw [e105, c_si_eq]
  clear e105
  rw [f.2.2.2.2.1, r2]
  refine ⟨by rw [f.2.2.1]; exact h18, ?_⟩
  intro q108 e108 v111 e111 _
  rw [e108, f.2.2.2.2.2 18 (by decide), hno] at e111
  exact ⟨fun c => absurd e111 c, fun _ => q H105 v f⟩
theorem c_openPath (lmm : c_lm cn cs N U M) (hpl : c_pl g) (hg93 : 93 < g) (h4 : t_dp T ≤ 4) (hl : l < 2 ^ t_dp T) (hB : c_ob H mk nn K tl cn cs g T msk l (d_kf T l ns)) (n5 : ∀ n ∈ ns, w_i5 n.1) (h18 : sw_ty H 18 = 72) (hRe : c_Re H) (hpn : c_pn H mk ns) (hsh : d_sh T msk l ns) (hsg : c_sg H (w_d mk) r ra lm) (hr : r ≠ 94 ∧ ra ≠ 94) (hlm : lm.length ≤ 1400) (hcm : p_cm K lm ep sd b e1 es (some (f, ns)) sg cf tg) (ht : c_tr H mk (g + 1) T2) (h576 : (w_sq T msk l (t_wl T l (t_dp T))).length ≤ 576) (hy : ∀ k, k < t_dp T → ∀ y ∈ w_rq T msk l k, y < t_w T2 ∧ t_ky T2 y ≠ []) (hh : ∀ x, x < t_w T2 → w_az mk (sw_iv H (g + 22) x) (hv x)) (hlf : sw_iv H g 3 = (pf : Nat)) (tis : t_is T pf) (hne : pf ≠ l) (hb : c_bS S mk tl N U M) {k0 : Nat} (ek0 : k0 = t_mf T l pf 0 (t_dp T)) (ep0 : p = d_op T2 hv (w_rq T msk l k0) (d_tf T l ns k0)) (hS : ∀ v, d_clS T l p k0 v → S v)
    (q10 : ∀ X, p = [] → c_W X mk nn K tl cn cs → (∀ f, sw_rv X 94 f = sw_rv H 94 f) → c_ch [90, 94, g + 22] H X → P 10 X) (q11 : ∀ X mm, p ≠ [] → ¬ d_cok T l p k0 (d_kf T l ns) → w_mo S mk mm → c_bS S mm tl N U M → c_W X mm nn K tl cn cs → (∀ f, sw_rv X 94 f = sw_rv H 94 f) → c_ch [90, 94, g + 22] H X → P 11 X)
    (q0 : ∀ X mm, p ≠ [] → d_cok T l p k0 (d_kf T l ns) → w_mo S mk mm → c_bS S mm tl N U M → c_W X mm nn K tl cn cs → w_at mm (sw_iv X 94 7) (d_ls T l p k0 (t_dp T)) → (∀ k : Nat, k0 ≤ k → k < t_dp T → t_cb T l k ≠ 0 → w_at mm (sw_iv X (g + 22) (t_ab l (k + 1))) (w_dr (d_ls T l p k0 k) 5)) → (∀ x : Nat, (∀ k : Nat, k0 ≤ k → k < t_dp T → t_cb T l k ≠ 0 → x ≠ t_ab l (k + 1)) → sw_iv X (g + 22) x = sw_iv H (g + 22) x) → (∀ f, sw_rv X 94 f = sw_rv H 94 f) → c_ch [90, 94, g + 22] H X → P 0 X) : wm_307 94 g r H P := by
  have d16 := t_d_16 h4
  have plb := c_pl_b hpl
  have hW := hB.1
  obtain ⟨t94, r0, r1, r2, r3, r4, _⟩ := id hB.2.1
  unfold wm_307
  intro H1 e105
  have f1 : c_fr [94] H H1 := by rw [e105]; exact c_fr_si _ _ _ _
  clear e105
  have B1 := c_ob_fr hB f1
  have W1 := B1.1
  have C1 := c_V_ch hW.1 f1 (fun a ha => by simp at ha; unfold c_fix; omega)
  have gs1 := B1.2.2.2.2.1
  have up : ∀ {X : sw_H}, c_ch [90, 94, g + 22] H1 X → c_ch [90, 94, g + 22] H X := fun {X} c => c_ch_t (c_ch_sub C1 (by simp)) c
  rw [B1.2.1.2.2.2.1]
  refine ⟨by rw [f1.2.2.1]; exact h18, ?_⟩
  intro q108 e108 v111 e111 _
  rw [e108, f1.2.2.2.2.2 18 (by decide), hpn.1] at e111
  refine ⟨fun _ => ?_, fun c => by omega⟩
  rw [B1.2.1.2.2.2.2.2.1]
  refine ⟨B1.2.2.1.1, ?_⟩
  intro q114 e114 v117 e117 _
  rw [f1.2.2.2.2.2 g (by simp; omega), hlf] at e117
  rw [e114, e117]
  have p16 : pf < 16 := by have := tis.1; omega
  refine c_indexAbove B1.2.2.1 B1.2.2.2.1 h4 hl p16 (fun st k hst _ hmf => ?_) (fun hno => ?_)
  rotate_left
  · exfalso
    obtain ⟨j, j1, j2, j3⟩ := t_meet h4 hl tis hne
    exact hno _ j (t_wl_in j2 j1) j3
  intro _ _
  have ek : k = k0 := by rw [ek0, hmf]
  subst ek
  obtain ⟨a1, a2, a3, a4⟩ := t_wl_at hst
  have sl : st < (t_wl T l (t_dp T)).length := (List.getElem?_eq_some_iff.mp hst).1
  have len4 := t_wl_len (T := T) (l := l) (t_dp T)
  have lst : (t_wl T l k).length = st := by rw [a3, List.length_take]; omega
  refine ⟨fun _ => ?_, fun c => by omega⟩
  have hin : (t_wl T l k).length < ns.length := by rw [hsh.1, lst]; exact sl
  obtain ⟨⟨nk, s0, t⟩, hn⟩ : ∃ n, ns[(t_wl T l k).length]? = some n := ⟨_, List.getElem?_eq_getElem hin⟩
  have hn' := hn
  rw [lst] at hn'
  have epf : d_pf T l ns k = s0 := by unfold d_pf; rw [hn]; rfl
  have etf : d_tf T l ns k = t := by unfold d_tf; rw [hn]; rfl
  have hlen : (w_rq T msk l k).length = (d_tf T l ns k).length := by
    rw [etf]
    exact (hsh.2 st k _ hst hn').symm
  have hts := d_tf_ts (T := T) (l := l) (k := k) hcm hin
  have tne : ∀ w ∈ d_tf T l ns k, w ≠ [] := fun w hw e => by
    obtain ⟨j, hj⟩ := List.getElem?_of_mem hw
    have := (hts j w hj).2.1
    rw [e] at this
    cases this
  refine c_sealedFor (T := T2) (T0 := T) (hv := hv) (s0 := d_pf T l ns k) (ts := d_tf T l ns k) W1.1 B1.2.1 (by rw [f1.2.2.1]; exact h18) B1.2.2.1 (c_Re_fr hRe f1) gs1 (c_tr_ch ht hW.1.2.2.2.1 hW.1.2.2.2.2 C1 (fun a ha => by simp at ha; omega) (w_le_refl _)) B1.2.2.2.1 hst (by omega) h576 (by rw [f1.2.2.2.2.2 20 (by decide), epf]; exact (hpn.2 st nk s0 t (by omega) hn').2.1) (c_sg_fr hsg f1 (by simp; exact hr.1) (by simp; exact hr.2) (by decide)) hlm hlen hts (hy k a1) (fun x hx => by rw [f1.2.2.2.2.2 (g + 22) (by simp; omega)]; exact hh x hx) (fun z hz => ?_)
  intro _ _
  obtain ⟨o1, o2⟩ := d_op_fs (T := T2) (hv := hv) (w_rq T msk l k) (d_tf T l ns k)
  rw [← ep0] at o1 o2
  unfold wb_307_26
  refine ⟨fun c => q10 H1 (o1 ?_ tne) W1 (f1.2.2.2.2.1 94) (up (c_ch_refl _ _)), fun c => ?_⟩
  · rcases hz with ⟨_, g⟩ | g
    · exact g
    · have := (w_at_le g).1
      omega
  have wz : w_at mk z (d_fs T2 hv (w_rq T msk l k) (d_tf T l ns k)) := by
    rcases hz with ⟨g, _⟩ | g
    · exact absurd g c
    · exact g
  obtain ⟨a, b', c', L', eg⟩ := d_fs_6 (T := T2) (hv := hv) (w_rq T msk l k) (d_tf T l ns k) (c_at_ne W1.1.1 wz)
  have op := o2 a b' c' L' eg
  have wz' := wz
  rw [eg] at wz'
  obtain ⟨pt1, pt2, pt3⟩ := c_parts W1.1.1 wz' (by decide)
  obtain ⟨le1, le2⟩ := w_at_le wz
  have ev : ((z.toNat : Nat) : Int) = z := by omega
  rw [B1.2.1.2.1]
  refine ⟨(c_V_sh W1.1).1.1, ?_⟩
  intro q81 e81
  rw [e81, ← ev]
  refine c_thirdOf (c_V_sh W1.1) (by rw [W1.1.1.2.1]; omega) (fun _ _ => ?_)
  have bne : b' ≠ [] := c_seal_b W1.1.1 wz'
  refine ⟨fun c3 => ⟨?_, ?_⟩, fun c3 => q10 H1 ?_ W1 (f1.2.2.2.2.1 94) (up (c_ch_refl _ _))⟩
  rotate_left 2
  · rw [op]
    refine if_neg (fun e => ?_)
    rcases pt3 with ⟨g, _⟩ | g
    · exact c3 g
    · exact c_at_ne W1.1.1 g e
  · rw [B1.2.1.2.1]
    exact (c_V_sh W1.1).1.1
  have ec : c' = [] := by
    rcases pt3 with ⟨_, g⟩ | g
    · exact g
    · have := (w_at_le g).1
      omega
  rw [if_pos ec] at op
  have pne : p ≠ [] := by rw [op]; exact bne
  intro q89 e89
  rw [e89, B1.2.1.2.1]
  refine c_secondOf (c_V_sh W1.1) (by rw [W1.1.1.2.1]; omega) (fun _ _ => ?_)
  have wp := w_az_at pt2 bne
  rw [← op] at wp
  have kx : ∀ k', (t_wl T l (t_dp T))[st]? = some k' → k' = k := fun k' hk' => by
    rw [hst] at hk'
    exact (Option.some.inj hk').symm
  have idx : ∀ j : Nat, k ≤ j → j < t_dp T → t_cb T l j ≠ 0 → st ≤ (t_wl T l j).length := fun j h1 h2 h3 => by
    obtain ⟨e, he⟩ := t_wl_pre (T := T) (l := l) (n := k) (m := j) h1
    rw [he, List.length_append]
    omega
  refine ⟨(t_wl T l (t_dp T)).length + 1, c_op_43 (H0 := H1) (m0 := mk) (k0 := k) (st := st) (p := p) (S := S) lmm hg93 hpl h4 hl (fun j => d_kf_5 n5 j) hst hS W1.1.2.2.2.1 W1.1.2.2.2.2 (fun X mm h1 h2 h3 h4' h5 h6 h7 h9 h8 => q0 X mm pne h1 h2 h3 h4' h5 (fun j j1 j2 j3 => h6 _ j (idx j j1 j2 j3) (t_wl_in j3 j2)) (fun x hx => ?_) (fun f => by rw [h9 f, f1.2.2.2.2.1]) (up h8)) (fun X mm h1 h2 h3 h4' h9 h8 => q11 X mm pne h1 h2 h3 h4' (fun f => by rw [h9 f, f1.2.2.2.2.1]) (up h8)) _ st B1 w_mo_refl hb (c_ch_refl _ _) (Nat.le_refl _) (by omega) (fun k' hk' => ?_) (fun e => by omega) (fun j k' h1 h2 => by omega) (by omega)⟩
  · rw [h7 x (fun j k' h1 h2 => hx k' (t_wl_mo hst h2 h1) (t_wl_at h2).1 (t_wl_at h2).2.1), f1.2.2.2.2.2 (g + 22) (by simp; omega)]
  · rw [kx k' hk', d_ls_lo (Nat.le_refl _)]
    exact wp
end
