/-! ===== the reference: a COMMIT is taken, from who is removed on ===== -/
noncomputable section
/-- what is held before the path is climbed -/
def d_h2 (G : w_G) (T : w_T) (l : Nat) (s : Wt) (x : Nat) : Wt := if x = 2 * gg_lf G then s else if x % 2 = 1 ∧ x = t_ab l (w_h x) ∧ w_h x ≤ t_dp T then [] else w_hcy G T x
/-- where the ways meet, and the secret there -/
def d_k (G : w_G) (T : w_T) (l : Nat) : Nat := t_mf T l (gg_lf G) 0 (t_dp T)
def d_p (G : w_G) (T : w_T) (l : Nat) (msk : Int) (f : p_L) (ns : List p_N) (s : Wt) : Wt := d_op (d_T2 T l f ns) (d_h2 G T l s) (w_rq T msk l (d_k G T l)) (d_tf T l ns (d_k G T l))
def d_cs (G : w_G) (T : w_T) (l : Nat) (msk : Int) (f : p_L) (ns : List p_N) (s : Wt) : Wt := d_ls T l (d_p G T l msk f ns s) (d_k G T l) (t_dp T)
/-- the group behind a COMMIT with a path -/
def d_Gp (G : w_G) (T : w_T) (l : Nat) (msk : Int) (f : p_L) (ns : List p_N) (s : Wt) (lm : List Wt) : w_G := d_G G (d_T2 T l f ns) (d_cs G T l msk f ns s) lm (d_hd G T (d_T2 T l f ns) l (d_p G T l msk f ns s) (d_k G T l) s)
variable {I I0 J X : sr_V} {nn us fr : Nat} {K K' : Wt → Prop} {tl mk mm lm : List Wt} {Q : Int → sr_V → Prop} {R : sr_V → Prop} {m mi l k : Nat} {P : Nat → Nat → Prop} {T : w_T} {w v g cf sg tg s p : Wt} {G : w_G} {S : Wt → Prop} {L : List w_Ch} {f : p_L} {ns : List p_N} {msk ep sd : Int} {b e1 : Nat} {es : List p_E}
theorem d_h0_hk (hs : s ≠ []) (x : Nat) : d_hk G T (d_h0 G T s) x = d_h0 G T s x := by
  unfold d_hk
  by_cases c : d_h0 G T s x = []
  · rw [if_pos c]
    unfold d_h0 at c ⊢
    by_cases e : x = 2 * gg_lf G
    · rw [if_pos e] at c
      exact absurd c hs
    · rw [if_neg e]
  · rw [if_neg c]
/-- what leaving touches -/
def m_plv (m f k : Nat) : Prop := (f = 27 ∨ f = 46 ∨ f = 47 ∨ f = 28) ∧ k = m
theorem r_dc_142n (hm : m < 24) (hL : m_L I mk nn K tl) (hst : m_st I mk m G) (hT : m_tr I mk 48 T) (hli : m_li I mk K' L) (hx : m_tk I mk K' fr lm) (hfr : fr + lm.length ≤ 360000) (hl3 : 3 ≤ lm.length) (hl : lm.length ≤ 1200) (h102 : I 1000 102 = ((fr + (lm.length - 3) : Nat) : Int)) (h104 : w_at mk (I 1000 104) cf) (h100 : I 1000 100 = 0) (hz : w_at mk 1 w_z) (hs : ¬ h_rm L (gg_lf G) → s ≠ []) (hh : ¬ h_rm L (gg_lf G) → ∀ x, x < t_w T → w_az mk (I 44 (1488 + x)) (d_h0 G T s x)) (hok : ¬ h_rm L (gg_lf G) → gg_ok (d_G G T w_z lm (d_h0 G T s))) (hb : m_bS S mk) (hS : ∀ v, d_eS G T w_z lm v → S v) (qL : ∀ J, h_rm L (gg_lf G) → J 27 m = 0 → J 46 m = 0 → J 47 m = 0 → J 28 m = 0 → m_gp (m_plv m) I J → Q 0 J) (q0 : ∀ J mm, ¬ h_rm L (gg_lf G) → d_cm G T w_z lm = cf → w_mo S mk mm → m_bS S mm → m_L J mm nn K tl → m_st J mm m (d_G G T w_z lm (d_h0 G T s)) → J 46 m = 0 → J 47 m = 0 → J 28 m = 0 → m_gp (m_pdc m) I J → Q 0 J) (q12 : ∀ J mm, ¬ h_rm L (gg_lf G) → d_cm G T w_z lm ≠ cf → w_mo S mk mm → m_bS S mm → m_L J mm nn K tl → m_gp (fun f k => m_p2 f k ∨ m_pl 48 f k) I J → Q 12 J) : rb_110_142 Q m fr m I := by
  unfold rb_110_142
  refine ⟨by omega, by omega, ?_⟩
  intro v66 e66 _
  rw [Int.toNat_natCast, hst.2.2.1] at e66
  rw [e66]
  refine r_isRemoved hli (fun hr => ?_) (fun hr => ?_)
  · intro _
    refine ⟨fun c => absurd c (by decide), fun _ => ?_⟩
    exact r_leave hm (fun J j1 j2 j3 j4 gJ => fun _ => qL J hr j1 j2 j3 j4 gJ)
  · intro _
    refine ⟨fun _ => ?_, fun c => absurd rfl c⟩
    intro v79 e79 _
    refine ⟨fun _ => ?_, fun c => absurd (e79.trans h100) c⟩
    exact r_dc_189 hm hL hst hT hz hx hfr hl3 hl h102 h104 (hh hr) (fun x _ => d_h0_hk (hs hr) x) (hok hr) hb hS (fun J mm => q0 J mm hr) (fun J mm => q12 J mm hr)
/-- on the way of l -/
theorem d_way (hl : l < 16) {j : Nat} (hj : j < 4) : w_h (t_ab l (j + 1)) = j + 1 ∧ t_ab l (j + 1) % 2 = 1 := ⟨(w_h_ab ⟨l, hl⟩ ⟨j + 1, by omega⟩).1, t_ab_o hl (by omega) (by omega)⟩
theorem d_hd_hk (h4 : t_dp T ≤ 4) (hl : l < 2 ^ t_dp T) (hne : gg_lf G ≠ l) (hA : ∀ l', l' ≠ gg_lf G → gg_hd G (2 * l') = []) (hs : s ≠ []) (hv : Nat → Wt) (ehv : ∀ x, hv x = if x % 2 = 1 ∧ x = t_ab l (w_h x) ∧ w_h x ≤ t_dp T ∧ k < w_h x ∧ t_cb T l (w_h x - 1) ≠ 0 then w_dr (d_ls T l p k (w_h x - 1)) 5 else d_h2 G T l s x) (x : Nat) : d_hk G (d_T2 T l f ns) hv x = d_hd G T (d_T2 T l f ns) l p k s x := by
  have d16 := t_d_16 h4
  have e := ehv x
  unfold d_hk d_hd
  by_cases c1 : x = 2 * gg_lf G
  · rw [if_pos c1]
    rw [if_neg (fun c => by have := c.1; omega)] at e
    unfold d_h2 at e
    rw [if_pos c1] at e
    rw [e, if_neg hs]
  rw [if_neg c1]
  by_cases c2 : x % 2 = 1 ∧ x = t_ab l (w_h x) ∧ w_h x ≤ t_dp T ∧ k < w_h x ∧ t_cb T l (w_h x - 1) ≠ 0
  · rw [if_pos c2] at e ⊢
    have ne : w_dr (d_ls T l p k (w_h x - 1)) 5 ≠ [] := List.cons_ne_nil _ _
    rw [e, if_neg ne]
  rw [if_neg c2] at e ⊢
  unfold d_h2 at e
  rw [if_neg c1] at e
  by_cases c3 : x % 2 = 1 ∧ x = t_ab l (w_h x) ∧ w_h x ≤ t_dp T
  · rw [if_pos c3] at e
    rw [e, if_pos rfl]
  rw [if_neg c3] at e
  by_cases c4 : hv x = []
  · rw [if_pos c4]
  · rw [if_neg c4, e]
    have nl : x ≠ 2 * l := fun c => by
      apply c4
      rw [e, c]
      exact w_hcy_lf hA (fun e => hne e.symm)
    refine (w_hcy_eq (d_T2_of2 h4 nl (fun j hj c => c3 ?_))).symm
    obtain ⟨a, b⟩ := d_way (l := l) (by omega) (j := j) (by omega)
    rw [c, a]
    exact ⟨b, rfl, by omega⟩
/-- the SEALED of a height -/
theorem d_tf_ts (hcm : p_cm K lm ep sd b e1 es (some (f, ns)) sg cf tg) (hin : (t_wl T l k).length < ns.length) : ∀ (j : Nat) (w : Wt), (d_tf T l ns k)[j]? = some w → w = (lm[d_pf T l ns k + j]?).getD [] ∧ w.head? = some 6 ∧ d_pf T l ns k + j < lm.length := by
  obtain ⟨n, hn⟩ : ∃ n, ns[(t_wl T l k).length]? = some n := ⟨_, List.getElem?_eq_getElem hin⟩
  obtain ⟨i, e, s, he, hp⟩ := p_cm_nd hcm (List.mem_of_getElem? hn)
  intro j w hj
  unfold d_tf at hj
  unfold d_pf
  rw [hn] at hj ⊢
  obtain ⟨x1, x2, x3, _⟩ := p_nd_t hp j w hj
  exact ⟨x1, x2, by show n.2.1 + j < lm.length; omega⟩
theorem r_dc_142p (hm : m < 24) (hL : m_L I mk nn K tl) (hst : m_st I mk m G) (hT : m_tr I mk 48 (d_T2 T l f ns)) (hli : m_li I mk K' L) (hx : m_tk I mk K' fr lm) (hfr : fr + lm.length ≤ 360000) (hl3 : 3 ≤ lm.length) (hlm : lm.length ≤ 1200) (h102 : I 1000 102 = ((fr + (lm.length - 3) : Nat) : Int)) (h104 : w_at mk (I 1000 104) cf) (h100 : I 1000 100 = 1) (h1 : t_ok T) (hl : l < 2 ^ t_dp T) (hT2 : t_ok (d_T2 T l f ns) ∧ t_inv (d_T2 T l f ns) ∧ t_pk (d_T2 T l f ns)) (hA : ∀ l', l' ≠ gg_lf G → gg_hd G (2 * l') = []) (hne : gg_lf G ≠ l) (hlf : ¬ h_rm L (gg_lf G) → t_is T (gg_lf G)) (hw : m_wy I T l) (hpk : m_pk6 I mk fr T l ns) (h83 : I 1000 83 = msk) (hmk : 0 ≤ msk ∧ msk < 65536) (hsh : d_sh T msk l ns) (hcm : p_cm K' lm ep sd b e1 es (some (f, ns)) sg cf tg) (n5 : ∀ n ∈ ns, w_i5 n.1) (hs : ¬ h_rm L (gg_lf G) → s ≠ []) (hh : ¬ h_rm L (gg_lf G) → ∀ x, x < t_w T → w_az mk (I 44 (1488 + x)) (d_h2 G T l s x)) (hok : ¬ h_rm L (gg_lf G) → gg_ok (d_Gp G T l msk f ns s lm)) (hb : m_bS S mk) (hS1 : ∀ v, d_clS T l (d_p G T l msk f ns s) (d_k G T l) v → S v) (hS2 : ∀ v, d_eS G (d_T2 T l f ns) (d_cs G T l msk f ns s) lm v → S v) (qL : ∀ J, h_rm L (gg_lf G) → J 27 m = 0 → J 46 m = 0 → J 47 m = 0 → J 28 m = 0 → m_gp (m_plv m) I J → Q 0 J) (q10 : ∀ J, ¬ h_rm L (gg_lf G) → d_p G T l msk f ns s = [] → m_L J mk nn K tl → m_gp (fun f k => m_pcl T l (d_k G T l) f k ∨ m_prs f k) I J → Q 10 J) (q11 : ∀ J mm, ¬ h_rm L (gg_lf G) → d_p G T l msk f ns s ≠ [] → ¬ d_cok T l (d_p G T l msk f ns s) (d_k G T l) (d_kf T l ns) → w_mo S mk mm → m_bS S mm → m_L J mm nn K tl → m_gp (fun f k => m_pcl T l (d_k G T l) f k ∨ m_prs f k) I J → Q 11 J) (q0 : ∀ J mm, ¬ h_rm L (gg_lf G) → d_p G T l msk f ns s ≠ [] → d_cok T l (d_p G T l msk f ns s) (d_k G T l) (d_kf T l ns) → d_cm G (d_T2 T l f ns) (d_cs G T l msk f ns s) lm = cf → w_mo S mk mm → m_bS S mm → m_L J mm nn K tl → m_st J mm m (d_Gp G T l msk f ns s lm) → J 46 m = 0 → J 47 m = 0 → J 28 m = 0 → m_gp (fun f k => (m_pcl T l (d_k G T l) f k ∨ m_prs f k) ∨ m_pdc m f k) I J → Q 0 J) (q12 : ∀ J mm, ¬ h_rm L (gg_lf G) → d_p G T l msk f ns s ≠ [] → d_cok T l (d_p G T l msk f ns s) (d_k G T l) (d_kf T l ns) → d_cm G (d_T2 T l f ns) (d_cs G T l msk f ns s) lm ≠ cf → w_mo S mk mm → m_bS S mm → m_L J mm nn K tl → m_gp (fun f k => (m_pcl T l (d_k G T l) f k ∨ m_prs f k) ∨ (m_p2 f k ∨ m_pl 48 f k)) I J → Q 12 J) : rb_110_142 Q m fr m I := by
  have h4 := h1.1
  have d16 := t_d_16 h4
  have w31 := t_w_4 h4
  have dpe : t_dp (d_T2 T l f ns) = t_dp T := d_T2_dp
  have twe : t_w (d_T2 T l f ns) = t_w T := t_dp_w dpe
  unfold rb_110_142
  refine ⟨by omega, by omega, ?_⟩
  intro v66 e66 _
  rw [Int.toNat_natCast, hst.2.2.1] at e66
  rw [e66]
  refine r_isRemoved hli (fun hr => ?_) (fun hr => ?_)
  · intro _
    refine ⟨fun c => absurd c (by decide), fun _ => ?_⟩
    exact r_leave hm (fun J j1 j2 j3 j4 gJ => fun _ => qL J hr j1 j2 j3 j4 gJ)
  intro _
  refine ⟨fun _ => ?_, fun c => absurd rfl c⟩
  intro v79 e79 _
  refine ⟨fun c => by omega, fun _ => ⟨by omega, by omega, ?_⟩⟩
  intro v82 e82 _
  rw [Int.toNat_natCast, hst.2.2.1] at e82
  rw [e82]
  refine r_meeting hw hl h4 (hlf hr) hne (fun kk hk1 hk2 hk3 => ?_)
  intro _
  refine ⟨by omega, by omega, ?_⟩
  intro v95 e95 _
  have ek : kk = d_k G T l := hk3
  have hin : (t_wl T l kk).length < ns.length := by
    rw [hsh.1]
    exact (List.getElem?_eq_some_iff.mp (t_wl_in (d := t_dp T) hk2 hk1)).1
  have hlen : (w_rq T msk l kk).length = (d_tf T l ns kk).length := by
    obtain ⟨n, hn⟩ : ∃ n, ns[(t_wl T l kk).length]? = some n := ⟨_, List.getElem?_eq_getElem hin⟩
    have := hsh.2 _ kk n (t_wl_in (d := t_dp T) hk2 hk1) hn
    unfold d_tf
    rw [hn]
    exact this.symm
  have rqe : w_rq (d_T2 T l f ns) msk l kk = w_rq T msk l kk := d_T2_rq hl h4 hk1
  obtain ⟨si1, _, si3, _⟩ := t_si_ok h4 hl hk1
  refine r_open (T := d_T2 T l f ns) (l := l) (k := kk) (ts := d_tf T l ns kk) (pf := d_pf T l ns kk) (hv := d_h2 G T l s) hL hT hx (by rw [dpe]; exact hl) (by rw [dpe]; exact hk1) (hw.2 kk hk1).2.1 h83 hmk (fun y hy => ?_) (by rw [rqe]; exact hlen) (by rw [rqe]; have := w_rq_len (msk := msk) h1 hl hk1; omega) (hpk kk hk1 hk2).2 (d_tf_ts hcm hin) (fun x hx => hh hr x (by rw [twe] at hx; exact hx)) (fun z103 J1 hz1 g1 => ?_)
  · have := w_rs_in hT2.1 hT2.2.1 hT2.2.2 kk _ si1 (by rw [twe]; exact si3) y hy
    refine ⟨this.1, fun c => ?_⟩
    rw [c] at this
    cases this.2
  intro _
  rw [rqe] at hz1
  have ep : d_op (d_T2 T l f ns) (d_h2 G T l s) (w_rq T msk l kk) (d_tf T l ns kk) = d_p G T l msk f ns s := by rw [ek]; rfl
  rw [ep] at hz1
  have L1 := m_L_gp hL g1 (fun f k p => by unfold m_prs at p; omega)
  have up1 : m_gp (fun f k => m_pcl T l (d_k G T l) f k ∨ m_prs f k) I J1 := m_gp_sub g1 (fun f k p => Or.inr p)
  refine ⟨fun c => ?_, fun c => q10 J1 hr ?_ L1 up1⟩
  rotate_left
  · rcases hz1 with ⟨_, g⟩ | g
    · exact g
    · have := (w_at_le g).1
      omega
  have wp : w_at mk z103 (d_p G T l msk f ns s) := by
    rcases hz1 with ⟨g, _⟩ | g
    · exact absurd g c
    · exact g
  have pne := w_at_ne hL wp
  have n1 : ∀ f k, (f ≠ 88 ∧ f ≠ 89 ∧ ¬ (f = 1000 ∧ k = 92)) → J1 f k = I f k := fun f k hf => g1 f k (by unfold m_prs; omega)
  have T1 := m_tr_gp hT g1 (fun f k p q => by unfold m_pl at p; unfold m_prs at q; omega)
  refine r_climb (T := T) (T2 := d_T2 T l f ns) (kf := d_kf T l ns) (S := S) hl (m_wy_prs hw g1) T1 dpe (fun j hj hc => ⟨?_, w_i5_ne (d_kf_5 n5 j)⟩) hk1 hk2 wp hb L1 (fun v hv => hS1 v (by rw [← ek]; exact hv)) (fun J2 mm cok mo2 b2 L2 w99 h44 g2 => ?_) (fun J2 mm ncok mo2 b2 L2 g2 => ?_)
  · rw [d_T2_on hl h4 hj, if_neg hc]
  · intro _
    refine ⟨fun _ => ⟨by decide, ?_⟩, fun c => absurd c (by decide)⟩
    intro v115 e115 _
    have up2 : m_gp (fun f k => m_pcl T l (d_k G T l) f k ∨ m_prs f k) I J2 := m_gp_trans up1 (by rw [← ek]; exact m_gp_sub g2 (fun f k p => Or.inl p))
    rw [← e115] at w99
    have n2 : ∀ f k, (18 ≤ f ∧ f ≤ 43) ∨ f = 16 ∨ (f = 1000 ∧ (k = 102 ∨ k = 104)) → J2 f k = I f k := fun f k hf => by rw [g2 f k (by unfold m_pcl m_p2; omega), n1 f k (by omega)]
    have st2 : m_st J2 mm m G := m_st_le (m_st_eq hst (fun f h1 h2 => n2 f m (by omega)) (fun f x h1 h2 h3 => by
      by_cases e : f = 44
      · subst e
        rw [g2 44 _ (fun q => by
          rcases q with q | q | ⟨_, j, _, _, _, q⟩
          · unfold m_p2 at q; omega
          · omega
          · omega), n1 44 _ (by omega)]
      · exact n2 f _ (by omega))) mo2.1
    have x2 : m_tk J2 mm K' fr lm := m_tk_up hx L2 mo2.1 (fun k _ => n2 26 _ (by omega)) (funext (fun k => n2 16 k (by omega)))
    refine r_dc_189 (T := d_T2 T l f ns) (cs := d_cs G T l msk f ns s) (cf := cf) (S := S) (hd := d_hd G T (d_T2 T l f ns) l (d_p G T l msk f ns s) (d_k G T l) s) (hv := fun x => if x % 2 = 1 ∧ x = t_ab l (w_h x) ∧ w_h x ≤ t_dp T ∧ d_k G T l < w_h x ∧ t_cb T l (w_h x - 1) ≠ 0 then w_dr (d_ls T l (d_p G T l msk f ns s) (d_k G T l) (w_h x - 1)) 5 else d_h2 G T l s x) hm L2 st2 (m_tr_pcl T1 g2 mo2.1) ?_ x2 hfr hl3 hlm (by rw [n2 1000 102 (by omega)]; exact h102) (by rw [n2 1000 104 (by omega)]; exact w_le_at mo2.1 h104) (fun x hx => ?_) (fun x _ => d_hd_hk h4 hl hne hA (hs hr) _ (fun _ => rfl) x) (hok hr) b2 hS2 (fun J mz h1 h2 h3 h4 h5 h6 h7 h8 h9 => q0 J mz hr pne (by rw [← ek]; exact cok) h1 (w_mo_trans mo2 h2) h3 h4 h5 h6 h7 h8 (m_gp_trans (m_gp_sub up2 (fun f k p => Or.inl p)) (m_gp_sub h9 (fun f k p => Or.inr p)))) (fun J mz h1 h2 h3 h4 h9 => q12 J mz hr pne (by rw [← ek]; exact cok) h1 (w_mo_trans mo2 h2) h3 h4 (m_gp_trans (m_gp_sub up2 (fun f k p => Or.inl p)) (m_gp_sub h9 (fun f k p => Or.inr p))))
    · rw [ek] at w99
      exact w99
    · rw [twe] at hx
      by_cases c2 : x % 2 = 1 ∧ x = t_ab l (w_h x) ∧ w_h x ≤ t_dp T ∧ d_k G T l < w_h x ∧ t_cb T l (w_h x - 1) ≠ 0
      · rw [if_pos c2]
        obtain ⟨a, b, c, d, e⟩ := c2
        have := h44 (w_h x - 1) (by omega) (by omega) e
        rw [show w_h x - 1 + 1 = w_h x by omega, ← b, ek] at this
        exact Or.inr this
      · rw [if_neg c2, g2 44 _ (fun q => c2 ?_), n1 44 _ (by omega)]
        · exact w_le_az mo2.1 (hh hr x hx)
        · rcases q with q | q | ⟨_, j, j1, j2, j3, q⟩
          · unfold m_p2 at q; omega
          · omega
          · obtain ⟨a, b⟩ := d_way (l := l) (by omega) (j := j) (by omega)
            have ex : x = t_ab l (j + 1) := by omega
            rw [ex, a]
            exact ⟨b, rfl, by omega, by omega, j3⟩
  · intro _
    refine ⟨fun c => absurd rfl c, fun _ => ?_⟩
    exact q11 J2 mm hr pne (by rw [← ek]; exact ncok) mo2 b2 L2 (m_gp_trans up1 (by rw [← ek]; exact m_gp_sub g2 (fun f k p => Or.inl p)))
end
