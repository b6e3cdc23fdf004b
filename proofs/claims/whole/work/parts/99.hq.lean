/-! ===== trees and groups behind a COMMIT that is taken ===== -/
noncomputable section
/-- what is held behind it: without a path -/
def d_h0 (G : w_G) (T : w_T) (s : Wt) (x : Nat) : Wt := if x = 2 * gg_lf G then s else w_hcy G T x
/-- and with one: p is the secret at height k -/
def d_hd (G : w_G) (T T2 : w_T) (l : Nat) (p : Wt) (k : Nat) (s : Wt) (x : Nat) : Wt := if x = 2 * gg_lf G then s else if x % 2 = 1 ∧ x = t_ab l (w_h x) ∧ w_h x ≤ t_dp T ∧ k < w_h x ∧ t_cb T l (w_h x - 1) ≠ 0 then w_dr (d_ls T l p k (w_h x - 1)) 5 else w_hcy G T2 x
section
variable {T : w_T} {l k y m : Nat} {f : p_L} {ns : List p_N} {msk com : Int} {G : w_G} {L : List w_Ch} {K : Wt → Prop} {lm : List Wt} {ep sd : Int} {b e1 : Nat} {es : List p_E} {sg cf tg s p cs : Wt} {ms : List (List Wt)} {nd : p_N}
theorem d_T2_off (hl : l < 16) (h4 : t_dp T ≤ 4) (hk : k < 4) (y1 : t_si l k + 1 ≤ y + 2 ^ k) (y2 : y < t_si l k + 2 ^ k) : t_ky (d_T2 T l f ns) y = t_ky T y ∧ t_um (d_T2 T l f ns) y = t_um T y := by
  have s31 : t_si l k < 31 := (t_si_k ⟨l, hl⟩ ⟨k, hk⟩).2.2.1
  have p8 : 2 ^ k ≤ 8 := by
    have : 2 ^ k ≤ 2 ^ 3 := Nat.pow_le_pow_right (by decide) (by omega)
    omega
  obtain ⟨o1, o2⟩ := t_off_k ⟨l, hl⟩ ⟨k, hk⟩ ⟨y, by omega⟩ y1 y2
  have o1 : y ≠ 2 * l := o1
  have o2 : ∀ j, j < 4 → y ≠ t_ab l (j + 1) := fun j hj => o2 ⟨j, hj⟩
  have kp := t_kpn_off (C := t_cb T l) (T := T) (kf := d_kf T l ns) o2 (t_dp T) h4
  show fu (t_ky (t_pth (t_cb T l) T l (d_kf T l ns)).1) (2 * l) _ y = _ ∧ fu (t_um (t_pth (t_cb T l) T l (d_kf T l ns)).1) (2 * l) 0 y = _
  rw [fu_ne o1, fu_ne o1]
  unfold t_pth
  rw [t_pp_ky, t_pp_um]
  exact kp
theorem d_T2_rs (hl : l < 2 ^ t_dp T) (h4 : t_dp T ≤ 4) (hk : k < t_dp T) : w_rs (d_T2 T l f ns) k (t_si l k) = w_rs T k (t_si l k) := by
  have d16 := t_d_16 h4
  obtain ⟨_, _, _, a4, _, _⟩ := t_si_ok h4 hl hk
  exact w_rs_cg k (t_si l k) a4 (fun y y1 y2 => d_T2_off (by omega) h4 (by omega) y1 y2)
theorem d_T2_rq (hl : l < 2 ^ t_dp T) (h4 : t_dp T ≤ 4) (hk : k < t_dp T) : w_rq (d_T2 T l f ns) msk l k = w_rq T msk l k := by
  unfold w_rq
  rw [d_T2_rs hl h4 hk]
theorem d_T2_on (hl : l < 2 ^ t_dp T) (h4 : t_dp T ≤ 4) {j : Nat} (hj : j < t_dp T) : t_ky (d_T2 T l f ns) (t_ab l (j + 1)) = if t_cb T l j = 0 then [] else d_kf T l ns j := by
  have d16 := t_d_16 h4
  have o : t_ab l (j + 1) % 2 = 1 := t_ab_o (by omega) (by omega) (by omega)
  have ne : t_ab l (j + 1) ≠ 2 * l := by omega
  show fu (t_ky (t_pth (t_cb T l) T l (d_kf T l ns)).1) (2 * l) _ _ = _
  rw [fu_ne ne]
  unfold t_pth
  rw [t_pp_ky]
  exact (t_kpn_ky (by omega) h4 (t_dp T) (Nat.le_refl _) j hj).1
theorem d_T2_of2 (h4 : t_dp T ≤ 4) (h1 : y ≠ 2 * l) (h2 : ∀ j, j < t_dp T → y ≠ t_ab l (j + 1)) : t_ky (d_T2 T l f ns) y = t_ky T y := by
  show fu (t_ky (t_pth (t_cb T l) T l (d_kf T l ns)).1) (2 * l) _ _ = _
  rw [fu_ne h1]
  unfold t_pth
  rw [t_pp_ky]
  exact (t_kpn_of2 (t_dp T) h2).1
theorem d_T2_dp : t_dp (d_T2 T l f ns) = t_dp T := t_pth_dp
theorem d_kf_5 (h : ∀ n ∈ ns, w_i5 n.1) (j : Nat) : w_i5 (d_kf T l ns j) := by
  unfold d_kf
  obtain ⟨o, eo⟩ : ∃ o, ns[(t_wl T l j).length]? = o := ⟨_, rfl⟩
  rw [eo]
  cases o with
  | none => exact ⟨[], rfl⟩
  | some n => exact h n (List.mem_of_getElem? eo)
theorem w_i5_ne {w : Wt} (h : w_i5 w) : w ≠ [] := by
  obtain ⟨a, rfl⟩ := h
  exact List.cons_ne_nil _ _
/-- the keys of a path that was read -/
theorem p_cm_n5 (hx : ∀ w ∈ lm, w.head? = some 5 → w_i5 w) (h : p_cm K lm ep sd b e1 es (some (f, ns)) sg cf tg) : (∀ n ∈ ns, w_i5 n.1) ∧ w_i5 f.2.1 := by
  refine ⟨fun n hn => ?_, ?_⟩
  · obtain ⟨i, e, s, he, hp⟩ := p_cm_nd h hn
    unfold p_nd at hp
    rw [Option.bind_eq_some_iff] at hp
    obtain ⟨⟨k, s1⟩, h1, h2⟩ := hp
    rw [Option.map_eq_some_iff] at h2
    obtain ⟨z, _, h3⟩ := h2
    rw [Prod.mk.injEq] at h3
    have h3 : (k, z.1) = n := h3.1
    rw [← h3]
    exact hx _ (List.mem_of_getElem? (p_t_sl he h1)) (p_t_in h1).2.2.2.1
  · obtain ⟨s, hs⟩ := p_cm_lf h
    exact p_lf_5 hx (Nat.le_refl _) hs
/-- the tree behind the changes of another -/
theorem d_T1_ok (hg : gg_ok G) (hi : g_iv m G) (hlv : gg_lv G) (hok : ∀ c ∈ L, p_cok c.1) (h5 : h_p5 L) (hd : h_done (gg_T G) L com) : t_ok (h_ap (gg_T G) L) ∧ t_inv (h_ap (gg_T G) L) ∧ t_pk (h_ap (gg_T G) L) ∧ t_lv (h_ap (gg_T G) L) := by
  obtain ⟨ha, hr, _⟩ := hd
  obtain ⟨i1, i2, i3, i4, i5, i6⟩ := hi
  have k0 := t_ok_h0 hok i6
  have hok' : ∀ (k : Nat) (c : w_Ch), L[k]? = some c → p_cok c.1 := fun k c hc => hok c (List.mem_of_getElem? hc)
  exact ⟨(t_ok_fa k0 (h_0_inv i6.1 i1 hok ha) hok' hr L.length (Nat.le_refl _)).1, h_ap_inv i6.1 i1 k0 hok ha hr, t_pk_ap h5 hg.2.2.2.1, h_ap_lv i6.1 hlv hok ha⟩
theorem d_T2_ok (h1 : t_ok T) (h2 : t_inv T) (h3 : t_pk T) (h4 : t_lv T) (hl : l < 16) (hf : t_lfok f) (hw : w_lfs f (l : Int)) (hn : (∀ n ∈ ns, w_i5 n.1) ∧ w_i5 f.2.1) : t_ok (d_T2 T l f ns) ∧ t_inv (d_T2 T l f ns) ∧ t_pk (d_T2 T l f ns) ∧ t_lv (d_T2 T l f ns) := by
  have k5 : ∀ j, t_cb T l j ≠ 0 → w_i5 (d_kf T l ns j) := fun j _ => d_kf_5 hn.1 j
  refine ⟨t_ok_put (t_ok_pth hl h1 (fun j hj => w_i5_ne (k5 j hj))) hf, t_inv_put (w_i5_ne hn.2) (t_inv_pth hl h1.1 h2), t_pk_put hn.2 (t_pk_pth k5 h3), t_lv_put ?_ (w_lfs_lv hw)⟩
  exact t_lv_sub h4 (by rw [t_dp_w t_pth_dp]; exact Nat.le_refl _) (fun j => Or.inr (t_pth_lf hl h1.1)) t_pth_ow.1 t_pth_ow.2
/-- the next group is right: without a path -/
theorem d_iv0 (hi : g_iv m G) (h1 : t_ok T) (h2 : t_inv T) (h3 : t_pk T) (h4 : t_lv T) (hlf : t_is T (gg_lf G)) (ho : t_ow T (gg_lf G) = (m : Int)) (hk : t_ky T (2 * gg_lf G) = w_p5 s) : gg_ok (d_G G T cs lm (d_h0 G T s)) ∧ g_iv m (d_G G T cs lm (d_h0 G T s)) ∧ gg_lv (d_G G T cs lm (d_h0 G T s)) := by
  have d16 := t_d_16 h1.1
  have l1 := hlf.1
  have lw : 2 * gg_lf G < t_w T := by rw [t_w_e]; omega
  have sk := (h4 (gg_lf G) lw hlf.2).2
  rw [ho, Int.toNat_natCast] at sk
  refine ⟨⟨sw_w_c _, lw, hlf.2, h3, fun x hx hkx => ?_⟩, ⟨h2, ho, sk, fun l' hl' => ?_, ?_, h1⟩, h4⟩
  · have hkx : t_ky T x = [] := hkx
    show d_h0 G T s x = []
    unfold d_h0
    rw [if_neg (fun e => hlf.2 (by rw [← e]; exact hkx))]
    exact w_hcy_bl hkx
  · show d_h0 G T s (2 * l') = []
    have hl' : l' ≠ gg_lf G := hl'
    unfold d_h0
    rw [if_neg (by omega)]
    exact w_hcy_lf hi.2.2.2.1 hl'
  · show t_ky T (2 * gg_lf G) = w_p5 (d_h0 G T s (2 * gg_lf G))
    unfold d_h0
    rw [if_pos rfl]
    exact hk
/-- and with one -/
theorem d_iv1 (hi : g_iv m G) (h1 : t_ok T) (h4 : t_lv T) (hlf : t_is T (gg_lf G)) (ho : t_ow T (gg_lf G) = (m : Int)) (hk : t_ky T (2 * gg_lf G) = w_p5 s) (hl : l < 2 ^ t_dp T) (hne : gg_lf G ≠ l) (hT : t_ok (d_T2 T l f ns) ∧ t_inv (d_T2 T l f ns) ∧ t_pk (d_T2 T l f ns) ∧ t_lv (d_T2 T l f ns)) (hn : ∀ n ∈ ns, w_i5 n.1) : gg_ok (d_G G (d_T2 T l f ns) cs lm (d_hd G T (d_T2 T l f ns) l p k s)) ∧ g_iv m (d_G G (d_T2 T l f ns) cs lm (d_hd G T (d_T2 T l f ns) l p k s)) ∧ gg_lv (d_G G (d_T2 T l f ns) cs lm (d_hd G T (d_T2 T l f ns) l p k s)) := by
  have d16 := t_d_16 h1.1
  have l1 := hlf.1
  obtain ⟨t1, t2, t3, t4⟩ := hT
  have lw : 2 * gg_lf G < t_w (d_T2 T l f ns) := by rw [t_dp_w d_T2_dp, t_w_e]; omega
  have ky2 : t_ky (d_T2 T l f ns) (2 * gg_lf G) = t_ky T (2 * gg_lf G) := d_T2_of2 h1.1 (by omega) (fun j hj e => by
    have := t_ab_o (k := l) (h := j + 1) (by omega) (by omega) (by have := h1.1; omega)
    omega)
  have ow2 : t_ow (d_T2 T l f ns) (gg_lf G) = (m : Int) := by
    show fu (t_ow (t_pth (t_cb T l) T l (d_kf T l ns)).1) l f.1 (gg_lf G) = _
    rw [fu_ne hne, t_pth_ow.1]
    exact ho
  have nb : t_ky (d_T2 T l f ns) (2 * gg_lf G) ≠ [] := by rw [ky2]; exact hlf.2
  have sk := (t4 (gg_lf G) lw nb).2
  rw [ow2, Int.toNat_natCast] at sk
  refine ⟨⟨sw_w_c _, lw, nb, t3, fun x hx hkx => ?_⟩, ⟨t2, ow2, sk, fun l' hl' => ?_, ?_, t1⟩, t4⟩
  · have hkx : t_ky (d_T2 T l f ns) x = [] := hkx
    show d_hd G T (d_T2 T l f ns) l p k s x = []
    unfold d_hd
    rw [if_neg (fun e => nb (by rw [← e]; exact hkx))]
    by_cases c : x % 2 = 1 ∧ x = t_ab l (w_h x) ∧ w_h x ≤ t_dp T ∧ k < w_h x ∧ t_cb T l (w_h x - 1) ≠ 0
    · exfalso
      obtain ⟨c1, c2, c3, c4, c5⟩ := c
      have on := d_T2_on (f := f) (ns := ns) hl h1.1 (j := w_h x - 1) (by omega)
      rw [show w_h x - 1 + 1 = w_h x by omega, ← c2, hkx, if_neg c5] at on
      exact w_i5_ne (d_kf_5 hn _) on.symm
    · rw [if_neg c]
      exact w_hcy_bl hkx
  · show d_hd G T (d_T2 T l f ns) l p k s (2 * l') = []
    have hl' : l' ≠ gg_lf G := hl'
    unfold d_hd
    rw [if_neg (by omega), if_neg (fun c => by have := c.1; omega)]
    exact w_hcy_lf hi.2.2.2.1 hl'
  · show t_ky (d_T2 T l f ns) (2 * gg_lf G) = w_p5 (d_hd G T (d_T2 T l f ns) l p k s (2 * gg_lf G))
    unfold d_hd
    rw [if_pos rfl, ky2]
    exact hk
end
end
