/-! ===== the class: what may be made ===== -/
noncomputable section
def c_bS (S : Wt → Prop) (mk tl : List Wt) (N U M : Int) : Prop := ∀ mm, w_mo S mk mm → mm.Nodup → c_bl mm tl N U M
variable {H G X Y : sw_H} {nn nm r ra p : Nat} {K K' S : Wt → Prop} {tl mk mm l : List Wt} {s a b c x cn cs N U M wo : Int} {Q : sw_H → Prop} {P : Int → sw_H → Prop} {A B : List Nat} {w wa wb wc : Wt} {T : w_T}
theorem c_bS_0 (hb : c_bS S mk tl N U M) (hL : c_L H mk nn K tl) : c_bl mk tl N U M := hb mk w_mo_refl (c_L_nd hL)
theorem c_bS_mo (hb : c_bS S mk tl N U M) (h : w_mo S mk mm) : c_bS S mm tl N U M := fun ml hml nd => hb ml (w_mo_trans h hml) nd
theorem c_bS_tl (hb : c_bS S mk tl N U M) (hL : c_L H mk nn K tl) (hS : S w) : c_bl (w_tl mk w) tl N U M := hb _ (w_mo_tl hS) (w_tl_nd (c_L_nd hL))
theorem c_bS_tls {L : List Wt} (hb : c_bS S mk tl N U M) (hL : c_L H mk nn K tl) (hS : ∀ w ∈ L, S w) : c_bl (w_tls mk L) tl N U M := hb _ (w_mo_tls L hS) (w_tls_nd L (c_L_nd hL))
theorem c_hashS (lm : c_lm cn cs N U M) (hb : c_bS S mk tl N U M) (hW : c_W H mk nn K tl cn cs) (h : c_rr H mk r ra l) (ll : l.length ≤ 1400) (hS : S (w_t 1 [] [] [] l)) (k : ∀ X t mm, w_mo S mk mm → c_bS S mm tl N U M → c_W X mm nn K tl cn cs → w_at mm t (w_t 1 [] [] [] l) → c_ch [] H X → P t X) : wm_145 3 1 0 0 0 r H P :=
  c_hashL lm hW.1 h ll (c_bS_0 hb hW.1.1) (fun X t VX aX cX => k X t _ (w_mo_tl hS) (c_bS_mo hb (w_mo_tl hS)) (c_W_ch hW VX cX (by simp) (w_le_tl _ _)) aX cX)
theorem c_partS (hs : s = 2 ∨ s = 7) (lm : c_lm cn cs N U M) (hb : c_bS S mk tl N U M) (hW : c_W H mk nn K tl cn cs) (ha : w_at mk a wa) (h : c_rr H mk r ra l) (ll : l.length ≤ 1400) (hS : S (w_t s.toNat wa [] [] l)) (k : ∀ X t mm, w_mo S mk mm → c_bS S mm tl N U M → c_W X mm nn K tl cn cs → w_at mm t (w_t s.toNat wa [] [] l) → c_ch [] H X → P t X) : wm_145 3 s a 0 0 r H P :=
  c_partL hs lm hW.1 ha h ll (c_bS_0 hb hW.1.1) (fun X t VX aX cX => k X t _ (w_mo_tl hS) (c_bS_mo hb (w_mo_tl hS)) (c_W_ch hW VX cX (by simp) (w_le_tl _ _)) aX cX)
theorem c_pubS (lm : c_lm cn cs N U M) (hb : c_bS S mk tl N U M) (hW : c_W H mk nn K tl cn cs) (ha : w_at mk a wa) (hS : S (w_p5 wa)) (k : ∀ X t mm, w_mo S mk mm → c_bS S mm tl N U M → c_W X mm nn K tl cn cs → w_at mm t (w_p5 wa) → c_ch [] H X → P t X) : wm_161 11 a H P :=
  c_pub lm hW ha (c_bS_0 hb hW.1.1) (fun X t WX aX cX => k X t _ (w_mo_tl hS) (c_bS_mo hb (w_mo_tl hS)) WX aX cX)
theorem c_derS {z : Int} {j : Nat} (ez : z = j) (hj : j ≤ 9) (lm : c_lm cn cs N U M) (hb : c_bS S mk tl N U M) (hW : c_W H mk nn K tl cn cs) (ha : w_at mk a wa) (hS : S (w_dr wa j)) (k : ∀ X t mm, w_mo S mk mm → c_bS S mm tl N U M → c_W X mm nn K tl cn cs → w_at mm t (w_dr wa j) → c_ch [] H X → P t X) : wm_262 11 a z H P := by
  subst ez
  exact c_der lm hW ha (by omega) (by omega) (c_bS_0 hb hW.1.1) (fun X t WX aX cX => k X t _ (w_mo_tl hS) (c_bS_mo hb (w_mo_tl hS)) WX aX cX)
theorem c_nameS (lm : c_lm cn cs N U M) (hb : c_bS S mk tl N U M) (hW : c_W H mk nn K tl cn cs) (hS : S (w_nm nn)) (k : ∀ X t mm, w_mo S mk mm → c_bS S mm tl N U M → c_W X mm (nn + 1) K tl cn cs → w_at mm t (w_nm nn) → c_ch [] H X → P t X) : wm_143 3 H P :=
  c_nameL lm hW.1 (c_bS_0 hb hW.1.1) (fun X t VX aX cX => k X t _ (w_mo_tl hS) (c_bS_mo hb (w_mo_tl hS)) (c_W_ch hW VX cX (by simp) (w_le_tl _ _)) aX cX)
/-- Terms' empty row -/
theorem c_nothing (hW : c_W H mk nn K tl cn cs) : sw_ty H 3 = 96 ∧ sw_rv H 3 0 = 4 ∧ sw_ty H 4 = 80 := by
  have S := hW.1.1.1.1.1
  exact ⟨S.1, S.2.2.2.2.2.2.2.2.2.2.2.2, S.2.2.2.2.2.2.2.2.2.2.2.1.1⟩
theorem c_mixS (lm : c_lm cn cs N U M) (hb : c_bS S mk tl N U M) (hW : c_W H mk nn K tl cn cs) (ha : w_at mk a wa) (hb2 : w_at mk b wb) (hS : S (w_t 4 wa wb [] [])) (k : ∀ X t mm, w_mo S mk mm → c_bS S mm tl N U M → c_W X mm nn K tl cn cs → w_at mm t (w_t 4 wa wb [] []) → c_ch [] H X → P t X) : wm_145 3 4 a b 0 4 H P := by
  have hV := hW.1
  have t1 := hV.1.1.1.2.2.1
  have al := w_at_le ha
  have bl := w_at_le hb2
  have n4 := hV.1.2.1
  have S' := hV.1.1.1.1
  have s12 := S'.2.2.2.2.2.2.2.2.2.2.2.1
  refine c_ofL (w := w_t 4 wa wb [] []) lm hV (l := []) ⟨[], s12, by simp, rfl⟩ hV.1.1.2.2.1 hV.1.1.2.2.2.1 (by simp) (c_bS_0 hb hV.1) (by decide) (by unfold c_va; omega) (fun sg e => ?_) (fun X t a1 a2 a3 => k X t _ (w_mo_tl hS) (c_bS_mo hb (w_mo_tl hS)) (c_W_ch hW a1 a3 (by simp) (w_le_tl _ _)) a2 a3)
  unfold w_tm w_t
  rw [e, if_neg (by decide), w_az_dz (Or.inr ha), w_az_dz (Or.inr hb2)]
  rfl
theorem c_sealS (lm : c_lm cn cs N U M) (hb : c_bS S mk tl N U M) (hW : c_W H mk nn K tl cn cs) (ha : w_at mk a wa) (h5 : wa.head? = some 5) (hb2 : w_at mk b wb) (hc : w_az mk c wc) (hS : S (w_t 6 wa wb wc [])) (k : ∀ X t mm, w_mo S mk mm → c_bS S mm tl N U M → c_W X mm nn K tl cn cs → w_at mm t (w_t 6 wa wb wc []) → c_ch [] H X → P t X) : wm_145 3 6 a b c 4 H P := by
  have hV := hW.1
  have t1 := hV.1.1.1.2.2.1
  have al := w_at_le ha
  have bl := w_at_le hb2
  have cl := w_az_le hc
  have n4 := hV.1.2.1
  have S' := hV.1.1.1.1
  have s12 := S'.2.2.2.2.2.2.2.2.2.2.2.1
  have hR : c_R H a.toNat := by unfold c_R; omega
  have so := (c_sort5 hV.1.1.1 hR).mpr (by rw [w_at_d ha]; exact h5)
  refine c_ofL (w := w_t 6 wa wb wc []) lm hV (l := []) ⟨[], s12, by simp, rfl⟩ hV.1.1.2.2.1 hV.1.1.2.2.2.1 (by simp) (c_bS_0 hb hV.1) (by decide) (by unfold c_va; omega) (fun sg e => ?_) (fun X t a1 a2 a3 => k X t _ (w_mo_tl hS) (c_bS_mo hb (w_mo_tl hS)) (c_W_ch hW a1 a3 (by simp) (w_le_tl _ _)) a2 a3)
  unfold w_tm w_t
  rw [e, if_neg (by decide), w_az_dz (Or.inr ha), w_az_dz (Or.inr hb2), w_az_dz hc]
  rfl
theorem c_treeHashS {x : Nat} (lm : c_lm cn cs N U M) (hb : c_bS S mk tl N U M) (hx : x + 2 ^ w_h x ≤ t_w T) (hx0 : 2 ^ w_h x ≤ x + 1) (hW : c_W H mk nn K tl cn cs) (ht : c_tr H mk p T) (hwo : sw_c wo) (hS : ∀ y ∈ w_ordk (w_h x) x (w_h x + 1) 0, S (w_th T wo y)) (q : ∀ t J mm, w_mo S mk mm → c_bS S mm tl N U M → c_W J mm nn K tl cn cs → w_at mm t (w_th T wo x) → c_ch [14, 15, 16] H J → P t J) : wm_260 11 p x wo H P := by
  have hl : ∀ w ∈ (w_ordk (w_h x) x (w_h x + 1) 0).map (w_th T wo), S w := fun w hw => by
    obtain ⟨y, hy, e⟩ := List.mem_map.mp hw
    rw [← e]; exact hS y hy
  have m1 : w_mo S mk (w_mkh T wo x mk) := w_mo_tls _ hl
  exact c_treeHash lm hx hx0 hW ht hwo (c_bS_tls hb hW.1.1 hl) (fun t J WJ aJ cJ => q t J _ m1 (c_bS_mo hb m1) WJ aJ cJ)
end
