/-! ===== the reference: a commit without and with a path ===== -/
noncomputable section
variable {I I0 J X : sr_V} {nn nm s u k h us : Nat} {K K' K2 : Wt → Prop} {tl tl' mk mm l0 l1 l2 lw lt lp lx : List Wt} {a b c y n msk lf wp x1 x2 : Int} {Q : Int → sr_V → Prop} {R : sr_V → Prop} {x i e l m mi : Nat} {P : Nat → Nat → Prop} {S : Wt → Prop} {w ls n0 cs cm jn : Wt} {G : w_G} {T : w_T} {ms : List (List Wt)} {L C : List w_Ch} {d : w_Ch}
theorem r_cm_156_0 (hw : m_wr I mk nn K' tl ms us) (hcx : m_cx I mk (w_cx G)) (ht : m_tx I mk us lt) (hlt : lt.length ≤ 1000) (hr : m_rr I mk []) (q : ∀ J, m_wr J mk nn K' tl ms us → m_cx J mk (w_cx G) → m_tx J mk us (lt ++ [w_by 0]) → m_gp (m_pw us) I J → rb_19_239 Q m m l 0 1 J) : rb_19_156 Q m m l 0 1 0 I := by
  unfold rb_19_156
  refine r_b8 (x := 0) hr (by simp) (fun A rA fA => ?_)
  have gA := m_f0_gp fA
  refine r_flush rA (m_tx_p2 ht gA) (by simp; omega) (fun B tB rB gB => ?_)
  have g : m_gp (m_pw us) I B := m_gp_trans (m_gp_2w gA) (m_gp_fw gB)
  refine ⟨fun _ => q B (m_wr_pw hw (m_L_pf (m_f0_L hw.1 fA) gB) (w_le_refl _) g) (m_cx_pf (m_cx_gp hcx gA (fun f k p => by unfold m_p2 at p; omega)) gB) tB g, fun cc => absurd rfl cc⟩
theorem r_cm_156_1 (hm : m < 24) (hl : l < 2 ^ t_dp T) (hw : m_wr I mk nn K tl ms us) (hcx : m_cx I mk (w_cx G)) (hb : m_bS S mk) (hT : m_tr I mk 48 T) (hky : t_ky T (2 * l) ≠ []) (ho : t_ow T l = (m : Int)) (hs : t_sk T l = w_pub m) (h83 : I 1000 83 = msk) (hmk : 0 ≤ msk ∧ msk < 65536) (ht : m_tx I mk us lt) (hlt : lt.length ≤ 590) (hr0 : m_rr I mk []) (hr : ∀ k, k < t_dp T → ∀ y ∈ w_rs (w_pT2 T l m nn) k (t_si l k), y < t_w (w_pT2 T l m nn) ∧ (t_ky (w_pT2 T l m nn) y).head? = some 5) (hS : ∀ v, w_ptS T l m nn msk v → S v) (q : ∀ z170 J mm, w_mo S mk mm → m_bS S mm → m_wr J mm (w_pnn T l nn) K tl ms us → m_cx J mm (w_cx G) → m_tx J mm us (lt ++ [w_by 1] ++ w_ptx T l m nn msk) → m_tr J mm 48 (w_pT2 T l m nn) → w_at mm z170 (w_pcs T l nn) → m_wy J T l → m_pth J mm T l (w_nm (nn + 1)) (t_dp T) → m_hpt I J mm T l nn → m_gp (m_pcp us) I J → rb_19_239 Q m m l 1 z170 J) : rb_19_156 Q m m l 1 1 1 I := by
  have w31 := t_w_4 hT.1.1
  unfold rb_19_156
  refine r_b8 (x := 1) hr0 (by simp) (fun A rA fA => ?_)
  have gA := m_f0_gp fA
  refine r_flush rA (m_tx_p2 ht gA) (by simp; omega) (fun B tB rB gB => ?_)
  have g : m_gp (m_pw us) I B := m_gp_trans (m_gp_2w gA) (m_gp_fw gB)
  have wB := m_wr_pw hw (m_L_pf (m_f0_L hw.1 fA) gB) (w_le_refl _) g
  have cB := m_cx_pf (m_cx_gp hcx gA (fun f k p => by unfold m_p2 at p; omega)) gB
  have TB : m_tr B mk 48 T := m_tr_gp hT g (fun f k p c => m_pw_n (by unfold m_pl at p; omega) c)
  refine ⟨fun cc => absurd cc (by decide), fun _ => ?_⟩
  refine r_cm_way hm hl wB.2.1 hb wB.1 TB hky ho hs (by rw [g 1000 83 (m_pw_n (by omega))]; exact h83) hmk tB (by rw [List.length_append]; simp; omega) hr hS (fun z170 J mm m1 m2 LJ tJ TJ wz wy pt hp gJ => ?_)
  have gIJ : m_gp (m_pcp us) I J := m_gp_trans (m_gp_trans (m_pcp_2 gA) (m_pcp_f gB)) gJ
  have cJ : m_cx J mm (w_cx G) := m_cx_le (m_cx_gp cB gJ (fun f k p => by unfold m_pcp m_p2 m_pf at p; omega)) m1.1
  have wJ : m_wr J mm (w_pnn T l nn) K tl ms us := ⟨LJ, m_me_le (m_me_gp wB.2.1 gJ (fun f k p => by unfold m_pcp m_p2 m_pf at p; omega)) m1.1, m_M_up wB.1 LJ m1.1 wB.2.2.1 wB.2.2.2 gJ (fun f k p => by unfold m_pcp m_p2 m_pf at p; omega), by rw [gJ 1000 23 (by unfold m_pcp m_p2 m_pf; omega)]; exact wB.2.2.2⟩
  refine q z170 J mm m1 m2 wJ cJ tJ TJ wz wy pt ⟨hp.1, hp.2.1, hp.2.2.1, fun x hx hxj => ?_⟩ gIJ
  rw [hp.2.2.2 x hx hxj, g 44 _ (m_pw_n (by omega))]
end
