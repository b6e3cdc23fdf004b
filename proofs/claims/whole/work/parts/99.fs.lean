/-! ===== the reference: the path of a commit, from its beginning ===== -/
noncomputable section
variable {I I0 J X : sr_V} {nn nm s u k h us : Nat} {K K' K2 : Wt → Prop} {tl tl' mk mm l0 l1 l2 lw lt lp : List Wt} {a b c y n msk lf wp : Int} {Q : Int → sr_V → Prop} {R : sr_V → Prop} {x i e l m : Nat} {P : Nat → Nat → Prop} {S : Wt → Prop} {w ls n0 cs cm jn : Wt} {G : w_G} {T : w_T} {ms : List (List Wt)} {f : p_L}
/-- secrets held behind a path -/
def m_hpt (I J : sr_V) (mm : List Wt) (T : w_T) (l nn : Nat) : Prop := (∀ j, j < t_dp T → t_cb T l j ≠ 0 → w_at mm (J 44 (31 * 48 + t_ab l (j + 1))) (w_dr (t_ls T l (w_nm (nn + 1)) (j + 1)) 5)) ∧ (∀ j, j < t_dp T → t_cb T l j = 0 → J 44 (31 * 48 + t_ab l (j + 1)) = 0) ∧ w_at mm (J 44 (31 * 48 + 2 * l)) (w_nm nn) ∧ ∀ x, x ≠ 2 * l → (∀ j, j < 4 → x ≠ t_ab l (j + 1)) → J 44 (31 * 48 + x) = I 44 (31 * 48 + x)
theorem r_cm_way (hm : m < 24) (hl : l < 2 ^ t_dp T) (hM : m_me I mk) (hb : m_bS S mk) (hL : m_L I mk nn K tl) (hT : m_tr I mk 48 T) (hky : t_ky T (2 * l) ≠ []) (ho : t_ow T l = (m : Int)) (hs : t_sk T l = w_pub m) (h83 : I 1000 83 = msk) (hmk : 0 ≤ msk ∧ msk < 65536) (ht : m_tx I mk us lt) (hlt : lt.length ≤ 600) (hr : ∀ k, k < t_dp T → ∀ y ∈ w_rs (w_pT2 T l m nn) k (t_si l k), y < t_w (w_pT2 T l m nn) ∧ (t_ky (w_pT2 T l m nn) y).head? = some 5) (hS : ∀ v, w_ptS T l m nn msk v → S v) (q : ∀ z170 J mm, w_mo S mk mm → m_bS S mm → m_L J mm (w_pnn T l nn) K tl → m_tx J mm us (lt ++ w_ptx T l m nn msk) → m_tr J mm 48 (w_pT2 T l m nn) → w_at mm z170 (w_pcs T l nn) → m_wy J T l → m_pth J mm T l (w_nm (nn + 1)) (t_dp T) → m_hpt I J mm T l nn → m_gp (m_pcp us) I J → rb_19_239 Q m m l 1 z170 J) : rm_99 48 l I (fun I139 => rm_55 I139 (fun z150 I146 => sw_c z150 → rm_66 z150 I146 (fun z160 I156 => sw_c z160 → rm_100 z150 I156 (fun z170 I166 => sw_c z170 → rm_101 48 I166 (fun z180 I176 => sw_c z180 → rm_69 m z160 3 z180 l I176 (fun z190 I186 => sw_c z190 → rm_67 48 (sw_w (2 * (l : Int))) I186 (fun z200 I196 => sw_c z200 → 0 ≤ z200 ∧ z200 < 1519 ∧ ∀ I206, I206 = su I196 37 z200.toNat z160 → 0 ≤ z200 ∧ z200 < 1519 ∧ ∀ I211, I211 = su I206 41 z200.toNat 3 → 0 ≤ z200 ∧ z200 < 1519 ∧ ∀ I216, I216 = su I211 38 z200.toNat z180 → 0 ≤ z200 ∧ z200 < 1519 ∧ ∀ I221, I221 = su I216 42 z200.toNat z190 → 0 ≤ z200 ∧ z200 < 1519 ∧ ∀ I226, I226 = su I221 44 z200.toNat z150 → ∀ I231, I231 = su I226 1000 56 0 → rm_77 m z160 3 z180 I231 (fun I236 => rm_76 z190 I236 (fun I243 => rm_78 I243 (fun I250 => rm_102 I250 (fun I257 => rm_103 48 I257 (fun I264 => rb_19_239 Q m m l 1 z170 I264)))))))))))) := by
  have h4 := hT.1.1
  have d16 := t_d_16 h4
  have w31 := t_w_4 h4
  have hSS : ∀ {v}, w_ptS T l m nn msk v → S v := fun {v} h => hS v h
  refine r_findWay (s := 48) (by decide) hl hT (fun A wA gA => ?_)
  have LA : m_L A mk nn K tl := m_L_gp hL gA (fun f k p => by unfold m_pwy at p; omega)
  refine r_nameS hb LA (hSS (Or.inl rfl)) (fun z150 B mb b1 b2 LB wB fB => ?_)
  intro _
  refine r_pubS b2 LB wB (hSS (Or.inr (Or.inl rfl))) (fun z160 C mc c1 c2 LC wC fC => ?_)
  intro _
  have gC : m_gp (fun f k => m_pwy f k ∨ m_p2 f k) I C := m_gp_trans (m_gp_sub gA (fun f k p => Or.inl p)) (m_gp_sub (m_gp_trans (m_f1_gp fB) (m_f1_gp fC)) (fun f k p => Or.inr p))
  have wC2 : m_wy C T l := m_wy_pmp wA (m_gp_sub (m_gp_trans (m_f1_gp fB) (m_f1_gp fC)) (fun f k p => Or.inl p))
  refine r_makePath (nn := nn + 1) (ls := w_nm nn) h4 (fun v hv => hSS (Or.inr (Or.inr (Or.inl hv)))) (hSS (Or.inr (Or.inr (Or.inr (Or.inl rfl))))) c2 LC (w_le_at c1.1 wB) wC2 (fun z170 D md d1 d2 LD wD pD gD => ?_)
  intro _
  have le1 : w_le mk md := w_le_trans b1.1 (w_le_trans c1.1 d1.1)
  have mo1 : w_mo S mk md := w_mo_trans b1 (w_mo_trans c1 d1)
  have gD2 : m_gp (fun f k => m_pwy f k ∨ m_pmp f k) I D := m_gp_trans (m_gp_sub gC (fun f k p => p.elim Or.inl (fun p => Or.inr (Or.inl p)))) (m_gp_sub gD (fun f k p => Or.inr p))
  have TD : m_tr D md 48 T := m_tr_le (m_tr_gp hT gD2 (fun f k p c => by unfold m_pl at p; unfold m_pwy m_pmp m_p2 at c; omega)) le1
  have wyD := m_wy_pmp wC2 gD
  have kfD : m_kf D md (t_cb T l) (w_pkf T l nn) (t_dp T) := fun j hj hc => ⟨(pD j hj hc).2, w_t_ne _ _ _ _ _⟩
  refine r_putPath (s := 48) (T0 := T) (kf := w_pkf T l nn) (by decide) hl TD rfl wyD kfD d2 LD (fun v hv => hSS (Or.inr (Or.inr (Or.inr (Or.inr (Or.inl hv)))))) (fun z180 E me e1 e2 LE TE wE zE gE => ?_)
  intro _
  have le2 : w_le mk me := w_le_trans le1 e1.1
  have gE2 : m_gp (fun f k => m_pwy f k ∨ m_pmp f k ∨ m_ppp 48 l f k) I E := m_gp_trans (m_gp_sub gD2 (fun f k p => p.elim Or.inl (fun p => Or.inr (Or.inl p)))) (m_gp_sub gE (fun f k p => Or.inr (Or.inr p)))
  have wyE := m_wy_ppp wyD gE
  have pE : m_pth E me T l (w_nm (nn + 1)) (t_dp T) := m_pth_gp (m_pth_le pD e1.1) gE (fun f j p => by unfold m_ppp m_p2 at p; omega)
  have no : ∀ f k, f = 20 ∨ f = 21 ∨ f = 26 ∨ (f = 1000 ∧ (k = 23 ∨ k = 110 ∨ k = 83)) → E f k = I f k := fun f k hf => gE2 f k (by unfold m_pwy m_pmp m_ppp m_p2; omega)
  have meE : m_me E me := m_me_le (fun j hj => by rw [no 20 j (by omega), no 21 j (by omega)]; exact hM j hj) le2
  have tE : m_tx E me us lt := m_tx_le ⟨by rw [no _ _ (by omega)]; exact ht.1, by rw [no _ _ (by omega)]; exact ht.2.1, m_at_cg ht.2.2.1 (fun k _ => no 26 _ (by omega)), ht.2.2.2⟩ le2
  have nnE : nn + 1 + (if t_ls T l (w_nm (nn + 1)) (t_dp T) = [] then 0 else 1) = w_pnn T l nn := rfl
  rw [nnE] at LE
  refine r_cm_lf (z170 := z170) (nm := w_pnn T l nn) hm hl h4 meE e2 LE TE hky ho hs (w_le_at (w_le_trans c1.1 (w_le_trans d1.1 e1.1)) wB) (w_le_at (w_le_trans d1.1 e1.1) wC) wE wyE pE (by rw [no _ _ (by omega)]; exact h83) hmk tE hlt hr hS (fun F mf f1 f2 LF tF TF wyF pF h1 h2 h3 gF => ?_)
  have gEp : m_gp (m_pcp us) I E := m_gp_sub gE2 (fun f k p => by
    rcases p with p | (p | p | p) | (p | ⟨p1, p2, j, hj, p3⟩)
    · unfold m_pwy at p; unfold m_pcp; omega
    · exact Or.inl (Or.inl p)
    · unfold m_pcp; omega
    · unfold m_pcp; omega
    · exact Or.inl (Or.inl p)
    · have key : ∀ l : Fin 16, ∀ j : Fin 4, t_ab l.val (j.val + 1) < 31 := by decide +kernel
      have : t_ab l (j + 1) < 31 := key ⟨l, by omega⟩ ⟨j, by omega⟩
      exact Or.inr (Or.inl (by omega)))
  have ev : ∀ j, j < t_dp T → t_ab l (j + 1) % 2 = 1 := fun j hj => t_ab_o (by omega) (by omega) (by omega)
  refine q z170 F mf (w_mo_trans mo1 (w_mo_trans e1 f1)) f2 LF tF TF (w_le_at (w_le_trans e1.1 f1.1) wD) wyF pF ⟨h1, fun j hj hc => ?_, h2, fun x hx hxj => ?_⟩ (m_gp_trans gEp gF)
  · rw [h3 _ (by have := ev j hj; omega) (fun j' hj' hc' e => ?_)]
    · exact zE j hj
    · have : j + 1 = j' + 1 := t_ab_inj (l := l) (by omega) (by omega) (by omega) e
      have : j = j' := by omega
      subst this
      exact hc' hc
  · rw [h3 x hx (fun j hj _ => hxj j (by omega)), gE2 44 _ (fun p => ?_)]
    rcases p with p | (p | p) | (p | ⟨_, _, j, hj, p⟩)
    · unfold m_pwy at p; omega
    · unfold m_p2 at p; omega
    · omega
    · unfold m_p2 at p; omega
    · exact hxj j hj (by omega)
end
