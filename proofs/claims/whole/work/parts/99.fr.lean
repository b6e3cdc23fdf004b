/-! ===== the reference: the path of a commit, to its end ===== -/
noncomputable section
variable {I I0 J X : sr_V} {nn nm s u k h us : Nat} {K K' K2 : Wt → Prop} {tl tl' mk mm l0 l1 l2 lw lt lp : List Wt} {a b c y n msk lf wp : Int} {Q : Int → sr_V → Prop} {R : sr_V → Prop} {x i e l m : Nat} {P : Nat → Nat → Prop} {S : Wt → Prop} {w ls n0 cs cm jn : Wt} {G : w_G} {T : w_T} {ms : List (List Wt)} {f : p_L}
theorem m_pcp_2 (g : m_gp m_p2 I J) : m_gp (m_pcp us) I J := m_gp_sub g (fun _ _ p => Or.inl (Or.inl p))
theorem m_pcp_f (g : m_gp (m_pf us) I J) : m_gp (m_pcp us) I J := m_gp_sub g (fun _ _ p => Or.inl (Or.inr p))
/-- from the leaf on: it is put, and all is written -/
theorem r_cm_lf {z150 z160 z170 z180 : Int} (hm : m < 24) (hl : l < 2 ^ t_dp T) (h4 : t_dp T ≤ 4) (hM : m_me I mk) (hb : m_bS S mk) (hL : m_L I mk nm K tl) (hA : m_tr I mk 48 (w_pth T l nn).1) (hky : t_ky T (2 * l) ≠ []) (ho : t_ow T l = (m : Int)) (hs : t_sk T l = w_pub m) (h150 : w_at mk z150 (w_nm nn)) (h160 : w_at mk z160 (w_p5 (w_nm nn))) (h180 : w_az mk z180 (w_pth T l nn).2) (hw : m_wy I T l) (hp : m_pth I mk T l (w_nm (nn + 1)) (t_dp T)) (h83 : I 1000 83 = msk) (hmk : 0 ≤ msk ∧ msk < 65536) (ht : m_tx I mk us lt) (hlt : lt.length ≤ 600) (hr : ∀ k, k < t_dp T → ∀ y ∈ w_rs (w_pT2 T l m nn) k (t_si l k), y < t_w (w_pT2 T l m nn) ∧ (t_ky (w_pT2 T l m nn) y).head? = some 5) (hS : ∀ v, w_ptS T l m nn msk v → S v) (q : ∀ J mm, w_mo S mk mm → m_bS S mm → m_L J mm nm K tl → m_tx J mm us (lt ++ w_ptx T l m nn msk) → m_tr J mm 48 (w_pT2 T l m nn) → m_wy J T l → m_pth J mm T l (w_nm (nn + 1)) (t_dp T) → (∀ j, j < t_dp T → t_cb T l j ≠ 0 → w_at mm (J 44 (31 * 48 + t_ab l (j + 1))) (w_dr (t_ls T l (w_nm (nn + 1)) (j + 1)) 5)) → w_at mm (J 44 (31 * 48 + 2 * l)) (w_nm nn) → (∀ x, x ≠ 2 * l → (∀ j, j < t_dp T → t_cb T l j ≠ 0 → x ≠ t_ab l (j + 1)) → J 44 (31 * 48 + x) = I 44 (31 * 48 + x)) → m_gp (m_pcp us) I J → rb_19_239 Q m m l 1 z170 J) : rm_69 m z160 3 z180 l I (fun z190 I186 => sw_c z190 → rm_67 48 (sw_w (2 * (l : Int))) I186 (fun z200 I196 => sw_c z200 → 0 ≤ z200 ∧ z200 < 1519 ∧ ∀ I206, I206 = su I196 37 z200.toNat z160 → 0 ≤ z200 ∧ z200 < 1519 ∧ ∀ I211, I211 = su I206 41 z200.toNat 3 → 0 ≤ z200 ∧ z200 < 1519 ∧ ∀ I216, I216 = su I211 38 z200.toNat z180 → 0 ≤ z200 ∧ z200 < 1519 ∧ ∀ I221, I221 = su I216 42 z200.toNat z190 → 0 ≤ z200 ∧ z200 < 1519 ∧ ∀ I226, I226 = su I221 44 z200.toNat z150 → ∀ I231, I231 = su I226 1000 56 0 → rm_77 m z160 3 z180 I231 (fun I236 => rm_76 z190 I236 (fun I243 => rm_78 I243 (fun I250 => rm_102 I250 (fun I257 => rm_103 48 I257 (fun I264 => rb_19_239 Q m m l 1 z170 I264))))))) := by
  have d16 := t_d_16 h4
  have hSS : ∀ {v}, w_ptS T l m nn msk v → S v := fun {v} h => hS v h
  have s1 : S (w_lsg m (w_p5 (w_nm nn)) 3 (w_pth T l nn).2 l) := hSS (Or.inr (Or.inr (Or.inr (Or.inr (Or.inr (Or.inl rfl))))))
  refine r_signLeaf hm hL hM h160 (by decide) (by decide) h180 (by unfold sw_c; omega) (m_bS_tl hb (m_L_nd hL) s1) (fun z190 A LA wA fA => ?_)
  intro _
  have mo1 := w_mo_tl (mk := mk) s1
  obtain ⟨ma, ema⟩ : ∃ ma, ma = w_tl mk (w_lsg m (w_p5 (w_nm nn)) 3 (w_pth T l nn).2 l) := ⟨_, rfl⟩
  rw [← ema] at mo1 LA wA
  have b1 := m_bS_mo hb mo1
  have bm := (b1 ma w_mo_refl (m_L_nd LA)).1
  have gA := m_f1_gp fA
  rw [sw_2k (by omega)]
  refine r_spot (s := 48) (by decide) (by omega) ?_
  intro _
  have p0 : 0 ≤ ((31 * 48 + 2 * l : Nat) : Int) := by omega
  have p1 : ((31 * 48 + 2 * l : Nat) : Int) < 1519 := by omega
  refine ⟨p0, p1, ?_⟩
  intro I206 e206
  refine ⟨p0, p1, ?_⟩
  intro I211 e211
  refine ⟨p0, p1, ?_⟩
  intro I216 e216
  refine ⟨p0, p1, ?_⟩
  intro I221 e221
  refine ⟨p0, p1, ?_⟩
  intro I226 e226
  rw [Int.toNat_natCast] at e206 e211 e216 e221 e226
  have hf : t_lfok (w_plf T l m nn) := ⟨by show (0 : Int) ≤ (m : Int); omega, by show (m : Int) < 65536; omega, by show (1 : Int) ≤ 3; decide, by show (3 : Int) ≤ 3; decide, fun c => absurd rfl c, w_t_ne _ _ _ _ _⟩
  have TA : m_tr A ma 48 (w_pth T l nn).1 := m_tr_le (m_tr_gp hA gA (fun f k p c => by unfold m_pl at p; unfold m_p2 at c; omega)) mo1.1
  have dA : t_dp (w_pth T l nn).1 = t_dp T := t_pth_dp
  have T226 : m_tr I226 ma 48 (w_pT2 T l m nn) := by
    rw [e226, e221, e216, e211, e206]
    exact m_tr_own (f := w_plf T l m nn) TA (by rw [dA]; exact hl) (by rw [show (w_pth T l nn).1 = (t_pth (t_cb T l) T l (w_pkf T l nn)).1 from rfl, t_pth_lf (by omega) h4]; exact hky) (by rw [show (w_pth T l nn).1 = (t_pth (t_cb T l) T l (w_pkf T l nn)).1 from rfl, t_pth_ow.1]; exact ho) (by rw [show (w_pth T l nn).1 = (t_pth (t_cb T l) T l (w_pkf T l nn)).1 from rfl, t_pth_ow.2]; exact hs) hf (w_le_at mo1.1 h160) rfl (w_le_az mo1.1 h180) wA
  have g226 : m_gp (fun f k => (f = 37 ∨ f = 41 ∨ f = 38 ∨ f = 42 ∨ f = 44) ∧ k = 31 * 48 + 2 * l) A I226 := by
    rw [e226, e221, e216, e211, e206]
    exact m_gp_trans (m_gp_trans (m_gp_trans (m_gp_trans (m_gp_sub (m_gp_su _ _ _ _) (fun f k p => by omega)) (m_gp_sub (m_gp_su _ _ _ _) (fun f k p => by omega))) (m_gp_sub (m_gp_su _ _ _ _) (fun f k p => by omega))) (m_gp_sub (m_gp_su _ _ _ _) (fun f k p => by omega))) (m_gp_sub (m_gp_su _ _ _ _) (fun f k p => by omega))
  have v44 : I226 44 (31 * 48 + 2 * l) = z150 := by rw [e226, su_eq]
  clear e206 e211 e216 e221 e226
  have L226 : m_L I226 ma nm K tl := m_L_gp LA g226 (fun f k p => by omega)
  have me226 : m_me I226 ma := m_me_gp (m_me_le (m_me_gp hM gA (fun f k p => by unfold m_p2 at p; omega)) mo1.1) g226 (fun f k p => by omega)
  intro I231 e231
  obtain ⟨L231, r231, f231⟩ := r_rs0 L226 e231
  have gB0 : m_gp (fun f k => m_p2 f k ∨ ((f = 37 ∨ f = 41 ∨ f = 38 ∨ f = 42 ∨ f = 44) ∧ k = 31 * 48 + 2 * l)) I I231 := m_gp_trans (m_gp_sub gA (fun f k p => Or.inl p)) (m_gp_trans (m_gp_sub g226 (fun f k p => Or.inr p)) (m_gp_sub (m_f0_gp f231) (fun f k p => Or.inl p)))
  refine r_leafHead hm L231 (m_me_gp me226 (m_f0_gp f231) (fun f k p => by unfold m_p2 at p; omega)) bm (w_le_at mo1.1 h160) (by decide) (by decide) (w_le_az mo1.1 h180) r231 (by simp) (fun B rB fB => ?_)
  refine r_term rB (by simp [w_lh, w_b16]) bm wA (fun C rC fC => ?_)
  have fBC := m_fr_trans fB fC
  have LC := m_f0_L L231 fBC
  have gC : m_gp (fun f k => m_p2 f k ∨ ((f = 37 ∨ f = 41 ∨ f = 38 ∨ f = 42 ∨ f = 44) ∧ k = 31 * 48 + 2 * l)) I C := m_gp_trans gB0 (m_gp_sub (m_f0_gp fBC) (fun f k p => Or.inl p))
  have tC : m_tx C ma us lt := m_tx_le (m_tx_gp ht gC (fun f k p => by unfold m_p2 at p; omega)) mo1.1
  have rC2 : m_rr C ma (w_lfw (w_plf T l m nn)) := by
    rw [List.nil_append] at rC
    exact rC
  have lfl : (w_lfw (w_plf T l m nn)).length ≤ 8 := by
    unfold w_lfw w_lh
    simp [w_b16]
    split <;> simp
  refine r_flush rC2 tC (by omega) (fun D tD _ gD => ?_)
  have gD2 : m_gp (fun f k => m_p2 f k ∨ m_pf us f k ∨ ((f = 37 ∨ f = 41 ∨ f = 38 ∨ f = 42 ∨ f = 44) ∧ k = 31 * 48 + 2 * l)) I D := m_gp_trans (m_gp_sub gC (fun f k p => p.elim Or.inl (fun p => Or.inr (Or.inr p)))) (m_gp_sub gD (fun f k p => Or.inr (Or.inl p)))
  have LD := m_L_pf LC gD
  have nD : ∀ f k, (88 ≤ f ∧ f ≤ 99) ∨ (f = 1000 ∧ (k = 83 ∨ k = 93)) → D f k = I f k := fun f k hf => gD2 f k (by unfold m_p2 m_pf; omega)
  have TD : m_tr D ma 48 (w_pT2 T l m nn) := m_tr_gp T226 (m_gp_trans (m_gp_sub (m_gp_trans (m_f0_gp f231) (m_f0_gp fBC)) (fun f k p => Or.inl p)) (m_gp_sub gD (fun f k p => Or.inr p)) : m_gp (fun f k => m_p2 f k ∨ m_pf us f k) I226 D) (fun f k p c => by unfold m_pl at p; unfold m_p2 m_pf at c; omega)
  have wD : m_wy D T l := ⟨by rw [nD _ _ (by omega)]; exact hw.1, fun j hj => by rw [nD _ _ (by omega), nD _ _ (by omega), nD _ _ (by omega)]; exact hw.2 j hj⟩
  have pD : m_pth D ma T l (w_nm (nn + 1)) (t_dp T) := fun j hj hc => by rw [nD _ _ (by omega), nD _ _ (by omega)]; exact ⟨w_le_at mo1.1 (hp j hj hc).1, w_le_at mo1.1 (hp j hj hc).2⟩
  have d2 : t_dp (w_pT2 T l m nn) = t_dp T := dA
  refine r_putNodes (T0 := T) (T := w_pT2 T l m nn) (n0 := w_nm (nn + 1)) (msk := msk) d2.symm (by rw [d2]; exact hl) hmk (fun k hk => hr k (by rw [d2] at hk; exact hk)) (fun k hk hck y hy => hSS (Or.inr (Or.inr (Or.inr (Or.inr (Or.inr (Or.inr ⟨k, by rw [d2] at hk; exact hk, hck, y, hy, rfl⟩))))))) (by rw [List.length_append]; omega) b1 LD ⟨wD, pD, by rw [nD _ _ (by omega)]; exact h83, TD⟩ tD (fun E me e1 e2 LE cE tE gE => ?_)
  rw [d2] at tE
  have s5 : ∀ j, j < t_dp T → t_cb T l j ≠ 0 → S (w_dr (t_ls T l (w_nm (nn + 1)) (j + 1)) 5) := fun j hj hc => hSS (Or.inr (Or.inr (Or.inl ⟨j, hj, hc, Or.inr (Or.inl rfl)⟩)))
  refine r_holdPath (s := 48) (by decide) hl h4 s5 e2 LE cE.1 cE.2.1 (fun F mf f1 f2 LF hF gF => ?_)
  have le : w_le mk mf := w_le_trans mo1.1 (w_le_trans e1.1 f1.1)
  have mo : w_mo S mk mf := w_mo_trans mo1 (w_mo_trans e1 f1)
  have gEF : m_gp (fun f k => m_pno us f k ∨ (f = 44 ∧ ∃ j, j < t_dp T ∧ t_cb T l j ≠ 0 ∧ k = 31 * 48 + t_ab l (j + 1))) D F := m_gp_trans (m_gp_sub gE (fun f k p => Or.inl p)) (m_gp_sub gF (fun f k p => p.elim (fun p => Or.inl (Or.inl p)) Or.inr))
  have ev : ∀ j, j < t_dp T → t_ab l (j + 1) % 2 = 1 := fun j hj => t_ab_o (by omega) (by omega) (by omega)
  refine q F mf mo f2 LF ?_ ?_ ?_ ?_ hF ?_ (fun x hx hxj => ?_) ?_
  · refine m_tx_le (m_tx_gp ?_ gF (fun f k p => by unfold m_p2 at p; omega)) f1.1
    rw [List.append_assoc] at tE
    exact tE
  · refine m_tr_le ?_ f1.1
    have w31 := t_w_4 h4
    have en : ∀ f j, (36 ≤ f ∧ f ≤ 43) ∨ (f = 31 ∧ j = 48) → F f j = E f j := fun f j hf => gF f j (by unfold m_p2; omega)
    exact m_tr_eq cE.2.2.2 (en 31 48 (by omega)) (fun f x h1 h2 h3 => en f _ (by omega))
  · exact ⟨by rw [gF _ _ (by unfold m_p2; omega)]; exact cE.1.1, fun j hj => by rw [gF _ _ (by unfold m_p2; omega), gF _ _ (by unfold m_p2; omega), gF _ _ (by unfold m_p2; omega)]; exact cE.1.2 j hj⟩
  · exact m_pth_gp (m_pth_le cE.2.1 f1.1) gF (fun f j p => by unfold m_p2 at p; omega)
  · have : F 44 (31 * 48 + 2 * l) = z150 := by
      rw [gEF 44 _ (fun p => ?_), gD 44 _ (by unfold m_pf; omega), (m_f0_gp fBC) 44 _ (by unfold m_p2; omega), (m_f0_gp f231) 44 _ (by unfold m_p2; omega)]
      · exact v44
      · rcases p with p | ⟨_, j, hj, _, p⟩
        · unfold m_pno m_p2 m_pf m_prs at p; omega
        · have := ev j hj; omega
    rw [this]
    exact w_le_at le h150
  · rw [gEF 44 _ (fun p => ?_), gD2 44 _ (by unfold m_p2 m_pf; omega)]
    rcases p with p | ⟨_, j, hj, hc, p⟩
    · unfold m_pno m_p2 m_pf m_prs at p; omega
    · exact hxj j hj hc (by omega)
  · refine m_gp_trans (m_gp_sub gD2 (fun f k p => ?_)) (m_gp_sub gEF (fun f k p => ?_))
    · rcases p with p | p | p
      · exact Or.inl (Or.inl p)
      · exact Or.inl (Or.inr p)
      · exact Or.inr (Or.inl (by omega))
    · rcases p with (p | p | p) | ⟨p1, j, hj, _, p2⟩
      · exact Or.inl (Or.inl p)
      · exact Or.inl (Or.inr p)
      · unfold m_prs at p; unfold m_pcp; omega
      · have := t_ab_w h4 hl (h := j + 1) (by omega)
        have := t_w_4 h4
        exact Or.inr (Or.inl (by omega))
end
