/-! ===== the reference: putWelcome ===== -/
noncomputable section
variable {I I0 J X : sr_V} {nn nm s u k h us : Nat} {K K' K2 : Wt → Prop} {tl tl' mk mm l0 l1 l2 lw lt lp : List Wt} {a b c y n msk lf wp : Int} {Q : Int → sr_V → Prop} {R : sr_V → Prop} {x i e l m : Nat} {P : Nat → Nat → Prop} {S : Wt → Prop} {w ls n0 cs cm jn : Wt} {G : w_G} {T : w_T} {ms : List (List Wt)} {L : List w_Ch} {d : w_Ch} {ad : List (Nat × Nat)}
theorem w_wl_s {p j : Nat} (ha : ad[i]? = some (p, j)) (hd : L[j]? = some d) : w_wl T l n0 wp jn L (ad.take (i + 1)) = w_wl T l n0 wp jn L (ad.take i) ++ w_w1 T l n0 wp jn p d := by
  have tk : ad.take (i + 1) = ad.take i ++ [(p, j)] := by rw [List.take_add_one, ha]; rfl
  unfold w_wl
  rw [tk, List.flatMap_append]
  simp [hd]
theorem w_wl_len : ∀ (ad : List (Nat × Nat)), (w_wl T l n0 wp jn L ad).length ≤ 2 * ad.length
  | [] => Nat.le_refl _
  | pj :: ad => by
    have ih := w_wl_len ad
    unfold w_wl at ih ⊢
    rw [List.flatMap_cons, List.length_append, List.length_cons]
    have : (((L[pj.2]?).map (w_w1 T l n0 wp jn pj.1)).getD []).length ≤ 2 := by
      cases L[pj.2]? with
      | none => exact Nat.zero_le _
      | some c => exact Nat.le_refl _
    omega
theorem m_pwf_2 (g : m_gp m_p2 I J) : m_gp (m_pwf us) I J := m_gp_sub g (fun _ _ p => Or.inl p)
theorem m_pwf_f (g : m_gp (m_pf us) I J) : m_gp (m_pwf us) I J := m_gp_sub g (fun _ _ p => Or.inr (Or.inl p))
theorem m_pwf_d (g : m_gp m_pd I J) : m_gp (m_pwf us) I J := m_gp_sub g (fun f k p => by unfold m_pd at p; unfold m_pwf m_p2; omega)
theorem m_li_pwf (h : m_li I mk K L) (hJ : m_L J mm nm K2 tl') (hl : w_le mk mm) (hu : I 1000 23 = (us : Nat)) (g : m_gp (m_pwf us) I J) : m_li J mm K L := m_li_up h hJ hl hu g (fun f k p => by unfold m_pwf m_p2 m_pf at p; omega)
theorem r_pw_20 {x2 x4 x5 : Int} (hl : l < 2 ^ t_dp T) (h4 : t_dp T ≤ 4) (ha16 : ad.length ≤ 32) (hwp : wp = 0 ∨ wp = 1) (hadx : ∀ (i p j : Nat), ad[i]? = some (p, j) → p < 2 ^ t_dp T ∧ (wp ≠ 0 → ∃ k, k < t_dp T ∧ t_cb T l k ≠ 0 ∧ t_ab p (k + 1) = t_ab l (k + 1)) ∧ ∃ c : w_Ch, L[j]? = some c ∧ c.1.1 = 1) (hS : ∀ (p j : Nat) (c : w_Ch), (p, j) ∈ ad → L[j]? = some c → ∀ v ∈ w_w1 T l n0 wp jn p c, S v) (hlw : lw.length ≤ 100) : ∀ (n i : Nat) {I : sr_V} {mz : List Wt}, m_bS S mz → m_L I mz nn K tl → m_li I mz K2 L → m_wc I mz T l n0 wp ad → w_at mz x2 jn → m_tx I mz us (lw ++ w_wl T l n0 wp jn L (ad.take i)) → i ≤ ad.length → ad.length - i < n → (∀ J mm, w_mo S mz mm → m_bS S mm → m_L J mm nn K tl → m_tx J mm us (lw ++ w_wl T l n0 wp jn L ad) → m_gp (m_pwf us) I J → rm_206 48 x4 x5 J (fun I50 => rm_81 1 I50 (fun z61 I57 => sw_c z61 → R I57))) → rl_106_20 R n 48 x2 wp x4 x5 i I
  | 0, _, _, _, _, _, _, _, _, _, _, hn, _ => by omega
  | n + 1, i, I, mz, hb, hL, hli, hc, hj, ht, hi, hn, q => by
    have us1 := ht.2.2.2
    have hu := ht.1
    unfold rl_106_20
    intro v46 e46 _
    rw [hc.1] at e46
    subst e46
    refine ⟨fun c => ?_, fun c => ?_⟩
    · have ei : i = ad.length := by omega
      subst ei
      rw [List.take_length] at ht
      exact q I mz w_mo_refl hb hL ht (m_gp_refl _ _)
    · obtain ⟨pj, hpj⟩ : ∃ pj, ad[i]? = some pj := ⟨ad[i], List.getElem?_eq_getElem (by omega)⟩
      obtain ⟨p, j⟩ := pj
      obtain ⟨ax1, ax2, d, hd, hkd⟩ := hadx i p j hpj
      obtain ⟨a85, a86⟩ := hc.2.1 i p j hpj
      have hSd := hS p j d (List.mem_of_getElem? hpj) hd
      have wl := w_wl_len (T := T) (l := l) (n0 := n0) (wp := wp) (jn := jn) (L := L) (ad.take i)
      have tl2 : (ad.take i).length ≤ ad.length := List.length_take_le' i ad
      refine ⟨by omega, by omega, ?_⟩
      intro v63 e63 _
      rw [Int.toNat_natCast, a86] at e63
      subst e63
      refine r_readL hli hd (fun A fr lx ix ex sx hx he hp hco _ _ fA => ?_)
      have gA := m_pd_F fA
      obtain ⟨⟨kd, ⟨ik, ⟨mo, ky, pp, so, ph, g0⟩, gg⟩, nx⟩, dl, dh⟩ := d
      have hkd : kd = 1 := hkd
      subst hkd
      obtain ⟨_, x2', hx3⟩ := p_ct_ix hp
      have hpk : p_pk K2 lx (some (ix + 3, ix + 12)) = some ((ik, (mo, ky, pp, so, ph, g0), gg), ix + 12, ix + 12) ∧ sx = (ix + 12, ex) := by
        rcases hx3 with ⟨_, es, _, hpk, _⟩ | ⟨cc, _⟩ | ⟨cc, _⟩
        · exact ⟨hpk, es⟩
        · exact absurd cc (by decide)
        · exact absurd cc (by decide)
      obtain ⟨hpk, es⟩ := hpk
      obtain ⟨j', j1, j2, _, j4, _⟩ := hco.2.1 rfl
      have ej : j' = ix + 3 := by rw [es] at j1; have : ix + 12 = j' + 9 := j1; omega
      subst ej
      have e12 : ix + 12 ≤ lx.length := by rw [es] at x2'; exact Nat.le_trans x2' he
      obtain ⟨pw1, _⟩ := p_pk_w (m_tk_vl hx) e12 hpk
      have ik5 : ik.head? = some 5 := (p_t_in (p_pk_ix hpk).2.2.2.1).2.2.2.1
      have LA : m_L A mz nn K tl := m_L_pd hL gA
      intro v73 e73 _
      have wik := j2.1
      rw [← e73] at wik
      intro I80 e80
      obtain ⟨L80, r80, f80⟩ := r_rs0 LA e80
      intro v84 e84 _ v87 e87 _
      rw [e80, su_k (by decide), j4] at e84
      rw [e80, su_k (by decide), j2.2.2.2] at e87
      subst e84
      have sl : (w_sli lx (ix + 3) (ix + 3 + 9)).length = 9 := by rw [w_sli_len (by omega)]; omega
      have hx2 := hx.2.1
      have a26 : I80 26 = A 26 := f80.1 26 (by simp) (by decide)
      refine r_bText (fr := fr + (ix + 3)) r80 (by rw [a26]; exact m_at_sl2 hx.1 (i := ix + 3) (j := ix + 3 + 9)) (by rw [e87, sl]; omega) (by rw [sl]; omega) (by rw [sl]; simp) (fun B rB fB => ?_)
      rw [pw1, List.nil_append] at rB
      have pl : (w_pkw (ik, (mo, ky, pp, so, ph, g0), gg)).length ≤ 6000 := by rw [← pw1, sl]; omega
      have fB2 := m_fr_trans f80 fB
      refine r_hashS hb (m_f0_L LA fB2) rB pl (hSd _ (by unfold w_w1; simp)) (fun t1 C mc c1 c2 LC wC fC => ?_)
      intro _
      have gC : m_gp (m_pwf us) I C := m_gp_trans (m_pwf_d gA) (m_pwf_2 (m_gp_trans (m_f0_gp fB2) (m_f1_gp fC)))
      have gAC : m_gp (fun f k => m_pd f k ∨ m_p2 f k) I C := m_gp_trans (m_gp_sub gA (fun f k p => Or.inl p)) (m_gp_sub (m_gp_trans (m_f0_gp fB2) (m_f1_gp fC)) (fun f k p => Or.inr p))
      have tC : m_tx C mc us (lw ++ w_wl T l n0 wp jn L (ad.take i)) := m_tx_le (m_tx_gp ht gAC (fun f k p => by unfold m_pd m_p2 at p; omega)) c1.1
      refine r_flushTerm LC (c2 mc w_mo_refl (m_L_nd LC)).1 tC wC (by rw [List.length_append]; omega) (fun D LD tD _ gD => ?_)
      have gD2 : m_gp (m_pwf us) I D := m_gp_trans gC (m_pwf_f gD)
      have liD := m_li_pwf hli LD c1.1 hu gD2
      have cD := m_wc_gp hc gD2 c1.1
      have body : ∀ {x9 : Int}, w_az mc x9 (w_wsec T l n0 wp p) → rb_106_84 R (rl_106_20 R n) 48 x2 wp x4 x5 i x9 x2 v73 D := fun {x9} h9 => by
        unfold rb_106_84
        refine r_sealedS c2 LD (w_le_at c1.1 wik) ik5 (w_le_at c1.1 hj) h9 (hSd _ (by unfold w_w1; simp)) (fun t2 E me e1 e2 LE wE fE => ?_)
        intro _
        have gE := m_f1_gp fE
        have tE := m_tx_pw tD e1.1 gE
        refine r_flushTerm LE (e2 me w_mo_refl (m_L_nd LE)).1 tE wE (by rw [List.length_append, List.length_append]; simp; omega) (fun F LF tF _ gF => ?_)
        intro y15 e15
        rw [sw_s1 (by omega)] at e15
        subst e15
        have gF2 : m_gp (m_pwf us) I F := m_gp_trans gD2 (m_gp_trans (m_pwf_2 gE) (m_pwf_f gF))
        have moF : w_mo S mz me := w_mo_trans c1 e1
        refine r_pw_20 hl h4 ha16 hwp hadx hS hlw n (i + 1) e2 LF (m_li_pwf hli LF moF.1 hu gF2) (m_wc_gp hc gF2 moF.1) (w_le_at moF.1 hj) ?_ (by omega) (by omega) (fun Z mw b1 b2 LZ tZ gZ => q Z mw (w_mo_trans moF b1) b2 LZ tZ (m_gp_trans gF2 gZ))
        rw [w_wl_s hpj hd]
        have ew : w_w1 T l n0 wp jn p ((1, (ik, (mo, ky, pp, so, ph, g0), gg), nx), dl, dh) = [w_t 1 [] [] [] (w_pkw (ik, (mo, ky, pp, so, ph, g0), gg)), w_t 6 ik jn (w_wsec T l n0 wp p) []] := rfl
        rw [ew, ← List.append_assoc]
        have e3 : [w_t 1 [] [] [] (w_pkw (ik, (mo, ky, pp, so, ph, g0), gg)), w_t 6 ik jn (w_wsec T l n0 wp p) []] = [w_t 1 [] [] [] (w_pkw (ik, (mo, ky, pp, so, ph, g0), gg))] ++ [w_t 6 ik jn (w_wsec T l n0 wp p) []] := rfl
        rw [e3, ← List.append_assoc]
        exact tF
      have a85D : D 85 i = (p : Nat) := (cD.2.1 i p j hpj).1
      rcases hwp with hwp0 | hwp1
      · refine ⟨1, ?_⟩
        unfold rl_106_52
        refine ⟨fun _ => ?_, fun cc => absurd hwp0 cc⟩
        unfold rb_106_72
        exact ⟨fun _ => body (Or.inl ⟨rfl, by unfold w_wsec; rw [if_pos hwp0]⟩), fun cc => absurd hwp0 cc⟩
      · have hne : wp ≠ 0 := by omega
        obtain ⟨k0, k1, k2, k3⟩ := ax2 hne
        refine ⟨t_dp T + 1, r_wm_52 (p := p) hne hl h4 ax1 cD (by omega) a85D (fun k hk ek hck => ?_) _ 0 (t_dp T) (by omega) (by omega) rfl ⟨k0, by omega, k1, k2, k3⟩⟩
        unfold rb_106_72
        refine ⟨fun cc => absurd cc hne, fun _ => ⟨by omega, by omega, ?_⟩⟩
        intro v19 e19 _
        rw [Int.toNat_natCast] at e19
        have se := (cD.2.2 hne).2 k hk hck
        rw [← e19] at se
        refine body (Or.inr ?_)
        unfold w_wsec
        rw [if_neg hne, ← ek]
        exact se
end
