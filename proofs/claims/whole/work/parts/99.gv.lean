/-! ===== the class: carrySecrets, tellSecrets, tellAll ===== -/
noncomputable section
variable {H G Z X Y : sw_H} {mk mm tl l0 l1 : List Wt} {nn nm r k o h l x y g g1 g2 n m : Nat} {K S : Wt → Prop} {cn cs msk N U M z : Int} {T T2 T0 : w_T} {Q : sw_H → Prop} {P : Int → sw_H → Prop} {A : List Nat} {w s n0 : Wt} {G' : w_G} {Ul : List (Wt × Wt)} {hs : List Nat}
theorem c_cv_az (hL : c_L H mk nn K tl) (h1 : c_gp H mk g1 G') (ht : c_tr H mk (g2 + 1) T) (hx : x < t_w T) : w_az mk (c_cv H g1 g2 x) (w_hcy G' T x) := by
  have nd := c_L_nd hL
  have w31 := t_w_4 ht.2.1.1
  have k2 : w_az mk (sw_iv H (g2 + 2) x) (t_ky T x) := (ht.2.2.2.1 x hx).1
  have tr1 := h1.2.2.2.2.1
  unfold c_cv w_hcy
  by_cases c : sw_iv H (g2 + 2) x ≠ 0 ∧ sw_iv H (g2 + 2) x = sw_iv H (g1 + 2) x
  · rw [if_pos c]
    have a2 : w_at mk (sw_iv H (g2 + 2) x) (t_ky T x) := by
      rcases k2 with h | h
      · exact absurd h.1 c.1
      · exact h
    have xw : x < t_w (gg_T G') := by
      rcases Nat.lt_or_ge x (t_w (gg_T G')) with h | h
      · exact h
      · have := (tr1.2.2.2.2.1 x h (by omega)).1
        have e : sw_iv H (g1 + 2) x = 0 := this
        exact absurd (c.2.trans e) c.1
    have a1 : w_at mk (sw_iv H (g1 + 2) x) (t_ky (gg_T G') x) := by
      rcases (tr1.2.2.2.1 x xw).1 with h | h
      · have e : sw_iv H (g1 + 2) x = 0 := h.1
        exact absurd (c.2.trans e) c.1
      · exact h
    have ek : t_ky T x = t_ky (gg_T G') x := by
      have := w_at_d a2
      rw [c.2, w_at_d a1] at this
      exact this.symm
    have kne : t_ky T x ≠ [] := c_at_ne hL a2
    rw [if_pos ⟨xw, kne, ek⟩]
    exact h1.2.2.2.2.2.2.2.2.2.1 x xw
  · rw [if_neg c, if_neg (fun cc => c ?_)]
    · exact Or.inl ⟨rfl, rfl⟩
    · obtain ⟨x1, x2, x3⟩ := cc
      have a2 := w_az_ne k2 x2
      have a1 : w_at mk (sw_iv H (g1 + 2) x) (t_ky T x) := by rw [x3]; exact w_az_ne (tr1.2.2.2.1 x x1).1 (by rw [← x3]; exact x2)
      have := w_at_le a2
      exact ⟨by omega, w_at_inj nd a2 a1⟩
theorem c_carry (hg : c_cg H m g1 g2) (hV : c_V H mk nn K tl cn cs) (h1 : c_gp H mk g1 G') (ht : c_tr H mk (g2 + 1) T) (hlf : sw_iv H g2 3 = (l : Nat)) (hl : l < 2 ^ t_dp T) (hk : t_ky T (2 * l) = w_p5 s) (hs : s ≠ []) (hU : c_up H mk m Ul)
    (q : ∀ Z, c_fr [g2 + 22] H Z → (∀ x, x < t_w T → x ≠ 2 * l → w_az mk (sw_iv Z (g2 + 22) x) (w_hcy G' T x)) → (∀ x, t_w T ≤ x → x < 31 → sw_iv Z (g2 + 22) x = 0) → ((w_az mk (sw_iv Z (g2 + 22) (2 * l)) (w_hcy G' T (2 * l)) ∧ ∀ u ∈ Ul, u.2 ≠ s) ∨ (w_at mk (sw_iv Z (g2 + 22) (2 * l)) s ∧ ∃ u ∈ Ul, u.2 = s)) → Q Z) : wm_184 (120 + 54 * m) g2 3 H Q := by
  have h4 := ht.2.1.1
  have d16 := t_d_16 h4
  have w31 := t_w_4 h4
  have w2 : 2 * l < t_w T := by rw [t_w_e]; omega
  unfold wm_184
  refine ⟨32, c_cs_2 hg (fun G f e v75 e75 _ y78 e78 => ?_) 32 0 (c_fr_refl _ _) (fun x hx => absurd hx (Nat.not_lt_zero _)) (by decide) (by decide)⟩
  rw [f.2.2.2.2.2 g2 (by simp), hlf] at e75
  rw [e75, sw_w_s (by omega) (by omega)] at e78
  have ey : y78 = ((2 * l : Nat) : Int) := by rw [e78]; omega
  rw [ey]
  have fx : ∀ a ∈ [g2 + 22], c_fix a := fun a ha => by have := hg.2.1.1; have := hg.2.1.2.1; simp at ha; unfold c_fix; omega
  have cv0 : ∀ x, t_w T ≤ x → x < 31 → c_cv H g1 g2 x = 0 := fun x hx hx2 => by
    have : sw_iv H (g2 + 2) x = 0 := (ht.2.2.2.2.1 x hx hx2).1
    unfold c_cv
    rw [if_neg (fun cc => cc.1 this)]
  refine ⟨Ul.length + 1, c_cs_49 (H := H) hg hV ht hl hk hs hU (fun Z fZ eZ oZ => ?_) (Ul.length + 1) 0 f (fun x hx _ => e x hx) (Or.inl ⟨e (2 * l) (by omega), fun u hu => by simp at hu⟩) (Nat.zero_le _) (by omega)⟩
  refine q Z fZ (fun x hx hx2 => ?_) (fun x hx hx2 => ?_) ?_
  · rw [eZ x (by omega) hx2]; exact c_cv_az hV.1 h1 ht hx
  · rw [eZ x hx2 (by omega)]; exact cv0 x hx hx2
  · rcases oZ with ⟨o1, o2⟩ | ⟨o1, o2⟩
    · exact Or.inl ⟨by rw [o1]; exact c_cv_az hV.1 h1 ht w2, o2⟩
    · exact Or.inr ⟨o1, o2⟩
theorem t_wl_nd {i j d : Nat} (hi : (t_wl T l d)[i]? = some k) (hj : (t_wl T l d)[j]? = some k) : i = j := by
  obtain ⟨_, _, a, _⟩ := t_wl_at hi
  obtain ⟨_, _, b, _⟩ := t_wl_at hj
  have il := (List.getElem?_eq_some_iff.mp hi).1
  have jl := (List.getElem?_eq_some_iff.mp hj).1
  have := congrArg List.length (a.symm.trans b)
  rw [List.length_take, List.length_take] at this
  omega
/-- secrets of the path from index st on are told -/
theorem c_te_2 (hPa : c_Pa H) (hg : c_gs H g) (hg93 : 93 < g) (hp : c_pk2 H T msk l (t_wl T l (t_dp T))) (h4 : t_dp T ≤ 4) (hl : l < 2 ^ t_dp T) {st : Nat}
    (q : ∀ G, c_fr [g + 22] H G → (∀ i k, st ≤ i → (t_wl T l (t_dp T))[i]? = some k → sw_iv G (g + 22) (t_ab l (k + 1)) = sw_iv H 90 i) → (∀ x, (∀ i k, st ≤ i → (t_wl T l (t_dp T))[i]? = some k → x ≠ t_ab l (k + 1)) → sw_iv G (g + 22) x = sw_iv H (g + 22) x) → Q G) :
    ∀ (n j : Nat) {G : sw_H}, c_fr [g + 22] H G → (∀ i k, st ≤ i → i < j → (t_wl T l (t_dp T))[i]? = some k → sw_iv G (g + 22) (t_ab l (k + 1)) = sw_iv H 90 i) → (∀ x, (∀ i k, st ≤ i → i < j → (t_wl T l (t_dp T))[i]? = some k → x ≠ t_ab l (k + 1)) → sw_iv G (g + 22) x = sw_iv H (g + 22) x) → st ≤ j → j ≤ (t_wl T l (t_dp T)).length → (t_wl T l (t_dp T)).length - j < n → wl_291_2 Q n 85 g j G
  | 0, _, _, _, _, _, _, _, h => by omega
  | n + 1, j, G, f, e1, e2, hst, hj, hn => by
    have d16 := t_d_16 h4
    have wll := t_wl_len (T := T) (l := l) (t_dp T)
    have PG := c_Pa_fr hPa f
    have gG := c_gs_fr hg f
    have kG : c_pk2 G T msk l (t_wl T l (t_dp T)) := c_pk2_fr hp f (fun a ha => by simp at ha; omega)
    obtain ⟨b1, b2, b3, b4, b5, b6, b7, b8⟩ := gG
    unfold wl_291_2
    intro v1 ev1 _
    rw [kG.1] at ev1
    subst ev1
    refine ⟨fun c => ?_, fun c => ?_⟩
    · have ej : j = (t_wl T l (t_dp T)).length := by omega
      refine q G f (fun i k hi hk => e1 i k hi (by have := (List.getElem?_eq_some_iff.mp hk).1; omega) hk) (fun x hx => e2 x (fun i k hi _ hk => hx i k hi hk))
    · obtain ⟨k, hk⟩ : ∃ k, (t_wl T l (t_dp T))[j]? = some k := ⟨_, List.getElem?_eq_getElem (by omega)⟩
      obtain ⟨a1, a2, a3, a4⟩ := t_wl_at hk
      have xw : t_ab l (k + 1) < t_w T := t_ab_w h4 hl (by omega)
      have w31 := t_w_4 h4
      rw [b5]
      refine ⟨b6, ?_⟩
      intro q4 e4
      rw [(PG.2.1 1 (by decide) (by decide)).1]
      refine ⟨(PG.2.1 1 (by decide) (by decide)).2.1, ?_⟩
      intro q7 e7
      rw [e7]
      refine ⟨by omega, by rw [(PG.2.1 1 (by decide) (by decide)).2.2]; omega, ?_⟩
      intro v10 e10 _
      rw [Int.toNat_natCast, (kG.2.1 j k hk).1] at e10
      subst e10
      rw [(PG.2.1 5 (by decide) (by decide)).1]
      refine ⟨(PG.2.1 5 (by decide) (by decide)).2.1, ?_⟩
      intro q13 e13
      rw [e13]
      refine ⟨by omega, by rw [(PG.2.1 5 (by decide) (by decide)).2.2]; omega, ?_⟩
      intro v16 e16 _
      rw [Int.toNat_natCast, f.2.2.2.2.2 90 (by simp; omega)] at e16
      subst e16
      rw [e4]
      refine ⟨by omega, by rw [b7]; omega, ?_⟩
      intro Z eZ
      rw [Int.toNat_natCast] at eZ
      have fZ : c_fr [g + 22] G Z := by rw [eZ]; exact c_fr_si _ _ _ _
      intro y22 e22
      rw [sw_s1 (by omega)] at e22
      subst e22
      have inj : ∀ i k', (t_wl T l (t_dp T))[i]? = some k' → t_ab l (k' + 1) = t_ab l (k + 1) → i = j := fun i k' hk' e => by
        have a1' := (t_wl_at hk').1
        have := t_ab_inj (by omega) (by omega) (by omega) e
        have : k' = k := by omega
        rw [this] at hk'
        exact t_wl_nd hk' hk
      refine c_te_2 hPa hg hg93 hp h4 hl q n (j + 1) (c_fr_t f fZ) (fun i k' hi hij hk' => ?_) (fun x hx => ?_) (by omega) (by omega) (by omega)
      · rw [eZ]
        by_cases cij : i = j
        · subst cij
          rw [hk] at hk'
          injection hk' with hk'
          rw [← hk', c_si_eq]
        · rw [c_si_f (fun cc => cij (inj i k' hk' cc))]
          exact e1 i k' hi (by omega) hk'
      · rw [eZ, c_si_f (hx j k hst (by omega) hk)]
        exact e2 x (fun i k' hi hij hk' => hx i k' hi (by omega) hk')
theorem c_tellSecrets (hPa : c_Pa H) (hg : c_gs H g) (hg93 : 93 < g) (hp : c_pk2 H T msk l (t_wl T l (t_dp T))) (h4 : t_dp T ≤ 4) (hl : l < 2 ^ t_dp T) {st : Nat} (hst : st ≤ (t_wl T l (t_dp T)).length)
    (q : ∀ G, c_fr [g + 22] H G → (∀ i k, st ≤ i → (t_wl T l (t_dp T))[i]? = some k → sw_iv G (g + 22) (t_ab l (k + 1)) = sw_iv H 90 i) → (∀ x, (∀ i k, st ≤ i → (t_wl T l (t_dp T))[i]? = some k → x ≠ t_ab l (k + 1)) → sw_iv G (g + 22) x = sw_iv H (g + 22) x) → Q G) : wm_291 85 g st H Q := by
  unfold wm_291
  exact ⟨(t_wl T l (t_dp T)).length + 1, c_te_2 hPa hg hg93 hp h4 hl q ((t_wl T l (t_dp T)).length + 1) st (c_fr_refl _ _) (fun i k h1 h2 => absurd h2 (by omega)) (fun _ _ => rfl) (Nat.le_refl _) hst (by omega)⟩
theorem c_tellAll (hPa : c_Pa H) (hg : c_gs H g) (hg93 : 93 < g) (hp : c_pk2 H T msk l (t_wl T l (t_dp T))) (h4 : t_dp T ≤ 4) (hl : l < 2 ^ t_dp T) (hlf : sw_iv H g 3 = (l : Nat))
    (q : ∀ G, c_fr [g + 22] H G → sw_iv G (g + 22) (2 * l) = sw_iv H 85 6 → (∀ i k : Nat, (t_wl T l (t_dp T))[i]? = some k → sw_iv G (g + 22) (t_ab l (k + 1)) = sw_iv H 90 i) → (∀ x : Nat, x ≠ 2 * l → (∀ i k : Nat, (t_wl T l (t_dp T))[i]? = some k → x ≠ t_ab l (k + 1)) → sw_iv G (g + 22) x = sw_iv H (g + 22) x) → Q G) : wm_185 85 g H Q := by
  have d16 := t_d_16 h4
  obtain ⟨b1, b2, b3, b4, b5, b6, b7, b8⟩ := id hg
  unfold wm_185
  rw [b5]
  refine ⟨b6, ?_⟩
  intro q1 e1 v4 e4 _ v7 e7 _
  rw [hlf] at e4
  have e2 : sw_w (2 * v4) = ((2 * l : Nat) : Int) := by rw [e4, sw_w_s (by omega) (by omega)]; omega
  rw [e1, e2]
  refine ⟨by omega, by rw [b7]; omega, ?_⟩
  intro Z eZ
  rw [Int.toNat_natCast] at eZ
  have fZ : c_fr [g + 22] H Z := by rw [eZ]; exact c_fr_si _ _ _ _
  refine c_tellSecrets (st := 0) (c_Pa_fr hPa fZ) (c_gs_fr hg fZ) hg93 (c_pk2_fr hp fZ (fun a ha => by simp at ha; omega)) h4 hl (Nat.zero_le _) (fun G fG g1 g2 => ?_)
  intro _
  refine q G (c_fr_t fZ fG) ?_ (fun i k hk => ?_) (fun x hx hx2 => ?_)
  · rw [g2 (2 * l) (fun i k _ hk cc => ?_), eZ, c_si_eq, e7]
    have a1 := (t_wl_at hk).1
    have : t_ab l (k + 1) % 2 = 1 := t_ab_o (by omega) (by omega) (by omega)
    omega
  · rw [g1 i k (Nat.zero_le _) hk, fZ.2.2.2.2.2 90 (by simp; omega)]
  · rw [g2 x (fun i k _ hk => hx2 i k hk), eZ, c_si_f hx]
theorem c_joinerOf (lm : c_lm cn cs N U M) (hb : c_bS S mk tl N U M) (hW : c_W H mk nn K tl cn cs) (hg : c_gp H mk g G') (hz : w_at mk z s) (hS1 : S (w_ini G')) (hS2 : S (w_jnr G' s)) (q : ∀ t X mm, w_mo S mk mm → c_bS S mm tl N U M → c_W X mm nn K tl cn cs → w_at mm t (w_jnr G' s) → c_ch [] H X → P t X) : wm_187 11 g z H P := by
  unfold wm_187
  intro v1 e1 _
  rw [e1]
  refine c_derS (j := 1) rfl (by decide) lm hb hW hg.2.2.2.2.2.2.2.2.1 hS1 (fun A1 t1 ma a1 a2 WA aA cA => ?_)
  intro _ _
  obtain ⟨n1, n2, n3⟩ := c_nothing WA
  rw [(c_cr WA).1]
  refine ⟨n1, ?_⟩
  intro q12 e12
  refine ⟨n1, ?_⟩
  intro q15 e15
  rw [e15, n2]
  refine ⟨n3, ?_⟩
  intro q18 e18
  rw [e12, e18]
  refine c_mixS lm a2 WA aA (w_le_at a1.1 hz) hS2 (fun B1 t2 mb b1 b2 WB aB cB => ?_)
  intro _ _
  exact q t2 B1 mb (w_mo_trans a1 b1) b2 WB aB (c_ch_sub (c_ch_trans cA cB) (by simp))
/-- the hash of what was confirmed and signed -/
theorem c_confirmedHash {r2 b2 e : Nat} {l2 : List Wt} (lm : c_lm cn cs N U M) (hb : c_bS S mk tl N U M) (hW : c_W H mk nn K tl cn cs) (h2 : c_sg H (w_d mk) r2 b2 l2) (n2 : r2 ≠ 14 ∧ r2 ≠ 15 ∧ b2 ≠ 14 ∧ b2 ≠ 15) (he : e ≤ l2.length) (hl : e ≤ 1390) (hz : w_at mk z w) (hS : S (w_t 1 [] [] [] (w :: w_sli l2 0 e))) (q : ∀ t X mm, w_mo S mk mm → c_bS S mm tl N U M → c_W X mm nn K tl cn cs → w_at mm t (w_t 1 [] [] [] (w :: w_sli l2 0 e)) → c_ch [14, 15] H X → P t X) : wm_186 11 z r2 e H P := by
  have ml := c_W_len lm (c_bS_0 hb hW.1.1)
  obtain ⟨p1, p2, p3, p4, p5⟩ := c_cr hW
  unfold wm_186
  rw [p2]
  refine ⟨p4, ?_⟩
  intro q1 e1
  rw [e1]
  refine c_W_clear hW (fun H2 W2 r2' f2 l15 => ?_)
  intro _
  obtain ⟨p1, p2, p3, p4, p5⟩ := c_cr W2
  rw [p2]
  refine ⟨p4, ?_⟩
  intro q9 e9
  rw [e9]
  refine c_s_term r2' (by rw [l15]; decide) (by omega) hz (fun H3 r3 f3 => ?_)
  intro _
  have f23 := c_fr_t f2 f3
  have W3 := c_W_row hW f23 r3
  obtain ⟨p1, p2, p3, p4, p5⟩ := c_cr W3
  rw [p2]
  refine ⟨p4, ?_⟩
  intro q17 e17
  rw [e17]
  have sg3 : c_sg H3 (w_d mk) r2 b2 l2 := c_sg_fr h2 f23 (by simp; omega) (by simp; omega) (by decide)
  refine c_s_putAll (i := 0) (j := e) r3 sg3 (fun cc => n2.2.2.2 cc.symm) (Nat.zero_le _) he (by rw [p5]; simp; omega) (fun H4 r4 f4 => ?_)
  intro _
  have f24 := c_fr_t f23 f4
  have W4 := c_W_row hW f24 r4
  obtain ⟨p1, p2, p3, p4, p5⟩ := c_cr W4
  rw [p1]
  refine ⟨p3, ?_⟩
  intro q25 e25
  rw [p2]
  refine ⟨p4, ?_⟩
  intro q28 e28
  rw [e25, e28]
  have sl := w_sli_len (i := 0) he
  refine c_hashS lm hb W4 r4 (by simp; omega) hS (fun X t mm m1 m2 WX aX cX => ?_)
  intro _ _
  exact q t X mm m1 m2 WX aX (c_ch_sub (c_ch_trans (c_V_ch hW.1 f24 (fun a ha => by simp at ha; unfold c_fix; omega)) cX) (by simp))
end
