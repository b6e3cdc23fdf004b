/-! ===== the class: add ===== -/
noncomputable section
section
variable {H G X Y W : sw_H} {P : Int → sw_H → Prop} {r ra nn : Nat} {l : List Int} {s a b c code cn cs : Int} {d : Nat → Wt}
theorem c_pt_lt (T : c_T H d nn) {k : Nat} (hk : c_Lk H k) : c_pt H k < k / 3 := by
  obtain ⟨k1, k2, k3⟩ := hk
  have v := (T.2.2.2.2.2.2.2.2.2.1 (k / 3) ⟨by omega, k2⟩).1
  have v3 := v.2.2.1
  have v4 := v.2.2.2.1
  have v5 := v.2.2.2.2.1
  have v6 := v.2.2.2.2.2.1
  have v7 := v.2.2.2.2.2.2.1
  have v9 := v.2.2.2.2.2.2.2.2.1
  clear v T
  have h : k % 3 = 0 ∨ k % 3 = 1 ∨ k % 3 = 2 := by omega
  unfold c_pt
  rcases h with h | h | h
  · rw [h]
    show (c_d H (k / 3) 1).toNat < k / 3
    omega
  · rw [h]
    show (c_d H (k / 3) 2).toNat < k / 3
    have := v9 (by omega)
    omega
  · rw [h]
    show (c_d H (k / 3) 3).toNat < k / 3
    omega
theorem c_UL_up {n : Nat} {L : Nat → Prop} {pt : Nat → Nat} (h : c_UL W n L pt) (h0 : c_d W (n + 1) 10 = 0) (hL : ∀ k, L k → pt k ≠ n + 1) : c_UL W (n + 1) L pt := by
  obtain ⟨ul, u⟩ := h
  refine ⟨fun p => if p = n + 1 then [] else ul p, fun p h1 h2 => ?_⟩
  dsimp only
  by_cases e : p = n + 1
  · rw [if_pos e, e]
    refine ⟨h0, fun k => ⟨fun hk => absurd hk (by simp), fun hk => absurd hk.2 (hL k hk.1)⟩⟩
  · rw [if_neg e]
    exact u p h1 (by omega)
/-- what add has made -/
def c_ad (H X : sw_H) (s a b c : Int) (l : List Int) : Prop := c_n X = c_n H + 1 ∧ sw_iv X 3 4 = sw_iv H 3 4 + l.length ∧ (∀ f, f ≠ 2 → f ≠ 4 → sw_iv X 3 f = sw_iv H 3 f) ∧ (∀ t k : Nat, (t : Int) ≤ c_n H → (k ≤ 6 ∨ k = 8 ∨ k = 9) → c_d X t k = c_d H t k) ∧ c_d X (c_n H + 1).toNat 0 = s ∧ c_d X (c_n H + 1).toNat 1 = a ∧ c_d X (c_n H + 1).toNat 2 = b ∧ c_d X (c_n H + 1).toNat 3 = c ∧ c_d X (c_n H + 1).toNat 8 = 0 ∧ ((c_d X (c_n H + 1).toNat 9 = 1 ∧ c_mk X (c_k X) (c_n H + 1).toNat) ∨ (c_d X (c_n H + 1).toNat 9 = 0 ∧ ¬ c_mk X (c_k X) (c_n H + 1).toNat)) ∧ sw_rv X 3 6 = sw_rv H 3 6 ∧ (∀ j, sw_iv X (sw_rv H 3 6) j = sw_iv H (sw_rv H 3 6) j) ∧ sw_ln X (sw_rv H 3 6) = sw_ln H (sw_rv H 3 6)
theorem c_wrfin (qb : c_qb G cn cs (c_n G + 2) (sw_iv G 3 4 + l.length) (sw_iv G 3 7)) (TG : c_T G d nn) (Z : c_Z G) (F : c_F G) (h4 : ¬ c_ow G 4) (h5 : ¬ c_ow G 5) (U : c_U G) (h01 : c_01 G) (v : c_va G (c_n G) s a b c) (hv : ∀ x ∈ l, m_vs (c_n G) x) (hl0 : s = 0 → l = []) (hcode : s ≠ 0 → code = c_code s a b c l) (hno : s ≠ 0 → ∀ t, c_R G t → ¬ c_ct G s a b c l t) (h1 : 14 * (c_n G + 2) ≤ sw_ln G (sw_rv G 3 1)) (h2 : sw_iv G 3 4 + l.length ≤ sw_ln G (sw_rv G 3 3)) (m1 : sw_n G < sxlim.1) (m2 : (sw_ln G (sw_rv G 3 5) : Int) < c_n G + 1 → sw_s G + 2 * sw_ln G (sw_rv G 3 5) ≤ sxlim.2) (m3 : 2 * sw_ln G (sw_rv G 3 5) ≤ 67108864) (w : c_wr G W s a b c code l) (k : ∀ X, c_T X (w_up d (c_n G + 1).toNat (w_new d nn s a b c l)) (if s = 0 then nn + 1 else nn) → c_Z X → c_F X → c_ft G X → c_U X → c_01 X → c_q X cn cs → c_ad G X s a b c l → P (c_n G + 1) X) : wm_335 3 (c_n G + 1) 0 a W (fun H144 => sw_ext W H144 → (s = 4 → wb_251_141 P 3 b c (c_n G + 1) ((c_n G + 1) * 14) H144) ∧ (s ≠ 4 → (s ≠ 6 → wb_251_151 P 3 (c_n G + 1) ((c_n G + 1) * 14) H144) ∧ (s = 6 → wb_251_141 P 3 b c (c_n G + 1) ((c_n G + 1) * 14) H144))) := by
  have TG' := TG
  obtain ⟨S, D, t1, t2, t3, t4, t5, ⟨p, p1, p2, hp⟩, t7, t8, t9, ⟨ch, ch1, ch2, ch3⟩⟩ := TG'
  obtain ⟨w1, w2, w3, w4, w5, x0, x1, x2, x3, x4, x5, x6, w13, w14⟩ := w
  have D' := D
  obtain ⟨d1, d2, d3, d4, d5, d6, d7, d8, d9, d10⟩ := D'
  have va1 := v.1
  have va2 := v.2.1
  have a0 := v.2.2.1
  have aN := v.2.2.2.1
  have c0 := v.2.2.2.2.1
  have cN := v.2.2.2.2.2.1
  have b0 := v.2.2.2.2.2.2.1
  have bN := v.2.2.2.2.2.2.2.2.1
  have p26 : p ≤ 26 := by
    refine Nat.le_of_not_lt (fun hlt => ?_)
    have : 2 ^ 26 ≤ 2 ^ p := Nat.pow_le_pow_right (by decide) (by omega)
    have e : (2 : Nat) ^ 26 = 67108864 := by decide
    omega
  have hT : c_n G + 1 = (((c_n G + 1).toNat : Nat) : Int) := by omega
  generalize hTT : (c_n G + 1).toNat = T at *
  rw [show (c_n G + 1) * 14 = 14 * (T : Int) by omega, hT]
  have T1 : 1 ≤ T := by omega
  have n31 : (3 : Nat) ≠ sw_rv G 3 1 := fun e => by
    have h1 := S.1
    rw [e, S.2.1] at h1
    cases h1
  have n33 : (3 : Nat) ≠ sw_rv G 3 3 := fun e => by
    have h1 := S.1
    rw [e, S.2.2.1] at h1
    cases h1
  have n35 : (3 : Nat) ≠ sw_rv G 3 5 := fun e => by
    have h1 := S.1
    rw [e, S.2.2.2.1] at h1
    cases h1
  have n36 : (3 : Nat) ≠ sw_rv G 3 6 := fun e => by
    have h1 := S.1
    rw [e, S.2.2.2.2.1] at h1
    cases h1
  have n4W : 4 ∉ [3, sw_rv G 3 1, sw_rv G 3 3] := by
    simp
    exact ⟨fun e => h4 (Or.inr (Or.inl e)), fun e => h4 (Or.inr (Or.inr (Or.inl e)))⟩
  have n5W : 5 ∉ [3, sw_rv G 3 1, sw_rv G 3 3] := by
    simp
    exact ⟨fun e => h5 (Or.inr (Or.inl e)), fun e => h5 (Or.inr (Or.inr (Or.inl e)))⟩
  obtain ⟨SW, DW⟩ := c_fr_S w1 S D n4W n5W
  have rW : ∀ f, sw_rv W 3 f = sw_rv G 3 f := w1.2.2.2.2.1 3
  have lW : ∀ q, sw_ln W q = sw_ln G q := w1.2.2.2.1
  have FW := c_fr_F w1 F
  have ftW : c_ft G W := c_fr_ft w1 (fun q hq => by
    simp at hq
    unfold c_ow
    rcases hq with e | e | e
    · exact Or.inl e
    · exact Or.inr (Or.inl e)
    · exact Or.inr (Or.inr (Or.inl e)))
  have h4W : ¬ c_ow W 4 := fun h => h4 ((c_fr_ow w1 4).mp h)
  have h5W : ¬ c_ow W 5 := fun h => h5 ((c_fr_ow w1 5).mp h)
  have dW : ∀ t k : Nat, t < T → k ≤ 13 → c_d W t k = c_d G t k := fun t k ht hk => by
    unfold c_d
    rw [rW, w5 _ (Or.inl (by omega))]
  have zG : ∀ k : Nat, 7 ≤ k → k ≤ 13 → c_d W T k = 0 := fun k k1 k2 => by
    unfold c_d
    rw [rW, w5 _ (Or.inr (by omega))]
    exact Z _ (by omega) (Or.inl (by omega))
  -- the lists of users
  have UW : c_UL W T (c_Lk G) (c_pt W) := by
    have nT : T = (c_n G).toNat + 1 := by omega
    have lk : ∀ k, c_Lk G k → k / 3 < T := fun k hk => by have := hk.2.1; omega
    have q : c_UL W (c_n G).toNat (c_Lk G) (c_pt W) := c_UL_cg U (fun p _ hp => dW p 10 (by omega) (by decide)) (fun k hk => dW _ _ (lk k hk) (by omega)) (fun _ => Iff.rfl) (fun k hk => by
      unfold c_pt
      rw [dW _ _ (lk k hk) (by omega)])
    have q2 := c_UL_up q (by rw [← nT]; exact zG 10 (by decide) (by decide)) (fun k hk => by
      have e : c_pt W k = c_pt G k := by
        unfold c_pt
        rw [dW _ _ (lk k hk) (by omega)]
      have := c_pt_lt TG hk
      have := lk k hk
      omega)
    rw [← nT] at q2
    exact q2
  have eT : ∀ i, i ≤ 2 → (3 * T + i) / 3 = T ∧ (3 * T + i) % 3 = i := fun i hi => by omega
  have pts : ∀ i, i ≤ 2 → c_pt W (3 * T + i) = (c_d W T (1 + i)).toNat := fun i hi => by
    unfold c_pt
    rw [(eT i hi).1, (eT i hi).2]
  refine c_links SW DW h4W h5W (by rw [rW, lW]; omega) T1 a0 (by omega) b0 (fun h => by have := bN (by omega); omega) c0 (by omega) UW (fun k hk => by have := hk.2.1; omega) ((pts 0 (by decide)).trans (by rw [x1])) ((pts 1 (by decide)).trans (by rw [x2])) ((pts 2 (by decide)).trans (by rw [x3])) (fun Y ly UY => ?_)
  obtain ⟨ly1, ly2⟩ := ly
  have rY : ∀ f, sw_rv Y 3 f = sw_rv G 3 f := fun f => (ly1.2.2.2.2.1 3 f).trans (rW f)
  have lY : ∀ q, sw_ln Y q = sw_ln G q := fun q => (ly1.2.2.2.1 q).trans (lW q)
  rw [rW] at ly1 ly2
  obtain ⟨SY, DY⟩ := c_fr_S ly1 SW DW (by simp; exact fun e => h4 (Or.inr (Or.inl e))) (by simp; exact fun e => h5 (Or.inr (Or.inl e)))
  have FY := c_fr_F ly1 FW
  have ftY : c_ft G Y := c_ft_trans ftW (c_fr_ft ly1 (fun q hq => by
    simp at hq
    unfold c_ow
    rw [rW]
    exact Or.inr (Or.inl hq)))
  have h4Y : ¬ c_ow Y 4 := fun h => h4W ((c_fr_ow ly1 4).mp h)
  have h5Y : ¬ c_ow Y 5 := fun h => h5W ((c_fr_ow ly1 5).mp h)
  have dY : ∀ t k : Nat, k < 10 → c_d Y t k = c_d W t k := fun t k hk => by
    unfold c_d
    rw [rY, rW, ly2 _ (Or.inl (by omega))]
  have iY : ∀ q, q ≠ sw_rv G 3 1 → sw_iv Y q = sw_iv W q := fun q hq => ly1.2.2.2.2.2 q (by simp; exact hq)
  have i3 : ∀ f, sw_iv Y 3 f = sw_iv W 3 f := fun f => by rw [iY 3 n31]
  have nY : c_n Y = T := by
    have : c_n Y = c_n W := i3 2
    omega
  have h01Y : c_01 Y := fun t ht => by
    rw [dY t 9 (by decide)]
    by_cases ct : t = T
    · rw [ct, zG 9 (by decide) (by decide)]
      exact Or.inl rfl
    · rw [dW t 9 (by omega) (by decide)]
      exact h01 t (by omega)
  have y0 : c_d Y T 0 = s := (dY T 0 (by decide)).trans x0
  have y1 : c_d Y T 1 = a := (dY T 1 (by decide)).trans x1
  have y2 : c_d Y T 2 = b := (dY T 2 (by decide)).trans x2
  have y3 : c_d Y T 3 = c := (dY T 3 (by decide)).trans x3
  have cY : c_CH Y T := by
    refine c_CH_cg (Y := G) (rY 5) (by rw [rY, lY]) (fun j => ?_) (fun t k k1 k2 k3 => ?_) ⟨ch, ch1, fun b t ht => ?_, fun t k1 k2 k3 => ch3 t ⟨k1, by omega⟩ k3⟩
    · rw [iY _ (fun e => d2 e.symm), w1.2.2.2.2.2 _ (by simp; exact ⟨fun e => n35 e.symm, fun e => d2 e.symm, fun e => d5 e.symm⟩)]
    · rw [dY t k (by omega), dW t k k2 (by omega)]
    · have := ch2 b t ht
      exact ⟨this.1, by have := this.2; omega⟩
  have qY : c_qb Y cn cs (T + 1) (sw_iv G 3 4 + l.length) (sw_iv G 3 7) := by
    unfold c_qb
    simp only [rY, lY, ly1.1, ly1.2.1, w1.1, w1.2.1]
    rw [show (T : Int) + 1 = c_n G + 2 by omega]
    exact qb
  have fin : ∀ z : Int, ((z = 1 ∧ c_mk Y (c_k Y) T) ∨ (z = 0 ∧ ¬ c_mk Y (c_k Y) T)) → wb_251_163 P 3 T z (14 * T + 9) (sw_rv Y 3 1) Y := by
    intro z hz
    refine c_tail SY DY h4Y h5Y FY p1 p26 (by rw [rY, lY]; exact hp) nY (by rw [rY, lY]; omega) T1 (by rw [rY, lY]; omega) cY (by rw [ly1.1, w1.1]; exact m1) (fun c => by rw [ly1.2.1, w1.2.1, rY, lY]; rw [rY, lY] at c; exact m2 (by omega)) (by rw [rY, lY]; exact m3) qY (fun X tl qX => ?_)
    obtain ⟨SX, DX, FX, ftX, rX, iX3, dX, sX, nX, cX, pX, lX5⟩ := tl
    have lnX : ∀ f, f = 1 ∨ f = 3 ∨ f = 6 ∨ f = 8 → sw_ln X (sw_rv X 3 f) = sw_ln G (sw_rv G 3 f) := fun f hf => by
      have ty : sw_ty Y (sw_rv Y 3 f) ≠ 0 := by
        rcases hf with e | e | e | e
        · rw [e, SY.2.1]; decide
        · rw [e, SY.2.2.1]; decide
        · rw [e, SY.2.2.2.2.1]; decide
        · rw [e, SY.2.2.2.2.2.1]; decide
      rw [rX f (by omega), (ftX.1.2 _ ty).2, rY, lY]
    have rX1 : sw_rv X 3 1 = sw_rv G 3 1 := (rX 1 (by decide)).trans (rY 1)
    have rX3 : sw_rv X 3 3 = sw_rv G 3 3 := (rX 3 (by decide)).trans (rY 3)
    have rX6 : sw_rv X 3 6 = sw_rv G 3 6 := (rX 6 (by decide)).trans (rY 6)
    rw [rY] at dX sX nX
    have dXY : ∀ t k : Nat, k ≤ 13 → k ≠ 7 → (t ≠ T ∨ k ≠ 9) → c_d X t k = c_d Y t k := fun t k h1 h2 h3 => by
      unfold c_d
      rw [rX1, rY, dX _ (Or.inl (by omega)), if_neg (by omega)]
    have dT9 : c_d X T 9 = z := by
      unfold c_d
      rw [rX1, dX _ (Or.inl (by omega)), if_pos rfl]
    have i3X : ∀ f, sw_iv X 3 f = sw_iv W 3 f := fun f => (iX3 f).trans (i3 f)
    have cnX : c_n X = c_n G + 1 := by
      have : c_n X = c_n W := i3X 2
      omega
    have u4 : sw_iv X 3 4 = sw_iv G 3 4 + l.length := by rw [i3X]; exact w3
    have hdX : ∀ t k : Nat, (t : Int) ≤ c_n G → k ≤ 13 → k ≠ 7 → k < 10 → c_d X t k = c_d G t k := fun t k ht k1 k2 k3 => by
      rw [dXY t k k1 k2 (Or.inl (by omega)), dY t k k3, dW t k (by omega) k1]
    have nT : ∀ k : Nat, k < 7 → c_d X T k = c_d W T k := fun k hk => by rw [dXY T k (by omega) (by omega) (by omega), dY T k (by omega)]
    have sgX : ∀ j, sw_iv X (sw_rv X 3 3) j = sw_iv W (sw_rv G 3 3) j := fun j => by
      rw [rX3, sX, iY _ (fun e => d1 e.symm)]
    have mkX : c_mk X (c_k X) T ↔ c_mk Y (c_k Y) T := by
      have kk : ∀ x : Int, x < T → 0 ≤ x → (c_k X x.toNat ↔ c_k Y x.toNat) := fun x hx h0 => by
        unfold c_k
        rw [dXY x.toNat 9 (by decide) (by decide) (Or.inl (by omega))]
      refine c_mk_cg (fun k hk => dXY T k (by omega) (by omega) (Or.inr (by omega))) ?_ (fun h => ?_) ?_
      · rw [y1]; exact kk a (by omega) a0
      · rw [y0] at h
        rw [y2]; exact kk b (by have := bN (by omega); omega) b0
      · rw [y3]; exact kk c (by omega) c0
    have UX : c_U X := by
      have e : (c_n X).toNat = T := by omega
      unfold c_U
      rw [e]
      refine c_UL_cg UY (fun p _ _ => dXY p 10 (by decide) (by decide) (Or.inr (by decide))) (fun k _ => dXY _ _ (by omega) (by omega) (Or.inr (by omega))) (fun k => ?_) (fun k _ => ?_)
      · unfold c_Lk
        have hk : k = 3 * (k / 3) + k % 3 := by omega
        have hk2 : k % 3 = 0 ∨ k % 3 = 1 ∨ k % 3 = 2 := by omega
        by_cases ck : k / 3 = T
        · rw [ck, nT 0 (by decide), x0]
          constructor
          · rintro ⟨g1, g2, g3⟩
            by_cases e0 : k % 3 = 0
            · exact Or.inr (Or.inl (by omega))
            · exact Or.inr (Or.inr ⟨by omega, by omega⟩)
          · intro g
            refine ⟨by omega, by omega, ?_⟩
            rcases g with g | g | g
            · have := g.2.1
              omega
            · exact Or.inl (by omega)
            · exact Or.inr g.1
        · by_cases ck2 : k / 3 < T
          · rw [hdX (k / 3) 0 (by omega) (by decide) (by decide) (by decide)]
            constructor
            · rintro ⟨g1, g2, g3⟩
              exact Or.inl ⟨g1, by omega, g3⟩
            · rintro (⟨g1, g2, g3⟩ | g | g)
              · exact ⟨g1, by omega, g3⟩
              · omega
              · omega
          · constructor
            · rintro ⟨g1, g2, g3⟩
              omega
            · rintro (⟨g1, g2, g3⟩ | g | g) <;> omega
      · unfold c_pt
        rw [dXY _ _ (by omega) (by omega) (Or.inr (by omega)), dY _ _ (by omega)]
    have cTX : c_T X (w_up d T (w_new d nn s a b c l)) (if s = 0 then nn + 1 else nn) := by
      rw [← hTT]
      rw [← hTT] at x0 x1 x2 x3 x4 x5 x6 nT cX
      refine c_T_new TG SX DX cnX u4 (fun t k ht hk => hdX t k ht (by omega) (by omega) (by omega)) ((nT 0 (by decide)).trans x0) ((nT 1 (by decide)).trans x1) ((nT 2 (by decide)).trans x2) ((nT 3 (by decide)).trans x3) ((nT 4 (by decide)).trans x4) ((nT 5 (by decide)).trans x5) ((nT 6 (by decide)).trans x6) (fun j hj => by rw [sgX]; exact w13 j hj) ?_ ?_ ?_ ?_ pX ?_ cX v hv hl0 hcode hno
      · rw [show sw_iv X (sw_rv X 3 3) = sw_iv W (sw_rv G 3 3) from funext sgX]
        exact w14
      · rw [lnX 1 (by omega)]; omega
      · rw [lnX 3 (by omega)]; omega
      · omega
      · rw [lnX 1 (by omega), lnX 8 (by omega)]; exact t7
    refine (show (T : Int) = c_n G + 1 by omega) ▸ k X cTX ?_ FX (c_ft_trans ftY ftX) UX ?_ ?_ ?_
    · intro j hj hz
      rw [lnX 1 (by omega)] at hj
      rw [rX1, dX j (by omega), if_neg (by omega), ly2 j (by omega), w5 j (by omega)]
      exact Z j hj (by omega)
    · intro t ht
      by_cases ct : t = T
      · rw [ct, dT9]
        rcases hz with h | h
        · exact Or.inr h.1
        · exact Or.inl h.1
      · rw [hdX t 9 (by omega) (by decide) (by decide) (by decide)]
        exact h01 t (by omega)
    · unfold c_q
      rw [u4, i3X, w4 7 (by decide) (by decide), cnX, show c_n G + 1 + 1 = (T : Int) + 1 by omega]
      exact qX
    · unfold c_ad
      rw [hTT]
      refine ⟨cnX, u4, fun f f1 f2 => by rw [i3X]; exact w4 f f1 f2, fun t k ht hk => hdX t k ht (by omega) (by omega) (by omega), (nT 0 (by decide)).trans x0, (nT 1 (by decide)).trans x1, (nT 2 (by decide)).trans x2, (nT 3 (by decide)).trans x3, ?_, ?_, rX6, fun j => ?_, ?_⟩
      · rw [dXY T 8 (by decide) (by decide) (Or.inr (by decide)), dY T 8 (by decide)]
        exact zG 8 (by decide) (by decide)
      · rw [dT9, mkX]
        exact hz
      · rw [nX, iY _ (fun e => d3 e.symm), w1.2.2.2.2.2 _ (by simp; exact ⟨fun e => n36 e.symm, fun e => d3 e.symm, fun e => d6 e.symm⟩)]
      · rw [← lnX 6 (by omega), rX6]
  have dl := S.2.2.2.2.2.2.1
  unfold wb_251_151
  refine ⟨SY.2.1, ?_⟩
  intro q46 e46
  rw [e46]
  clear e46 q46
  have e9 : sw_w (14 * (T : Int) + 9) = 14 * T + 9 := sw_w_s (by omega) (by omega)
  refine c_canMake SY h01Y (by omega) (by rw [rY, lY, nY]; omega) (by rw [y0]; exact va1) (by rw [y0]; exact va2) (by rw [y1]; exact a0) (by rw [y1, nY]; omega) (by rw [y2]; exact b0) (fun h => by rw [y0] at h; rw [y2, nY]; have := bN (by omega); omega) (by rw [y3]; exact c0) (by rw [y3, nY]; omega) (fun hm => ?_) (fun hm => ?_)
  · intro _ _
    refine ⟨fun h => absurd h (by decide), fun _ => ?_⟩
    rw [e9]
    exact fin 1 (Or.inl ⟨rfl, hm⟩)
  · intro _ _
    refine ⟨fun _ => ?_, fun h => absurd rfl h⟩
    rw [e9]
    exact fin 0 (Or.inr ⟨rfl, hm⟩)
end
end
