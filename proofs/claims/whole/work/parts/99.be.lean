/-! ===== the class: a node written ===== -/
noncomputable section
theorem sw_and_le {a : Nat} (ha : a < 2147483648) (b : Int) : ∃ n : Nat, n ≤ a ∧ sw_and (a : Int) b = (n : Int) := by
  refine ⟨Nat.land a (b % 4294967296).toNat, Nat.and_le_left, ?_⟩
  unfold sw_and
  have h1 : (Int32.ofInt (a : Int) &&& Int32.ofInt b).toInt = ((Int32.ofInt (a : Int)).toBitVec &&& (Int32.ofInt b).toBitVec).toInt := rfl
  have h2 : ((Int32.ofInt (a : Int)).toBitVec &&& (Int32.ofInt b).toBitVec).toNat = Nat.land a (b % 4294967296).toNat := by
    rw [BitVec.toNat_and, sw_nat, sw_nat]
    rw [show ((a : Int) % 4294967296).toNat = a by omega]
    rfl
  have h3 : Nat.land a (b % 4294967296).toNat ≤ a := Nat.and_le_left
  rw [h1, sw_i_nat (by rw [h2]; omega), h2]
def w_sl (z : Int) (k : Nat) : List Wt := (List.range k).flatMap (fun i => if w_bit z i = 1 then w_b16 i else [])
theorem w_sl_s (z : Int) (k : Nat) : w_sl z (k + 1) = w_sl z k ++ (if w_bit z k = 1 then w_b16 k else []) := by
  unfold w_sl
  rw [List.range_succ, List.flatMap_append]
  simp
theorem w_sl_len (z : Int) : ∀ k : Nat, (w_sl z k).length ≤ 2 * k
  | 0 => by unfold w_sl; simp
  | k + 1 => by
    have ih := w_sl_len z k
    rw [w_sl_s, List.length_append]
    have : ((if w_bit z k = 1 then w_b16 k else []) : List Wt).length ≤ 2 := by split <;> simp [w_b16]
    omega
theorem w_set_sl (z : Int) : w_set z = w_b16 (2 * w_ones z) ++ w_sl z 16 := rfl
theorem w_i31 {n : Nat} (h : n < 31) : ((n : Nat) : Int) < ((31 : Nat) : Int) := by omega
theorem w_s31 {y p : Nat} (h : y + p < 31) : ((y - p : Nat) : Int) < ((31 : Nat) : Int) := by omega
section
variable {H G X Y : sw_H} {d e f : Nat → Wt} {nn r ra : Nat} {K : Wt → Prop} {tl mk mm l : List Wt} {s a b c x cn cs N U M wo : Int} {Q : sw_H → Prop} {P : Int → sw_H → Prop} {A B : List Nat} {w wa wb : Wt} {T : w_T}
theorem c_set_l {z : Int} (hz : sw_c z) (hc : l.length + 40 ≤ sw_ln H ra) (q : ∀ G, c_rr G mk r ra (l ++ w_sl z 16) → c_fr [r, ra] H G → Q G) : ∀ (n k : Nat) {G : sw_H}, k ≤ 16 → 16 - k < n → c_fr [r, ra] H G → c_rr G mk r ra (l ++ w_sl z k) → wl_363_40 Q n r z k G
  | 0, _, _, _, h, _, _ => by omega
  | n + 1, k, G, hk, hn, fr, row => by
    have ln := w_sl_len z k
    have lG := fr.2.2.2.1 ra
    unfold wl_363_40
    refine ⟨fun c => ?_, fun c => ⟨fun c1 => ?_, fun c1 => ?_⟩⟩
    · have e : k = 16 := by omega
      rw [e] at row
      exact q G row fr
    · rw [sw_bit hz (by omega)] at c1
      unfold wb_363_52
      intro y33 e33
      rw [sw_w_s (by omega) (by omega)] at e33
      rw [e33, show (k : Int) + 1 = ((k + 1 : Nat) : Int) by omega]
      refine c_set_l hz hc q n (k + 1) (by omega) (by omega) fr ?_
      rw [w_sl_s, if_neg (by omega), List.append_nil]
      exact row
    · rw [sw_bit hz (by omega)] at c1
      have b := w_bit_01 z k
      refine c_s_b16 row (by rw [List.length_append, lG]; omega) (fun J r f _ => ?_)
      unfold wb_363_52
      intro y33 e33
      rw [sw_w_s (by omega) (by omega)] at e33
      rw [e33, show (k : Int) + 1 = ((k + 1 : Nat) : Int) by omega]
      refine c_set_l hz hc q n (k + 1) (by omega) (by omega) (c_fr_t fr f) ?_
      rw [w_sl_s, if_pos (by omega), ← List.append_assoc]
      exact r
theorem c_writeParent {p y : Nat} (hL : c_L H mk nn K tl) (hm : mk.length ≤ 999999999) (h : c_rr H mk r ra l) (hc : l.length + 50 ≤ sw_ln H ra) (ht : c_tr H mk p T) (hy : y < t_w T) (hk : t_ky T y ≠ []) (np : ∀ i, i ≤ 3 → p + i ≠ r ∧ p + i ≠ ra) (q : ∀ G, c_rr G mk r ra (l ++ [t_ky T y, w_pb (t_ph T y)] ++ w_set (sw_and (t_um T y) (sw_xor wo (-1)))) → c_fr [r, ra] H G → Q G) : wm_363 p r y wo H Q := by
  obtain ⟨ts, tok, h3, h4, h5, h6⟩ := ht
  obtain ⟨t1, t2, t3, t4, t5, t6, t7, t8, t9, t10, t11⟩ := ts
  have w31 := t_w31 tok.1
  obtain ⟨k1, k2, k3⟩ := h4 y hy
  have um := tok.2.1 y hy
  have pv : ∀ G, c_fr [r, ra] H G → ∀ i, i ≤ 3 → sw_iv G (p + i) = sw_iv H (p + i) := fun G f i hi => f.2.2.2.2.2 (p + i) (by simp; exact np i hi)
  have ln : ∀ G, c_fr [r, ra] H G → sw_ln G ra = sw_ln H ra := fun G f => f.2.2.2.1 ra
  unfold wm_363
  rw [t6, t4]
  refine ⟨(t8 3 (by omega) (by omega)).1, ?_⟩
  intro q30 e30
  rw [e30]
  refine ⟨by omega, by rw [(t8 3 (by omega) (by omega)).2]; omega, ?_⟩
  intro v33 e33 _ y36 e36
  rw [Int.toNat_natCast, k3] at e33
  rw [e33] at e36
  refine ⟨(t8 1 (by omega) (by omega)).1, ?_⟩
  intro q40 e40
  rw [e40]
  refine ⟨by omega, by rw [(t8 1 (by omega) (by omega)).2]; omega, ?_⟩
  intro v43 e43 _
  rw [Int.toNat_natCast] at e43
  subst e43
  refine c_s_term h (by omega) (by omega) (w_az_ne k1 hk) (fun H1 r1 f1 _ => ?_)
  have rv1 : sw_rv H1 p 2 = p + 2 := by rw [f1.2.2.2.2.1]; exact t5
  have ty1 : sw_ty H1 (p + 2) = 1 := by rw [f1.2.2.1]; exact (t8 2 (by omega) (by omega)).1
  have ln1 : sw_ln H1 (p + 2) = 31 := by rw [f1.2.2.2.1]; exact (t8 2 (by omega) (by omega)).2
  rw [rv1]
  refine ⟨ty1, ?_⟩
  intro q51 e51
  rw [e51]
  refine ⟨by omega, by rw [ln1]; omega, ?_⟩
  intro v54 e54 _
  rw [Int.toNat_natCast, pv H1 f1 2 (by omega)] at e54
  have go : ∀ u, m_vs mk.length u ∧ w_sg (w_d mk) u = w_pb (t_ph T y) → wb_363_31 Q r y36 u r H1 := by
    intro u hu
    unfold wb_363_31
    refine c_s_put r1 (by rw [ln H1 f1]; simp; omega) hu (fun H2 r2 f2 _ => ?_)
    have f12 := c_fr_t f1 f2
    obtain ⟨umn, eum⟩ : ∃ n : Nat, t_um T y = n := ⟨(t_um T y).toNat, by omega⟩
    obtain ⟨z, hz, ez⟩ := sw_and_le (a := umn) (by omega) (sw_xor wo (-1))
    have e36' : y36 = (z : Int) := by rw [e36, eum, ez]
    rw [e36']
    refine c_bitCount (by omega) (fun _ _ => ?_)
    have ob := w_ones_b z
    rw [sw_w_s (by omega) (by omega)]
    refine c_s_b16 r2 (by rw [ln H2 f12]; simp; omega) (fun H3 r3 f3 _ => ?_)
    have f13 := c_fr_t f12 f3
    refine ⟨17, c_set_l (H := H3) (l := l ++ [t_ky T y] ++ [w_pb (t_ph T y)] ++ w_b16 (2 * w_ones z)) (by unfold sw_c; omega) (by rw [ln H3 f13]; simp [w_b16]; omega) (fun G rG fG => ?_) 17 0 (by omega) (by omega) (c_fr_refl _ _) (by
      rw [show w_sl (z : Int) 0 = [] from rfl, List.append_nil]
      exact r3)⟩
    refine q G ?_ (c_fr_t f13 fG)
    rw [eum, ez, w_set_sl]
    have : l ++ [t_ky T y] ++ [w_pb (t_ph T y)] ++ w_b16 (2 * w_ones z) ++ w_sl z 16 = l ++ [t_ky T y, w_pb (t_ph T y)] ++ (w_b16 (2 * w_ones z) ++ w_sl z 16) := by simp
    rw [← this]
    exact rG
  refine ⟨fun c0 => ⟨ty1, ?_⟩, fun c0 => go 0 ?_⟩
  · intro q57 e57
    rw [e57]
    refine ⟨by omega, by rw [ln1]; omega, ?_⟩
    intro v60 e60 _
    rw [Int.toNat_natCast, pv H1 f1 2 (by omega)] at e60
    have pb := w_az_le k2
    rw [sw_w_s (by omega) (by omega)]
    refine go _ ?_
    rcases k2 with ⟨g, _⟩ | g
    · rw [← e54] at g; exact absurd g c0
    · have := w_sg_term g
      rw [e60]
      refine ⟨this.1, ?_⟩
      rw [this.2]
      unfold w_pb
      rw [if_neg (c_at_ne hL g)]
  · have := w_sg_byte (mk := mk) (x := 0) (by omega) (by omega)
    refine ⟨this.1, ?_⟩
    rw [this.2]
    unfold w_pb
    rcases k2 with ⟨g, g2⟩ | g
    · rw [if_pos g2]
    · have := w_at_le g
      omega
/-- writeNode -/
theorem c_writeNode {p y : Nat} (hW : c_W H mk nn K tl cn cs) (hm : mk.length ≤ 999999999) (ht : c_tr H mk p T) (hy : y < t_w T) (hwo : sw_c wo) {hl hr : Wt} (kids : w_h y ≠ 0 → w_at mk (sw_iv H 16 (y - 2 ^ (w_h y - 1))) hl ∧ w_at mk (sw_iv H 16 (y + 2 ^ (w_h y - 1))) hr) (q : ∀ G, c_W G mk nn K tl cn cs → c_rr G mk 14 15 (w_nr T wo (w_h y) y hl hr) → (w_nr T wo (w_h y) y hl hr).length ≤ 100 → c_fr [14, 15] H G → Q G) : wm_341 11 p y (w_h y) wo H Q := by
  have ht' := ht
  obtain ⟨ts, tok, h3, h4, h5, h6⟩ := ht
  obtain ⟨t1, t2, t3, t4, t5, t6, t7, t8, t9, t10, t11⟩ := ts
  have w31 := t_w31 tok.1
  have hC := hW.2.1
  obtain ⟨s0, hrow⟩ := hW.2.2
  have rv3 := hC.2.2.2.2.1
  have rv4 := hC.2.2.2.2.2.1
  have ty14 := hrow.1
  have h4y := h4 y hy
  have fl := hW.1.2.2.2.1
  have ad := hW.1.2.2.2.2
  have base : ∀ G, c_fr [14, 15] H G → sw_rv G 11 3 = 14 ∧ sw_ty G 14 = 80 ∧ sw_rv G 11 4 = 16 ∧ sw_ty G 16 = 1 ∧ sw_ln G 16 = 31 ∧ sw_iv G 16 = sw_iv H 16 ∧ sw_ln G 15 = 1400 ∧ sw_rv G p 1 = p + 1 ∧ sw_ty G (p + 1) = 1 ∧ sw_ln G (p + 1) = 31 ∧ sw_iv G (p + 1) = sw_iv H (p + 1) := fun G f => ⟨by rw [f.2.2.2.2.1]; exact rv3, by rw [f.2.2.1]; exact ty14, by rw [f.2.2.2.2.1]; exact rv4, by rw [f.2.2.1]; exact hC.2.2.2.2.2.2.2.2.2.2.1.1, by rw [f.2.2.2.1]; exact hC.2.2.2.2.2.2.2.2.2.2.1.2, f.2.2.2.2.2 16 (by simp), by rw [f.2.2.2.1]; exact hC.2.2.2.2.2.2.2.2.2.1, by rw [f.2.2.2.2.1]; exact t4, by rw [f.2.2.1]; exact (t8 1 (by omega) (by omega)).1, by rw [f.2.2.2.1]; exact (t8 1 (by omega) (by omega)).2, f.2.2.2.2.2 (p + 1) (by simp; omega)⟩
  have hA : ∀ a ∈ [14, 15], c_fix a := fun a ha => by simp at ha; unfold c_fix; omega
  have trG : ∀ G, c_fr [14, 15] H G → c_tr G mk p T := fun G f => c_tr_ch ht' fl ad (c_V_ch hW.1 f hA) (fun a ha => by simp at ha; omega) (w_le_refl _)
  unfold wm_341
  rw [rv3]
  refine ⟨ty14, ?_⟩
  intro q92 e92
  rw [e92]
  refine c_W_clear hW (fun H1 W1 r1 f1 l15 _ => ?_)
  obtain ⟨b1, b2, b3, b4, b5, b6, b7, b8, b9, b10, b11⟩ := base H1 f1
  refine ⟨fun c0 => ?_, fun c0 => ?_⟩
  · have h0 : w_h y ≠ 0 := by omega
    obtain ⟨kl, kr⟩ := kids h0
    have h4' := w_h_4 y
    have pp : 0 < 2 ^ w_h y := Nat.two_pow_pos _
    have kk := (w_kids ⟨y, by omega⟩ ⟨y, by omega⟩ ⟨by show y + 1 ≤ y + 2 ^ w_h y; omega, by show y < y + 2 ^ w_h y; omega⟩).2 h0
    have z1 : 2 ^ (w_h y - 1) ≤ y := kk.1
    have z2 : y + 2 ^ (w_h y - 1) < 31 := kk.2.1
    clear kk
    have sh : sw_shl 1 (sw_w ((w_h y : Int) - 1)) = ((2 ^ (w_h y - 1) : Nat) : Int) := by
      have key : ∀ k : Fin 5, k.val ≠ 0 → sw_shl 1 (sw_w ((k.val : Int) - 1)) = ((2 ^ (k.val - 1) : Nat) : Int) := by decide +kernel
      exact key ⟨w_h y, by omega⟩ h0
    obtain ⟨pw, epw⟩ : ∃ pw, pw = 2 ^ (w_h y - 1) := ⟨_, rfl⟩
    rw [← epw] at kl kr z1 z2 sh
    clear epw pp kids
    have sm : sw_w ((y : Int) - (pw : Int)) = ((y - pw : Nat) : Int) ∧ sw_w ((y : Int) + (pw : Int)) = ((y + pw : Nat) : Int) := by
      rw [sw_w_s (by omega) (by omega), sw_w_s (by omega) (by omega)]
      omega
    unfold w_nr at q
    rw [if_neg h0] at q
    -- the two hashes
    have tail : ∀ H5 l5, c_W H5 mk nn K tl cn cs → c_rr H5 mk 14 15 l5 → l5.length ≤ 90 → c_fr [14, 15] H H5 → (l5 ++ [hl, hr] = w_by 2 :: (if t_ky T y = [] then [w_by 0] else w_by 1 :: t_ky T y :: w_pb (t_ph T y) :: w_set (sw_and (t_um T y) (sw_xor wo (-1)))) ++ [hl, hr]) → wb_341_77 Q 11 y (w_h y) H5 := by
      intro H5 l5 W5 r5 h5 f5 e5
      obtain ⟨g1, g2, g3, g4, g5, g6, g7, g8, g9, g10, g11⟩ := base H5 f5
      unfold wb_341_77
      rw [g1, g3, sh, sm.1, sm.2]
      clear sh sm
      refine ⟨g2, ?_⟩
      intro q1 e1
      refine ⟨g4, ?_⟩
      intro q4 e4
      rw [e1, e4]
      refine ⟨Int.natCast_nonneg _, by rw [g5]; exact w_s31 z2, ?_⟩
      intro v7 e7 _
      rw [Int.toNat_natCast, g6] at e7
      subst e7
      refine c_s_term r5 (by rw [g7]; omega) (by omega) kl (fun H6 r6 f6 _ => ?_)
      have f56 := c_fr_t f5 f6
      obtain ⟨j1, j2, j3, j4, j5, j6, j7, j8, j9, j10, j11⟩ := base H6 f56
      rw [j1, j3]
      refine ⟨j2, ?_⟩
      intro q15 e15
      refine ⟨j4, ?_⟩
      intro q18 e18
      rw [e15, e18]
      refine ⟨Int.natCast_nonneg _, by rw [j5]; exact w_i31 z2, ?_⟩
      intro v21 e21 _
      rw [Int.toNat_natCast, j6] at e21
      subst e21
      refine c_s_term r6 (by rw [j7]; simp; omega) (by omega) kr (fun H7 r7 f7 _ => ?_)
      rw [List.append_assoc, List.singleton_append, e5] at r7
      have l7 : (w_by 2 :: (if t_ky T y = [] then [w_by 0] else w_by 1 :: t_ky T y :: w_pb (t_ph T y) :: w_set (sw_and (t_um T y) (sw_xor wo (-1)))) ++ [hl, hr]).length ≤ 100 := by
        rw [← e5, List.length_append]
        simp
        omega
      exact q H7 (c_W_row hW (c_fr_t f56 f7) r7) r7 l7 (c_fr_t f56 f7)
    clear sh sm
    rw [b1]
    refine ⟨b2, ?_⟩
    intro q100 e100
    rw [e100]
    refine c_s_byte r1 (by rw [b7]; simp) (by omega) (by omega) (fun H2 r2 f2 _ => ?_)
    have f12 := c_fr_t f1 f2
    obtain ⟨g1, g2, g3, g4, g5, g6, g7, g8, g9, g10, g11⟩ := base H2 f12
    rw [g1, g8]
    refine ⟨g2, ?_⟩
    intro q108 e108
    refine ⟨g9, ?_⟩
    intro q111 e111
    rw [e108, e111]
    refine ⟨by omega, by rw [g10]; omega, ?_⟩
    intro v114 e114 _
    rw [Int.toNat_natCast, g11] at e114
    have kz : v114 = 0 ↔ t_ky T y = [] := by
      rw [e114]
      constructor
      · intro e
        rcases h4y.1 with ⟨_, g⟩ | g
        · exact g
        · have := w_at_le g; omega
      · intro e
        rcases h4y.1 with ⟨g, _⟩ | g
        · exact g
        · exact absurd e (c_at_ne hW.1.1 g)
    have two : ∀ u : Int, (u = if t_ky T y = [] then 0 else 1) → wb_341_65 Q 11 p y (w_h y) wo u 14 H2 := by
      intro u eu
      have u01 : u = 0 ∨ u = 1 := by rw [eu]; split <;> omega
      unfold wb_341_65
      refine c_s_byte r2 (by rw [g7]; simp) (by omega) (by omega) (fun H3 r3 f3 _ => ?_)
      have f13 := c_fr_t f12 f3
      obtain ⟨j1, j2, j3, j4, j5, j6, j7, j8, j9, j10, j11⟩ := base H3 f13
      rw [j8]
      refine ⟨j9, ?_⟩
      intro q34 e34
      rw [e34]
      refine ⟨by omega, by rw [j10]; omega, ?_⟩
      intro v37 e37 _
      rw [Int.toNat_natCast, j11, ← e114] at e37
      refine ⟨fun c => ?_, fun c => ?_⟩
      · rw [e37] at c
        have kb := kz.mp c
        rw [if_pos kb] at eu
        rw [eu] at r3
        refine tail H3 _ (c_W_row hW f13 r3) r3 (by simp) f13 ?_
        rw [if_pos kb]
        rfl
      · rw [e37] at c
        have kb : t_ky T y ≠ [] := fun e => c (kz.mpr e)
        rw [if_neg kb] at eu
        rw [eu] at r3
        rw [j1]
        refine ⟨j2, ?_⟩
        intro q40 e40
        rw [e40]
        refine c_writeParent (c_W_row hW f13 r3).1.1 hm r3 (by rw [j7]; simp) (trG H3 f13) hy kb (fun i hi => by omega) (fun H4 r4 f4 _ => ?_)
        have f14 := c_fr_t f13 f4
        refine tail H4 _ (c_W_row hW f14 r4) r4 ?_ f14 ?_
        · have := w_sl_len (sw_and (t_um T y) (sw_xor wo (-1))) 16
          rw [w_set_sl]
          simp [w_b16]
          omega
        · rw [if_neg kb]
          simp
    refine ⟨fun c => two 0 ?_, fun c => two 1 ?_⟩
    · rw [if_pos (kz.mp c)]
    · rw [if_neg (fun e => c (kz.mpr e))]
  · have h0 : w_h y = 0 := by omega
    have ev : y % 2 = 0 := by
      unfold w_h at h0
      by_cases e : y % 2 = 0
      · exact e
      · rw [if_neg e] at h0
        split at h0
        · omega
        · split at h0
          · omega
          · split at h0 <;> omega
    have e2k : y = 2 * (y / 2) := by omega
    unfold w_nr at q
    rw [if_pos h0] at q
    intro y118 e118
    have dv : sw_shr (y : Int) 1 = ((y / 2 : Nat) : Int) := by
      have key : ∀ y : Fin 31, sw_shr (y.val : Int) 1 = ((y.val / 2 : Nat) : Int) := by decide +kernel
      exact key ⟨y, by omega⟩
    rw [dv] at e118
    subst e118
    rw [b8]
    refine ⟨b9, ?_⟩
    intro q122 e122
    rw [e122]
    refine ⟨by omega, by rw [b10]; omega, ?_⟩
    intro v125 e125 _
    rw [Int.toNat_natCast, b11] at e125
    have kz : v125 = 0 ↔ t_ky T y = [] := by
      rw [e125]
      constructor
      · intro e
        rcases h4y.1 with ⟨_, g⟩ | g
        · exact g
        · have := w_at_le g; omega
      · intro e
        rcases h4y.1 with ⟨g, _⟩ | g
        · exact g
        · exact absurd e (c_at_ne hW.1.1 g)
    have two : ∀ z : Int, (z = if t_ky T y ≠ [] ∧ w_bit wo (y / 2) = 0 then 1 else 0) → wb_341_23 Q 11 p ((y / 2 : Nat) : Int) z H1 := by
      intro z ez
      unfold wb_341_23
      rw [b1]
      refine ⟨b2, ?_⟩
      intro q72 e72
      rw [e72]
      refine c_s_byte r1 (by rw [b7]; simp) (by omega) (by omega) (fun H2 r2 f2 _ => ?_)
      have f12 := c_fr_t f1 f2
      obtain ⟨g1, g2, g3, g4, g5, g6, g7, g8, g9, g10, g11⟩ := base H2 f12
      rw [g1]
      refine ⟨g2, ?_⟩
      intro q80 e80
      rw [e80]
      refine c_s_b16 r2 (by rw [g7]; simp) (fun H3 r3 f3 _ => ?_)
      have f13 := c_fr_t f12 f3
      obtain ⟨j1, j2, j3, j4, j5, j6, j7, j8, j9, j10, j11⟩ := base H3 f13
      rw [j1]
      refine ⟨j2, ?_⟩
      intro q88 e88
      rw [e88]
      have tail : ∀ u : Int, (u = 0 ∨ u = 1) → u = z → wb_341_39 Q 11 p ((y / 2 : Nat) : Int) z u 14 H3 := by
        intro u hu euz
        unfold wb_341_39
        refine c_s_byte r3 (by rw [j7]; simp [w_b16]) (by omega) (by omega) (fun H4 r4 f4 _ => ?_)
        have f14 := c_fr_t f13 f4
        obtain ⟨i1, i2, i3, i4, i5, i6, i7, i8, i9, i10, i11⟩ := base H4 f14
        rw [euz] at r4
        refine ⟨fun c => ?_, fun c => ?_⟩
        · have ni : ¬ (t_ky T y ≠ [] ∧ w_bit wo (y / 2) = 0) := fun h => by rw [if_pos h] at ez; omega
          rw [if_neg ni] at q
          rw [c] at r4
          exact q H4 (c_W_row hW f14 r4) r4 (by simp [w_b16]) f14
        · have is : t_ky T y ≠ [] ∧ w_bit wo (y / 2) = 0 := by
            by_cases h : t_ky T y ≠ [] ∧ w_bit wo (y / 2) = 0
            · exact h
            · rw [if_neg h] at ez; omega
          rw [if_pos is] at q
          have z1 : z = 1 := by rw [ez, if_pos is]
          rw [z1] at r4
          have rvl : sw_rv H4 p 4 = p + 4 := by rw [f14.2.2.2.2.1]; exact t7
          have rvk : sw_rv H4 (p + 4) (y / 2) = p + 5 + y / 2 := by rw [f14.2.2.2.2.1]; exact (t11 (y / 2) (by omega)).1
          rw [rvl]
          refine ⟨by rw [f14.2.2.1]; exact t9, ?_⟩
          intro q54 e54
          rw [e54, Int.toNat_natCast, rvk]
          refine ⟨by omega, by rw [f14.2.2.2.1, t10]; omega, by rw [f14.2.2.1]; exact (t11 (y / 2) (by omega)).2, ?_⟩
          intro q57 e57
          rw [i1]
          refine ⟨i2, ?_⟩
          intro q60 e60
          rw [e57, e60]
          have lf := (trG H4 f14).2.2.2.2.2 (y / 2) (by omega) (by rw [← e2k]; exact is.1)
          refine c_writeTo (c_W_row hW f14 r4).1.1 hm r4 (by rw [i7]; simp [w_b16]) lf.1 (fun _ => lf.2) (by omega) (fun H5 r5 f5 _ => ?_)
          have f15 := c_fr_t f14 f5
          rw [if_pos (by decide)] at r5
          have hl5 : [] ++ [w_by 1] ++ w_b16 ((y / 2 : Nat) : Int) ++ [w_by 1] ++ w_lh (t_ow T (y / 2)) (t_ky T (2 * (y / 2))) (t_sk T (y / 2)) (t_so T (y / 2)) (t_ph T (2 * (y / 2))) ++ [t_sg T (y / 2)] = w_by 1 :: w_b16 ((y / 2 : Nat) : Int) ++ (w_by 1 :: w_leaf T (y / 2)) := by
            unfold w_leaf w_lh
            simp
          rw [hl5] at r5
          have lh := w_lh_len (t_ow T (y / 2)) (t_ky T (2 * (y / 2))) (t_sk T (y / 2)) (t_so T (y / 2)) (t_ph T (2 * (y / 2)))
          refine q H5 (c_W_row hW f15 r5) r5 ?_ f15
          rw [← hl5]
          simp [w_b16]
          omega
      exact ⟨fun c => tail 0 (Or.inl rfl) c.symm, fun c => tail 1 (Or.inr rfl) (by rw [ez] at c ⊢; split at c; rw [if_pos (by assumption)]; exact absurd rfl c)⟩
    refine ⟨fun c => two 0 ?_, fun c => ⟨fun c1 => two 0 ?_, fun c1 => two 1 ?_⟩⟩
    · rw [if_neg (fun h => h.1 (kz.mp c))]
    · rw [sw_bit hwo (by omega)] at c1
      rw [if_neg (fun h => c1 h.2)]
    · rw [sw_bit hwo (by omega)] at c1
      rw [if_pos ⟨fun e => c (kz.mpr e), c1⟩]
end
end
