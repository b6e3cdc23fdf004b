/-! ===== the class: Tree.writeTo, parts hashed and signed, epochs begun, writeInfo ===== -/
noncomputable section
variable {H G Z X Y : sw_H} {mk mm tl tp l0 l1 : List Wt} {ms : List (List Wt)} {rd : Nat → Int} {nn nm r k o h l x y g g1 g2 n m : Nat} {K K' S : Wt → Prop} {cn cs msk N U M z : Int} {T T2 T0 : w_T} {Q : sw_H → Prop} {P : Int → sw_H → Prop} {A : List Nat} {w s n0 : Wt} {G' : w_G} {L : List w_Ch} {f : p_L} {d : w_Ch}
theorem sw_and_m1 {z : Int} (h0 : 0 ≤ z) (h1 : z < 65536) : sw_and z (sw_xor 0 (-1)) = z := by
  have e : sw_xor 0 (-1) = -1 := by decide
  rw [e]
  unfold sw_and
  have e2 : Int32.ofInt (-1) = -1 := by decide
  rw [e2, Int32.and_neg_one]
  exact Int32.toInt_ofInt_of_le (by omega) (by omega)
theorem c_wt_5 (hml : mk.length ≤ 999999999) (hr : 17 < r) (hr2 : r + 20 < 1420) (hV : c_V H mk nn K tl cn cs) (ht : c_tr H mk r T) (ln : sw_ln H 1421 = 1400) (hl0 : l0.length ≤ 600)
    (q : ∀ J, c_rr J mk 1420 1421 (l0 ++ w_b16 ((w_nws T (t_w T)).length : Nat) ++ w_nws T (t_w T)) → c_fr [1420, 1421] H J → Q J) :
    ∀ (n k : Nat) {G : sw_H}, c_fr [1420, 1421] H G → c_rr G mk 1420 1421 (l0 ++ w_b16 0 ++ w_nws T k) → k ≤ t_w T → t_w T - k < n → wl_294_5 Q n r 1420 ((l0.length + 2 : Nat) : Int) k G
  | 0, _, _, _, _, _, h => by omega
  | n + 1, k, G, f, rr, hk, hn => by
    have w31 := t_w_4 ht.2.1.1
    have nl := w_nws_len (T := T) k
    have fx : ∀ a ∈ [1420, 1421], c_fix a := fun a ha => by simp at ha; unfold c_fix; omega
    have VG := c_V_fr hV f fx
    have tG := c_tr_fr hV ht f (fun a ha => ⟨fx a ha, by simp at ha; omega⟩)
    have lnG : sw_ln G 1421 = 1400 := by rw [f.2.2.2.1]; exact ln
    have l2 : (w_b16 0).length = 2 := rfl
    unfold wl_294_5
    refine c_nodes tG ?_
    intro _ _
    refine ⟨fun c => ?_, fun c => ?_⟩
    · have ek : k = t_w T := by omega
      subst ek
      refine c_endRow rr (by omega) rfl (fun Z rZ fZ => ?_)
      intro _
      exact q Z rZ (c_fr_t f fZ)
    · have hkw : k < t_w T := by omega
      have ts := tG.1
      have k1 := ts.2.2.2.2.2.2.2.1 1 (by decide) (by decide)
      have es : w_nws T (k + 1) = w_nws T k ++ w_nw T k := rfl
      have stp : ∀ {Z : sw_H}, c_rr Z mk 1420 1421 (l0 ++ w_b16 0 ++ w_nws T k ++ w_nw T k) → c_fr [1420, 1421] G Z → wb_294_43 Q (wl_294_5 Q n) r 1420 ((l0.length + 2 : Nat) : Int) k Z := fun {Z} rZ fZ => by
        unfold wb_294_43
        intro y1 ey
        rw [sw_s1 (by omega)] at ey
        subst ey
        exact c_wt_5 hml hr hr2 hV ht ln hl0 q n (k + 1) (c_fr_t f fZ) (by rw [es, ← List.append_assoc]; exact rZ) (by omega) (by omega)
      rw [ts.2.2.2.1]
      refine ⟨k1.1, ?_⟩
      intro q15 e15
      rw [e15]
      refine ⟨by omega, by rw [k1.2]; omega, ?_⟩
      intro v18 e18 _
      rw [Int.toNat_natCast] at e18
      have kz := (c_ky0 VG.1 tG (x := k) (by omega))
      obtain ⟨y1, y2⟩ := sw_y1 ⟨k, by omega⟩
      have y1 : sw_and (k : Int) 1 = ((k % 2 : Nat) : Int) := y1
      have y2 : sw_shr (k : Int) 1 = ((k / 2 : Nat) : Int) := y2
      rw [y1, y2]
      refine ⟨fun c2 => ?_, fun c2 => ?_⟩
      · have kne : t_ky T k ≠ [] := fun cc => c2 (by rw [e18]; exact kz.mpr (Or.inr cc))
        refine ⟨fun c3 => ?_, fun c3 => ?_⟩
        · have en : w_nw T k = w_by 2 :: t_ky T k :: w_pb (t_ph T k) :: w_set (t_um T k) := by unfold w_nw; rw [if_neg kne, if_neg (by omega)]
          obtain ⟨u1, u2, _⟩ := ht.2.1.2.1 k hkw
          refine c_s_byte (x := 2) rr (by rw [lnG, List.length_append, List.length_append, l2]; omega) (by decide) (by decide) (fun Z rZ fZ => ?_)
          intro _
          have tZ := c_tr_fr VG tG fZ (fun a ha => ⟨fx a ha, by simp at ha; omega⟩)
          have VZ := c_V_fr VG fZ fx
          refine c_writeParent (wo := 0) VZ.1 hml rZ (by rw [fZ.2.2.2.1, lnG, List.length_append, List.length_append, List.length_append, l2, List.length_singleton]; omega) tZ hkw kne (fun i hi => by omega) (fun Y rY fY => ?_)
          intro _
          refine stp ?_ (c_fr_t fZ fY)
          rw [sw_and_m1 u1 u2] at rY
          have ee : l0 ++ w_b16 0 ++ w_nws T k ++ [w_by 2] ++ [t_ky T k, w_pb (t_ph T k)] ++ w_set (t_um T k) = l0 ++ w_b16 0 ++ w_nws T k ++ w_nw T k := by rw [en]; simp only [List.append_assoc, List.cons_append, List.nil_append]
          rw [ee] at rY
          exact rY
        · have en : w_nw T k = w_by 1 :: w_leaf T (k / 2) := by unfold w_nw; rw [if_neg kne, if_pos (by omega)]
          have ek2 : 2 * (k / 2) = k := by omega
          obtain ⟨lf1, lf2⟩ := tG.2.2.2.2.2 (k / 2) (by rw [ek2]; exact hkw) (by rw [ek2]; exact kne)
          refine c_s_byte (x := 1) rr (by rw [lnG, List.length_append, List.length_append, l2]; omega) (by decide) (by decide) (fun Z rZ fZ => ?_)
          intro _
          have VZ := c_V_fr VG fZ fx
          have tZ := c_ts_fr ts fZ
          have k16 : k / 2 < 16 := by omega
          rw [tZ.2.2.2.2.2.2.1]
          refine ⟨tZ.2.2.2.2.2.2.2.2.1, ?_⟩
          intro q36 e36
          rw [e36]
          refine ⟨by omega, by rw [tZ.2.2.2.2.2.2.2.2.2.1]; omega, ?_⟩
          rw [Int.toNat_natCast, (tZ.2.2.2.2.2.2.2.2.2.2 (k / 2) k16).1]
          refine ⟨(tZ.2.2.2.2.2.2.2.2.2.2 (k / 2) k16).2, ?_⟩
          intro q39 e39
          rw [e39]
          have iv : sw_iv Z (r + 5 + k / 2) = sw_iv G (r + 5 + k / 2) := fZ.2.2.2.2.2 _ (by simp; omega)
          refine c_writeTo (p := r + 5 + k / 2) (z := 1) (sg := t_sg T (k / 2)) VZ.1 hml rZ (by rw [fZ.2.2.2.1, lnG, List.length_append, List.length_append, List.length_append, l2, List.length_singleton]; omega) (c_lf_iv lf1 (fun f' _ => by rw [iv]) (w_le_refl _)) (fun _ => by rw [iv]; exact lf2) (by omega) (fun Y rY fY => ?_)
          intro _
          refine stp ?_ (c_fr_t fZ fY)
          have ee : l0 ++ w_b16 0 ++ w_nws T k ++ [w_by 1] ++ w_lh (t_ow T (k / 2)) (t_ky T (2 * (k / 2))) (t_sk T (k / 2)) (t_so T (k / 2)) (t_ph T (2 * (k / 2))) ++ (if (1 : Int) ≠ 0 then [t_sg T (k / 2)] else []) = l0 ++ w_b16 0 ++ w_nws T k ++ w_nw T k := by
            rw [en, if_pos (by decide)]
            unfold w_leaf w_lh
            simp only [List.append_assoc, List.cons_append, List.nil_append]
          rw [ee] at rY
          exact rY
      · have k0 : t_ky T k = [] := by
          rcases kz.mp (by rw [← e18]; exact c2) with h | h
          · omega
          · exact h
        have en : w_nw T k = [w_by 0] := by unfold w_nw; rw [if_pos k0]
        refine c_s_byte (x := 0) rr (by rw [lnG, List.length_append, List.length_append, l2]; omega) (by decide) (by decide) (fun Z rZ fZ => ?_)
        intro _
        exact stp (by rw [en]; exact rZ) fZ
theorem c_treeWriteTo (hml : mk.length ≤ 999999999) (hr : 17 < r) (hr2 : r + 20 < 1420) (hV : c_V H mk nn K tl cn cs) (ht : c_tr H mk r T) (ln : sw_ln H 1421 = 1400) (hl0 : l0.length ≤ 600) (hrr : c_rr H mk 1420 1421 l0)
    (q : ∀ J, c_rr J mk 1420 1421 (l0 ++ w_b16 ((w_nws T (t_w T)).length : Nat) ++ w_nws T (t_w T)) → c_fr [1420, 1421] H J → Q J) : wm_294 r 1420 H Q := by
  unfold wm_294
  refine c_beginRow hrr (by rw [ln]; omega) (fun Y rY fY => ?_)
  intro _ _
  exact ⟨t_w T + 1, c_wt_5 (H := H) hml hr hr2 hV ht ln hl0 q (t_w T + 1) 0 fY (by show c_rr Y mk 1420 1421 (l0 ++ w_b16 0 ++ []); rw [List.append_nil]; exact rY) (Nat.zero_le _) (by omega)⟩
/-- a part of a row signed -/
theorem c_signPart {r2 b2 i e : Nat} {l2 : List Wt} (lm : c_lm cn cs N U M) (hb : c_bS S mk tl N U M) (hW : c_W H mk nn K tl cn cs) (h2 : c_sg H (w_d mk) r2 b2 l2) (n2 : r2 ≠ 14 ∧ r2 ≠ 15 ∧ b2 ≠ 14 ∧ b2 ≠ 15) (hi : i ≤ e) (he : e ≤ l2.length) (hl : e ≤ 1400) (hz : w_at mk z w) (hS : S (w_t 7 w [] [] (w_sli l2 i e))) (q : ∀ t X mm, w_mo S mk mm → c_bS S mm tl N U M → c_W X mm nn K tl cn cs → w_at mm t (w_t 7 w [] [] (w_sli l2 i e)) → c_ch [14, 15] H X → P t X) : wm_295 11 z r2 i e H P := by
  obtain ⟨p1, p2, p3, p4, p5⟩ := c_cr hW
  unfold wm_295
  rw [p2]
  refine ⟨p4, ?_⟩
  intro q1 e1
  rw [e1]
  refine c_W_clear hW (fun H2 W2 r2' f2 l15 => ?_)
  intro _
  obtain ⟨p1, p2, p3, p4, p5⟩ := c_cr W2
  rw [p2]
  refine ⟨p4, ?_⟩
  intro q9 e9
  rw [e9]
  have sg3 : c_sg H2 (w_d mk) r2 b2 l2 := c_sg_fr h2 f2 (by simp; omega) (by simp; omega) (by decide)
  have sl := w_sli_len (i := i) he
  refine c_s_putAll (i := i) (j := e) r2' sg3 (fun cc => n2.2.2.2 cc.symm) hi he (by rw [p5]; simp; omega) (fun H4 r4 f4 => ?_)
  intro _
  have f24 := c_fr_t f2 f4
  have W4 := c_W_row hW f24 r4
  obtain ⟨p1, p2, p3, p4, p5⟩ := c_cr W4
  rw [p1]
  refine ⟨p3, ?_⟩
  intro q17 e17
  rw [p2]
  refine ⟨p4, ?_⟩
  intro q20 e20
  rw [e17, e20]
  rw [List.nil_append] at r4
  refine c_partS (s := 7) (Or.inr rfl) lm hb W4 hz r4 (by rw [sl]; omega) hS (fun X t mm m1 m2 WX aX cX => ?_)
  intro _ _
  exact q t X mm m1 m2 WX aX (c_ch_sub (c_ch_trans (c_V_ch hW.1 f24 (fun a ha => by simp at ha; unfold c_fix; omega)) cX) (by simp))
/-- a part of a row hashed -/
theorem c_hashOfPart {r2 b2 i e : Nat} {l2 : List Wt} (lm : c_lm cn cs N U M) (hb : c_bS S mk tl N U M) (hW : c_W H mk nn K tl cn cs) (h2 : c_sg H (w_d mk) r2 b2 l2) (n2 : r2 ≠ 14 ∧ r2 ≠ 15 ∧ b2 ≠ 14 ∧ b2 ≠ 15) (hi : i ≤ e) (he : e ≤ l2.length) (hl : e ≤ 1400) (hS : S (w_t 1 [] [] [] (w_sli l2 i e))) (q : ∀ t X mm, w_mo S mk mm → c_bS S mm tl N U M → c_W X mm nn K tl cn cs → w_at mm t (w_t 1 [] [] [] (w_sli l2 i e)) → c_ch [14, 15] H X → P t X) : wm_293 11 r2 i e H P := by
  obtain ⟨p1, p2, p3, p4, p5⟩ := c_cr hW
  unfold wm_293
  rw [p2]
  refine ⟨p4, ?_⟩
  intro q1 e1
  rw [e1]
  refine c_W_clear hW (fun H2 W2 r2' f2 l15 => ?_)
  intro _
  obtain ⟨p1, p2, p3, p4, p5⟩ := c_cr W2
  rw [p2]
  refine ⟨p4, ?_⟩
  intro q9 e9
  rw [e9]
  have sg3 : c_sg H2 (w_d mk) r2 b2 l2 := c_sg_fr h2 f2 (by simp; omega) (by simp; omega) (by decide)
  have sl := w_sli_len (i := i) he
  refine c_s_putAll (i := i) (j := e) r2' sg3 (fun cc => n2.2.2.2 cc.symm) hi he (by rw [p5]; simp; omega) (fun H4 r4 f4 => ?_)
  intro _
  have f24 := c_fr_t f2 f4
  have W4 := c_W_row hW f24 r4
  obtain ⟨p1, p2, p3, p4, p5⟩ := c_cr W4
  rw [p1]
  refine ⟨p3, ?_⟩
  intro q17 e17
  rw [p2]
  refine ⟨p4, ?_⟩
  intro q20 e20
  rw [e17, e20]
  rw [List.nil_append] at r4
  refine c_hashS lm hb W4 r4 (by rw [sl]; omega) hS (fun X t mm m1 m2 WX aX cX => ?_)
  intro _ _
  exact q t X mm m1 m2 WX aX (c_ch_sub (c_ch_trans (c_V_ch hW.1 f24 (fun a ha => by simp at ha; unfold c_fix; omega)) cX) (by simp))
theorem c_startEpochS {ep a : Int} {cf j es : Wt} (ees : es = w_t 3 j [0] [] (w_ctx T ep cf)) (lm : c_lm cn cs N U M) (hb : c_bS S mk tl N U M) (hW : c_W H mk nn K tl cn cs) (hg : c_gs H g) (ht : c_tr H mk (g + 1) T) (hep : sw_iv H g 2 = ep) (h33 : w_az mk (sw_iv H g 5) cf) (hj : w_at mk a j) (hS1 : ∀ y ∈ w_ordk (w_h (t_top T)) (t_top T) (w_h (t_top T) + 1) 0, S (w_th T 0 y)) (hS2 : S es) (hS3 : S (w_dr es 2)) (hS4 : S (w_cfm es cf)) (hS5 : S (w_int cf (w_cfm es cf)))
    (q : ∀ t X mm, w_mo S mk mm → c_bS S mm tl N U M → c_W X mm nn K tl cn cs → w_at mm t (w_cfm es cf) → w_at mm (sw_iv X g 4) (w_th T 0 (t_top T)) → w_at mm (sw_iv X g 7) es → w_at mm (sw_iv X g 6) (w_int cf (w_cfm es cf)) → (∀ f, f ≠ 4 → f ≠ 6 → f ≠ 7 → sw_iv X g f = sw_iv H g f) → (∀ f, sw_rv X g f = sw_rv H g f) → c_ch [14, 15, 16, g] H X → P t X) : wm_155 11 g a H P := by
  have nd := c_L_nd hW.1.1
  have hl : ∀ w ∈ (w_ordk (w_h (t_top T)) (t_top T) (w_h (t_top T) + 1) 0).map (w_th T 0), S w := fun w hw => by
    obtain ⟨y, hy, e⟩ := List.mem_map.mp hw
    rw [← e]; exact hS1 y hy
  have m1 : w_mo S mk (w_tl (w_tl (w_tl (w_tl (w_mkh T 0 (t_top T) mk) es) (w_t 3 es [2] [] [])) (w_cfm es cf)) (w_int cf (w_cfm es cf))) := w_mo_trans (w_mo_tls _ hl) (w_mo_trans (w_mo_tl hS2) (w_mo_trans (w_mo_tl hS3) (w_mo_trans (w_mo_tl hS4) (w_mo_tl hS5))))
  have b1 := hb _ m1 (w_tl_nd (w_tl_nd (w_tl_nd (w_tl_nd (w_tls_nd _ nd)))))
  exact c_startEpoch ees lm hW hg ht hep h33 hj b1 (fun t X WX a1 a2 a3 a4 a5 a6 a7 => q t X _ m1 (c_bS_mo hb m1) WX a1 a2 a3 a4 a5 a6 a7)
end
