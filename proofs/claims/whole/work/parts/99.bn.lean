/-! ===== the class: learn, send ===== -/
noncomputable section
/-- what is known with one more -/
def w_lz (K : Wt → Prop) (w : Wt) : Wt → Prop := @ite _ (w = []) (Classical.propDecidable _) K (w_add K w)
section
variable {H G X Y : sw_H} {d e f : Nat → Wt} {nn nm r ra g m : Nat} {K K' : Wt → Prop} {tl tl' tp mk mm l : List Wt} {ms : List (List Wt)} {rd : Nat → Int} {s a b c x cn cs cn' cs' N U M wo : Int} {Q : sw_H → Prop} {P : Int → sw_H → Prop} {E : Nat → sw_H → Prop} {A B : List Nat} {w wa wb : Wt} {T : w_T}
theorem c_learnL (hV : c_V H mk nn K tl cn cs) (hw : w_az mk x w) (k : ∀ Y, c_V Y mk nn (w_lz K w) tl cn cs → c_ch [] H Y → Q Y) : wm_144 3 x H Q := by
  obtain ⟨hL, F, qq, fl, ad⟩ := hV
  have hL' := hL
  obtain ⟨hA, h4, h5⟩ := hL
  have xb := w_az_le hw
  refine c_learn hA F qq xb.1 (by omega) (fun Y aY FY qY ft en e4 => ?_)
  have ew : w_lrn (w_d mk) K x = w_lz K w := by
    unfold w_lrn w_lz
    rcases hw with ⟨e0, ew⟩ | hw
    · rw [if_pos e0, if_pos ew]
    · have := w_at_le hw
      rw [if_neg (by omega), if_neg (c_at_ne hL' hw), w_at_d hw]
  rw [ew] at aY
  have ch := c_ft_ch ft
  exact k Y ⟨⟨aY, by rw [en]; exact h4, by rw [e4]; exact h5⟩, FY, qY, c_full_e ft.1 fl, c_ads_ch ch fl ad⟩ ch
theorem c_W_chN (h : c_W H mk nn K tl cn cs) (hG : c_V G mm nm K' tl' cn' cs') (k : c_ch A H G) (hA : ∀ a ∈ A, 15 < a ∨ a = 2) (hl : w_le mk mm) : c_W G mm nm K' tl' cn' cs' := by
  obtain ⟨hV, hC, s, hr⟩ := h
  have f14 : c_fix 14 := by unfold c_fix; omega
  have f15 : c_fix 15 := by unfold c_fix; omega
  exact ⟨hG, c_C_ch hC k hV.2.2.2.1 hV.2.2.2.2 (fun a ha => by have := hA a ha; omega) hl, s, c_row_ch hr k (c_fix_no hV.2.2.2.2 f14) (c_fix_no hV.2.2.2.2 f15) (fun h => by have := hA _ h; omega) (fun h => by have := hA _ h; omega)⟩
theorem c_rr_chN (hV : c_V H mk nn K tl cn cs) (h : c_rr H mk r ra l) (k : c_ch A H G) (hG : c_V G mm nm K' tl' cn' cs') (hl : w_le mk mm) (h1 : r ∉ A) (h2 : ra ∉ A) : c_rr G mm r ra l := by
  obtain ⟨g0, g1, g2, g3⟩ := h
  have l1 := w_le_len hl
  have n2 := hG.1.2.1
  exact ⟨c_sg_ch g0 k (c_fix_no hV.2.2.2.2 g1) (c_fix_no hV.2.2.2.2 g2) h1 h2 (by omega) (fun u hu => w_le_d hl (by omega)), g1, g2, n2⟩
/-- tape, ready bytes, messages -/
def c_X (H : sw_H) (mk tp : List Wt) (rd : Nat → Int) (ms : List (List Wt)) : Prop := c_O H ∧ c_P H (w_d mk) tp ∧ c_Y H rd ∧ c_M H (w_d mk) ms
theorem c_X_ch (hV : c_V H mk nn K tl cn cs) (h : c_X H mk tp rd ms) (k : c_ch A H G) (hG : c_V G mm nm K' tl' cn' cs') (hl : w_le mk mm) (hA : ∀ a ∈ A, a ≠ 2 ∧ (a < 1416 ∨ 1419 < a) ∧ a ≤ 1491) : c_X G mm tp rd ms := by
  obtain ⟨h1, h2, h3, h4⟩ := h
  have fl := hV.2.2.2.1
  have ad := hV.2.2.2.2
  have n1 := hV.1.2.1
  have n2 := hG.1.2.1
  have l1 := w_le_len hl
  have he : ∀ u : Nat, (u : Int) ≤ c_n H → w_d mm u = w_d mk u := fun u hu => w_le_d hl (by omega)
  have no : ∀ q, q = 2 ∨ (1416 ≤ q ∧ q ≤ 1419) → q ∉ A := fun q hq hm => by have := hA q hm; omega
  exact ⟨c_O_ch h1 k ad fl (no 2 (by omega)), c_P_ch h2 k ad (no _ (by omega)) (no _ (by omega)) (by omega) he, c_Y_ch h3 k ad (no _ (by omega)), c_M_ch h4 k ad fl (no _ (by omega)) (no _ (by omega)) (fun a ha => (hA a ha).2.2) (by omega) he⟩
theorem w_lrs_s {i : Nat} (hi : l[i]? = some w) : w_lrs K (l.take (i + 1)) = if w.head? = some 1000 then w_lrs K (l.take i) else w_add (w_lrs K (l.take i)) w := by
  unfold w_lrs
  rw [List.take_add_one, hi, List.foldl_append]
  rfl
theorem c_at_head (h : c_L H mk nn K tl) (hw : w_at mk x w) : w.head? ≠ some 1000 := by
  have hl := w_at_le hw
  obtain ⟨s, l, h8, e⟩ := c_d0 h.1.1 (t := x.toNat) ⟨by omega, by have := h.2.1; omega⟩
  rw [w_at_d hw] at e
  rw [e, w_mk_head]
  intro h
  have := Option.some.inj h
  omega
/-- send -/
theorem c_send (lm : c_lm cn cs N U M) (bd : c_bl mk tl N U M) (hW : c_W H mk nn K tl cn cs) (hX : c_X H mk tp rd ms) (hr : c_rr H mk 1420 1421 l) (hl : l.length ≤ 1200) (h3 : ms.length < 300) (q : ∀ G, c_W G mk nn (w_lrs K l) tl (cn + 2) (cs + 2 + l.length) → c_X G mk tp rd (ms ++ [l]) → c_rr G mk 1420 1421 l → c_ch [2, 1416] H G → P ms.length G) : wm_163 2 H P := by
  have lp : ∀ (n i : Nat) {Z : sw_H}, i ≤ l.length → l.length - i < n → c_W Z mk nn (w_lrs K (l.take i)) tl cn cs → c_ch [] H Z → wl_163_2 P n 2 i Z := by
    intro n
    induction n with
    | zero => intro i Z h1 h2; omega
    | succ n ih =>
      intro i Z h1 h2 WZ cZ
      have rZ := c_rr_chN hW.1 hr cZ WZ.1 (w_le_refl _) (by simp) (by simp)
      have XZ := c_X_ch hW.1 hX cZ WZ.1 (w_le_refl _) (by simp)
      have rZ' := rZ
      obtain ⟨⟨sg, g1, g2, g3⟩, g4, g5, g6⟩ := rZ
      have O := XZ.1
      have o11 : sw_rv Z 2 11 = 1420 := O.2.2.2.2.2.2.2.2.2.2.2.1
      have o0 : sw_rv Z 2 0 = 3 := O.2.1
      have ln : sg.length = l.length := by rw [← g3, List.length_map]
      unfold wl_163_2
      rw [o11, o0]
      refine ⟨g1.1, ?_⟩
      intro q5 e5 v8 e8 _
      rw [e5, g1.2.2.2.1, ln] at e8
      refine ⟨fun c => ⟨g1.1, ?_⟩, fun c => ⟨g1.1, ?_⟩⟩
      · intro q11 e11
        have ei : i = l.length := by omega
        rw [ei, List.take_length] at WZ
        rw [e11]
        have b1 := c_bl_bd WZ.1.1 bd
        have sm := c_A_sm lm WZ.1.2.2.1 WZ.1.1.1 (c_bd_le b1 (by omega) (by omega) (by omega))
        have IZ : c_I Z (w_d mk) nn (w_lrs K l) tl tp rd ms cn cs := ⟨WZ.1.1.1, WZ.1.2.1, WZ.1.2.2.1, WZ.1.2.2.2.1, WZ.1.2.2.2.2, XZ.1, XZ.2.1, XZ.2.2.1, XZ.2.2.2⟩
        refine c_keep IZ ⟨sg, g1, g2, g3⟩ (by omega) hl h3 (by omega) (by omega) (fun G IG cG i2 i3 _ _ => ?_)
        obtain ⟨y1, y2, y3, y4, y5, y6, y7, y8, y9⟩ := IG
        have VG : c_V G mk nn (w_lrs K l) tl (cn + 2) (cs + 2 + l.length) := ⟨⟨y1, by unfold c_n; rw [i3]; exact WZ.1.1.2.1, by rw [i3]; exact WZ.1.1.2.2⟩, y2, y3, y4, y5⟩
        exact q G (c_W_chN WZ VG cG (by simp) (w_le_refl _)) ⟨y6, y7, y8, y9⟩ (c_rr_chN WZ.1 rZ' cG VG (w_le_refl _) (by simp) (by simp)) (c_ch_sub (c_ch_trans cZ cG) (by simp))
      · have hi : i < l.length := by omega
        intro q19 e19
        rw [e19, g1.2.1]
        refine ⟨g1.2.2.1, ?_⟩
        intro q22 e22
        rw [e22]
        have lna := g1.2.2.2.2.1
        refine ⟨by omega, by omega, ?_⟩
        intro v25 e25 _
        rw [Int.toNat_natCast] at e25
        have sat := c_row_at g1 (k := i) (by omega)
        rw [← e25] at sat
        have smem : v25 ∈ sg := List.mem_of_getElem? sat
        have vs := g2 v25 smem
        obtain ⟨w, ew⟩ : ∃ w, l[i]? = some w := ⟨l[i], List.getElem?_eq_getElem hi⟩
        have wsg : w_sg (w_d mk) v25 = w := by
          have : l[i]? = some (w_sg (w_d mk) v25) := by rw [← g3, List.getElem?_map, sat]; rfl
          rw [ew] at this
          exact (Option.some.inj this).symm
        have nxt := w_lrs_s (K := K) ew
        rw [g6] at vs
        refine ⟨fun c1 => ?_, fun c1 => ⟨WZ.1.1.1.1.1.1, ?_⟩⟩
        · have hd : w.head? = some 1000 := by rw [← wsg]; exact w_by_head v25 _ c1
          rw [if_pos hd] at nxt
          unfold wb_163_24
          intro y1 e1
          rw [sw_w_s (by omega) (by omega)] at e1
          rw [e1, show (i : Int) + 1 = ((i + 1 : Nat) : Int) by omega]
          exact ih (i + 1) (by omega) (by omega) (by rw [nxt]; exact WZ) cZ
        · intro q28 e28
          rw [e28]
          refine ⟨g1.1, ?_⟩
          intro q31 e31
          rw [e31, g1.2.1]
          refine ⟨g1.2.2.1, ?_⟩
          intro q34 e34
          rw [e34]
          refine ⟨by omega, by omega, ?_⟩
          intro v37 e37 _
          rw [Int.toNat_natCast, ← e25] at e37
          subst e37
          have vsb : 256 ≤ v37 ∧ v37 - 256 ≤ mk.length ∧ 1 ≤ v37 - 256 := by
            unfold m_vs at vs
            omega
          have n9 := c_W_len lm bd
          rw [sw_w_s (by omega) (by omega)]
          have hat : w_at mk (v37 - 256) w := by
            have := w_at_of (mk := mk) (x := v37 - 256) (by omega) (by omega)
            unfold w_sg at wsg
            rw [if_neg (by omega)] at wsg
            rw [wsg] at this
            exact this
          have hd := c_at_head WZ.1.1 hat
          rw [if_neg hd] at nxt
          refine c_learnL WZ.1 (Or.inr hat) (fun Y VY cY _ => ?_)
          unfold w_lz at VY
          rw [if_neg (c_at_ne WZ.1.1 hat), ← nxt] at VY
          have WY := c_W_ch WZ VY cY (by simp) (w_le_refl _)
          unfold wb_163_24
          intro y1 e1
          rw [sw_w_s (by omega) (by omega)] at e1
          rw [e1, show (i : Int) + 1 = ((i + 1 : Nat) : Int) by omega]
          exact ih (i + 1) (by omega) (by omega) WY (c_ch_sub (c_ch_trans cZ cY) (by simp))
  exact ⟨l.length + 1, lp (l.length + 1) 0 (by omega) (by omega) hW (c_ch_refl _ _)⟩
end
end
