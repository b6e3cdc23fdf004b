/-! ===== the class: terms by their list ===== -/
noncomputable section
section
variable {H G X Y : sw_H} {d e f : Nat → Wt} {nn r ra : Nat} {K : Wt → Prop} {tl mk mm l : List Wt} {s a b c x cn cs N U M : Int} {Q : sw_H → Prop} {P : Int → sw_H → Prop} {A B : List Nat} {w wa wb : Wt}
theorem c_T_d (T : c_T H d nn) (h : ∀ t : Nat, c_R H t → f t = d t) : c_T H f nn := by
  obtain ⟨t1, t2, t3, t4, t5, t6, t7, t8, t9, t10, t11, t12⟩ := T
  refine ⟨t1, t2, t3, t4, t5, t6, t7, t8, t9, fun t ht => ?_, fun t u ht hu e => ?_, t12⟩
  · obtain ⟨r1, r2, r3, r4, r5, r6, r7⟩ := t10 t ht
    have h2 := ht.2
    refine ⟨r1, r2, r3, r4, r5, fun c8 => ?_, fun c8 => ?_⟩
    · obtain ⟨g1, g2⟩ := r6 c8
      refine ⟨?_, g2⟩
      have v3 := r1.2.2.1
      have v4 := r1.2.2.2.1
      have v5 := r1.2.2.2.2.1
      have v6 := r1.2.2.2.2.2.1
      have v7 := r1.2.2.2.2.2.2.1
      have v9 := r1.2.2.2.2.2.2.2.2.1
      rw [h t ht, g1]
      exact (w_tm_f (n := (t : Int) - 1) (fun u u1 u2 => h u ⟨u1, by omega⟩) v3 v4 v5 v6 v7 v9 r5).symm
    · rw [h t ht]
      exact r7 c8
  · rw [h t ht, h u hu] at e
    exact t11 t u ht hu e
theorem c_K_d (hK : c_K H d K) (h : ∀ t : Nat, c_R H t → f t = d t) : c_K H f K := by
  obtain ⟨k1, k2, k3⟩ := hK
  refine ⟨k1, k2, fun w => ?_⟩
  rw [k3]
  have e : c_B H f = c_B H d := by
    funext w
    refine propext ⟨fun ⟨u, u1, u2⟩ => ⟨u, u1, by rw [← h u u1.1]; exact u2⟩, fun ⟨u, u1, u2⟩ => ⟨u, u1, by rw [h u u1.1]; exact u2⟩⟩
  rw [e]
theorem c_N_d (hN : c_N H d tl) (h : ∀ t : Nat, c_R H t → f t = d t) : c_N H f tl := by
  obtain ⟨n1, n2, n3, n4, n5⟩ := hN
  refine ⟨n1, n2, fun i w hw => ?_, fun t ht => ?_, n5⟩
  · obtain ⟨t, g1, g2, g3⟩ := n3 i w hw
    exact ⟨t, g1, g2, by rw [h t g1]; exact g3⟩
  · rw [h t ht]
    exact n4 t ht
theorem c_A_d (A : c_A H d nn K tl) (h : ∀ t : Nat, c_R H t → f t = d t) : c_A H f nn K tl := by
  obtain ⟨a1, a2, a3, a4, a5, a6, a7, a8⟩ := A
  exact ⟨c_T_d a1 h, a2, a3, a4, a5, c_K_d a6 h, c_N_d a7 h, a8⟩
/-- all of Terms, by the list of the terms -/
def c_L (H : sw_H) (mk : List Wt) (nn : Nat) (K : Wt → Prop) (tl : List Wt) : Prop := c_A H (w_d mk) nn K tl ∧ c_n H = mk.length ∧ sw_iv H 3 4 = w_tot mk
theorem c_L_nd (h : c_L H mk nn K tl) : mk.Nodup := by
  obtain ⟨A, h4, _⟩ := h
  refine List.pairwise_iff_getElem.mpr (fun i j hi hj hij e => ?_)
  have := A.1.2.2.2.2.2.2.2.2.2.2.1 (i + 1) (j + 1) ⟨by omega, by rw [h4]; omega⟩ ⟨by omega, by rw [h4]; omega⟩ (by
    unfold w_d
    rw [if_neg (by omega), if_neg (by omega), Nat.add_sub_cancel, Nat.add_sub_cancel, List.getElem?_eq_getElem hi, List.getElem?_eq_getElem hj, e])
  omega
theorem c_L_mem (h : c_L H mk nn K tl) {w : Wt} : (∃ t, c_R H t ∧ w_d mk t = w) ↔ w ∈ mk := by
  have h4 := h.2.1
  constructor
  · intro ⟨t, ⟨t1, t2⟩, e⟩
    rw [h4] at t2
    unfold w_d at e
    rw [if_neg (by omega), List.getElem?_eq_getElem (show t - 1 < mk.length by omega)] at e
    rw [← e]
    exact List.getElem_mem _
  · intro hw
    obtain ⟨i, hi, e⟩ := List.getElem_of_mem hw
    refine ⟨i + 1, ⟨by omega, by rw [h4]; omega⟩, ?_⟩
    unfold w_d
    rw [if_neg (by omega), Nat.add_sub_cancel, List.getElem?_eq_getElem hi, e]
    rfl
/-- a new term is the last -/
theorem c_L_new (h : c_L H mk nn K tl) {nm : Nat} (AX : c_A X e nm K tl) (he : ∀ u : Nat, (u : Int) ≤ c_n H → e u = w_d mk u) (e4 : c_n X = c_n H + 1) (ew : e (c_n H + 1).toNat = w) (e5 : sw_iv X 3 4 = sw_iv H 3 4 + w_sz w) : c_L X (mk ++ [w]) nm K tl := by
  obtain ⟨A, h4, h5⟩ := h
  refine ⟨c_A_d AX (fun t ht => ?_), by rw [e4, h4, List.length_append]; simp, by rw [e5, h5, w_tot_snoc]; omega⟩
  have t2 := ht.2
  rw [w_d_up rfl (by omega)]
  by_cases ct : t = mk.length + 1
  · rw [if_pos ct, ← ew, ct]
    congr 1
    omega
  · rw [if_neg ct, he t (by omega)]
/-- room for one more term -/
def c_bl (mk tl : List Wt) (N U M : Int) : Prop := (mk.length : Int) + 2 ≤ N ∧ (w_tot mk : Int) + 1500 ≤ U ∧ (tl.length : Int) ≤ M
theorem c_bl_le (h : w_le mk mm) (b : c_bl mm tl N U M) : c_bl mk tl N U M := by
  have := w_le_len h
  unfold c_bl at *
  omega
theorem c_bl_bd (h : c_L H mk nn K tl) (b : c_bl mk tl N U M) : c_bd H tl N U M 2 1500 0 := by
  obtain ⟨A, h4, h5⟩ := h
  unfold c_bl at b
  unfold c_bd
  omega
/-- Terms, the cells behind, the room -/
def c_V (H : sw_H) (mk : List Wt) (nn : Nat) (K : Wt → Prop) (tl : List Wt) (cn cs : Int) : Prop := c_L H mk nn K tl ∧ c_F H ∧ c_q H cn cs ∧ c_full H ∧ c_ads H
theorem c_ofL (lm : c_lm cn cs N U M) (hV : c_V H mk nn K tl cn cs) (h : c_sg H (w_d mk) r ra l) (hr : ¬ c_ow H r) (hra : ¬ c_ow H ra) (ll : l.length ≤ 1400) (bd : c_bl mk tl N U M) (hs0 : s ≠ 0) (v : c_va H (c_n H) s a b c) (ew : ∀ sg, sg.map (w_sg (w_d mk)) = l → w_tm (w_d mk) s a b c sg = w) (k : ∀ X t, c_V X (w_tl mk w) nn K tl cn cs → w_at (w_tl mk w) t w → c_ch [] H X → P t X) : wm_145 3 s a b c r H P := by
  obtain ⟨hL, F, qq, fl, ad⟩ := hV
  have hL' := hL
  obtain ⟨A, h4, h5⟩ := hL
  obtain ⟨sg, h1, h2, h3⟩ := h
  have ln : sg.length = l.length := by rw [← h3, List.length_map]
  have b1 := c_bl_bd hL' bd
  have room := c_A_room (n := sg.length) lm qq A (by omega) (c_bd_le b1 (by omega) (by omega) (by omega))
  have ew := ew sg h3
  refine c_ofA A F qq h1 hr hra room hs0 v h2 (fun X e t AX FX qX ex ht he hx => ?_)
  have ch := c_ft_ch ex.1
  have flX := c_full_e ex.1.1 fl
  have adX := c_ads_ch ch fl ad
  rw [ew] at he hx
  rcases hx with ⟨hX, hd⟩ | ⟨nX, uX, hno⟩
  · subst hX
    rw [hd] at he
    have hm : w ∈ mk := (c_L_mem hL').mp ⟨t, ht, he⟩
    have e1 : w_tl mk w = mk := if_pos hm
    rw [e1] at k
    refine k X t ⟨hL', FX, qX, flX, adX⟩ ?_ ch
    have t2 := ht.2
    have := w_at_of (mk := mk) (x := (t : Int)) (by have := ht.1; omega) (by omega)
    rw [Int.toNat_natCast, he] at this
    exact this
  · have hm : ¬ w ∈ mk := fun hm => by
      obtain ⟨u, u1, u2⟩ := (c_L_mem hL').mpr hm
      exact hno u u1 u2
    have e1 : w_tl mk w = mk ++ [w] := if_neg hm
    have sz : w_sz w = sg.length := by rw [← ew]; exact w_sz_tm _ _ _ _ _ _
    have ht1 : (t : Int) = c_n H + 1 := by
      have t2 := ht.2
      rcases Int.lt_or_le (c_n H) t with g | g
      · omega
      · exfalso
        refine hno t ⟨ht.1, g⟩ ?_
        rw [← ex.2.2 t g]
        exact he
    have LX := c_L_new (w := w) hL' AX ex.2.2 nX (by rw [← ht1, Int.toNat_natCast]; exact he) (by rw [uX, sz])
    rw [e1] at k
    refine k X t ⟨LX, FX, qX, flX, adX⟩ ?_ ch
    refine ⟨by have := ht.1; omega, ?_⟩
    rw [ht1, h4, show ((mk.length : Int) + 1 - 1).toNat = mk.length by omega]
    simp
theorem c_nameL (lm : c_lm cn cs N U M) (hV : c_V H mk nn K tl cn cs) (bd : c_bl mk tl N U M) (k : ∀ X t, c_V X (w_tl mk (w_nm nn)) (nn + 1) K tl cn cs → w_at (w_tl mk (w_nm nn)) t (w_nm nn) → c_ch [] H X → P t X) : wm_143 3 H P := by
  obtain ⟨hL, F, qq, fl, ad⟩ := hV
  have hL' := hL
  obtain ⟨A, h4, h5⟩ := hL
  have b1 := c_bl_bd hL' bd
  have room := c_A_room (n := 0) lm qq A (by omega) (c_bd_le b1 (by omega) (by omega) (by omega))
  have t1 := A.1.2.2.1
  have hm : ¬ w_nm nn ∈ mk := fun hm => by
    obtain ⟨u, u1, u2⟩ := (c_L_mem hL').mpr hm
    obtain ⟨r1, r2, r3, r4, r5, r6, r7⟩ := A.1.2.2.2.2.2.2.2.2.2.1 u u1
    by_cases c0 : c_d H u 0 = 0
    · rcases r7 c0 with ⟨_, g⟩ | ⟨_, i, hi, g⟩
      · rw [u2] at g
        exact absurd (w_mk_inj g).1 (by decide)
      · rw [u2] at g
        have := (w_mk_inj g).2
        simp at this
        omega
    · rw [u2] at r6
      have := (r6 c0).1
      unfold w_tm at this
      have e8 := (w_mk_inj this).1
      have := r1.2.1
      omega
  have e1 : w_tl mk (w_nm nn) = mk ++ [w_nm nn] := if_neg hm
  refine c_name A F qq room (fun X AX FX qX ex nX uX => ?_)
  have ch := c_ft_ch ex.1
  have LX := c_L_new (w := w_nm nn) hL' AX ex.2.2 nX w_up_eq (by
    rw [uX]
    have : w_sz (w_nm nn) = 0 := by
      unfold w_sz w_nm
      rw [w_pts_mk]
      rfl
    omega)
  rw [e1] at k
  refine k X _ ⟨LX, FX, qX, c_full_e ex.1.1 fl, c_ads_ch ch fl ad⟩ ?_ ch
  refine ⟨by omega, ?_⟩
  rw [h4, show ((mk.length : Int) + 1 - 1).toNat = mk.length by omega]
  simp
end
end
