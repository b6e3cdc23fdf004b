/-! ===== the class: isKeyThere, how many SEALED a height wants ===== -/
noncomputable section
variable {H Z X : sw_H} {nn r l k i : Nat} {K : Wt → Prop} {tl mk : List Wt} {P : Int → sw_H → Prop} {cn cs msk x1 : Int} {T T0 : w_T} {w : Wt} {hs : List Nat}
theorem c_kt_2 (hL : c_L H mk nn K tl) (ht : c_tr H mk r T) (hw : w_at mk x1 w) (q1 : d_kt T w → P 1 H) (q0 : ¬ d_kt T w → P 0 H) : ∀ (n x : Nat), x ≤ t_w T → t_w T - x < n → (∀ y, y < x → t_ky T y ≠ w) → wl_367_2 P n r x1 x H
  | 0, _, _, h, _ => by omega
  | n + 1, x, hx, hn, inv => by
    have h4 := ht.2.1.1
    have w31 := t_w_4 h4
    unfold wl_367_2
    refine c_nodes ht (fun _ _ => ?_)
    refine ⟨fun c => q0 (fun ⟨y, y1, y2⟩ => inv y (by omega) y2), fun c => ?_⟩
    rw [ht.1.2.2.2.1]
    refine ⟨(ht.1.2.2.2.2.2.2.2.1 1 (by decide) (by decide)).1, ?_⟩
    intro q6 e6
    rw [e6]
    refine ⟨by omega, by rw [(ht.1.2.2.2.2.2.2.2.1 1 (by decide) (by decide)).2]; omega, ?_⟩
    intro v9 e9 _
    rw [Int.toNat_natCast] at e9
    have a := (ht.2.2.2.1 x (by omega)).1
    rw [← e9] at a
    refine ⟨fun c1 => ?_, fun c1 => q1 ⟨x, by omega, ?_⟩⟩
    · intro y12 e12
      rw [sw_s1 (by omega)] at e12
      rw [e12]
      refine c_kt_2 hL ht hw q1 q0 n (x + 1) (by omega) (by omega) (fun y hy => ?_)
      by_cases e : y = x
      · rw [e]
        intro e2
        rw [e2] at a
        rcases a with ⟨_, g⟩ | g
        · exact c_at_ne hL hw g
        · exact c1 (w_at_inj (c_L_nd hL) g hw)
      · exact inv y (by omega)
    · rw [c1] at a
      rcases a with ⟨g, _⟩ | g
      · have := (w_at_le hw).1
        omega
      · exact w_at_fun g hw
theorem c_isKeyThere (hL : c_L H mk nn K tl) (ht : c_tr H mk r T) (hw : w_at mk x1 w) (q1 : d_kt T w → P 1 H) (q0 : ¬ d_kt T w → P 0 H) : wm_367 r x1 H P := by
  unfold wm_367
  exact ⟨t_w T + 1, c_kt_2 hL ht hw q1 q0 _ 0 (by omega) (by omega) (fun y hy => absurd hy (Nat.not_lt_zero _))⟩
theorem c_wantedAt (hPa : c_Pa H) (hk : c_pk2 H T msk l hs) (hi : hs[i]? = some k) (i4 : i < 4) (h576 : (w_sq T msk l hs).length ≤ 576) (q : P ((w_rq T msk l k).length : Nat) H) : wm_366 85 i H P := by
  obtain ⟨p0, p1, p7, p8, p9, ⟨p91a, p91b⟩, _⟩ := id hPa
  have il : i < hs.length := (List.getElem?_eq_some_iff.mp hi).1
  have esq : (w_sq T msk l (hs.take (i + 1))).length = (w_sq T msk l (hs.take i)).length + (w_rq T msk l k).length := by
    rw [List.take_add_one, hi]
    unfold w_sq
    rw [List.flatMap_append, List.length_append]
    simp
  have lsq : (w_sq T msk l (hs.take (i + 1))).length ≤ (w_sq T msk l hs).length := by
    have e : hs = hs.take (i + 1) ++ hs.drop (i + 1) := (List.take_append_drop _ _).symm
    have : (w_sq T msk l hs).length = (w_sq T msk l (hs.take (i + 1))).length + (w_sq T msk l (hs.drop (i + 1))).length := by
      conv => lhs; rw [e]
      unfold w_sq
      rw [List.flatMap_append, List.length_append]
    omega
  unfold wm_366
  rw [p7]
  refine ⟨p91a, ?_⟩
  intro q1 e1
  rw [e1, sw_s1 (by omega)]
  refine ⟨by omega, by rw [p91b]; omega, ?_⟩
  intro v4 e4 _
  rw [Int.toNat_natCast, hk.2.2.1 (i + 1) (by omega), esq] at e4
  refine ⟨p91a, ?_⟩
  intro q7 e7
  rw [e7]
  refine ⟨by omega, by rw [p91b]; omega, ?_⟩
  intro v10 e10 _
  rw [Int.toNat_natCast, hk.2.2.1 i (by omega)] at e10
  rw [sw_w_s (by omega) (by omega), show v4 - v10 = (((w_rq T msk l k).length : Nat) : Int) by omega]
  exact q
end
