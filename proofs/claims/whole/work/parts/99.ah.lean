/-! ===== the class: add, name, of, with all of Terms ===== -/
noncomputable section
section
variable {H G X : sw_H} {d e : Nat → Wt} {r ra nn : Nat} {K : Wt → Prop} {tl : List Wt} {s a b c code cn cs : Int} {l : List Int} {P : Int → sw_H → Prop}
theorem c_d_vw (V : c_vw H G) {t k : Nat} (ht : (t : Int) ≤ c_n H) (hk : k ≤ 13) : c_d G t k = c_d H t k := V.2.1 _ (by omega)
theorem c_U_vw (V : c_vw H G) (h1 : 1 ≤ c_n H) (U : c_U H) : c_U G := by
  have en : c_n G = c_n H := V.1 2
  unfold c_U
  rw [en]
  refine c_UL_cg U (fun p _ hp => c_d_vw V (by omega) (by decide)) (fun k hk => c_d_vw V hk.2.1 (by omega)) (fun k => ?_) (fun k hk => ?_)
  · unfold c_Lk
    rw [en]
    constructor
    · rintro ⟨g1, g2, g3⟩
      rw [c_d_vw V g2 (by decide)] at g3
      exact ⟨g1, g2, g3⟩
    · rintro ⟨g1, g2, g3⟩
      rw [← c_d_vw V g2 (by decide)] at g3
      exact ⟨g1, g2, g3⟩
  · unfold c_pt
    rw [c_d_vw V hk.2.1 (by omega)]
theorem c_sn_vw (T : c_T H d nn) (V : c_vw H G) {t : Nat} (ht : c_R H t) : c_sn G t = c_sn H t := by
  have r := T.2.2.2.2.2.2.2.2.2.1 t ht
  have w1 := r.2.1
  have w2 := r.2.2.1
  have w3 := r.2.2.2.1
  clear r
  unfold c_sn
  rw [c_d_vw V ht.2 (by decide), c_d_vw V ht.2 (by decide)]
  exact m_sl_cg (fun k hk => V.2.2.1 _ (by omega))
/-- from one state of Terms to a later one: rows keep what they stand for -/
def c_ex (H : sw_H) (d : Nat → Wt) (X : sw_H) (e : Nat → Wt) : Prop := c_ft H X ∧ c_n H ≤ c_n X ∧ ∀ u : Nat, (u : Int) ≤ c_n H → e u = d u
theorem c_ex_refl (H : sw_H) (d : Nat → Wt) : c_ex H d H d := ⟨c_ft_refl H, Int.le_refl _, fun _ _ => rfl⟩
theorem c_ex_trans {f : Nat → Wt} (h : c_ex H d G e) (k : c_ex G e X f) : c_ex H d X f := ⟨c_ft_trans h.1 k.1, by have := h.2.1; have := k.2.1; omega, fun u hu => (k.2.2 u (by have := h.2.1; omega)).trans (h.2.2 u hu)⟩
theorem c_addA (A : c_A H d nn K tl) (F : c_F H) (qq : c_q H cn cs) (h : c_row H r ra l) (hr : ¬ c_ow H r) (hra : ¬ c_ow H ra) (room : c_room H l.length) (v : c_va H (c_n H) s a b c) (hv : ∀ x ∈ l, m_vs (c_n H) x) (hl0 : s = 0 → l = []) (hcode : s ≠ 0 → code = c_code s a b c l) (hno : s ≠ 0 → ∀ t, c_R H t → ¬ c_ct H s a b c l t) (k : ∀ X, c_A X (w_up d (c_n H + 1).toNat (w_new d nn s a b c l)) (if s = 0 then nn + 1 else nn) K tl → c_F X → c_q X cn cs → c_ex H d X (w_up d (c_n H + 1).toNat (w_new d nn s a b c l)) → c_n X = c_n H + 1 → sw_iv X 3 4 = sw_iv H 3 4 + l.length → P (c_n H + 1) X) : wm_251 3 s a b c r code H P := by
  obtain ⟨T, Z, n4, n5, U, hK, hN, h9⟩ := A
  have t1 := T.2.2.1
  have m1 := room.1
  have m2 := room.2.1
  have m5 := room.2.2.2.2
  refine c_add_head qq T Z F n4 n5 h hr hra room (fun G TG ZG FG ftG V hG hrG hraG g1 g2 g3 g4 qG => ?_)
  have en : c_n G = c_n H := V.1 2
  have e4 : sw_iv G 3 4 = sw_iv H 3 4 := V.1 4
  have e7 : sw_iv G 3 7 = sw_iv H 3 7 := V.1 7
  have l5 := V.2.2.2.2.1
  have ty4 : sw_ty H 4 ≠ 0 := by rw [T.1.2.2.2.2.2.2.2.2.2.2.2.1.1]; decide
  have ty5 : sw_ty H 5 ≠ 0 := by rw [T.1.2.2.2.2.2.2.2.2.2.2.2.1.2.2.1]; decide
  have n4G := c_ft_no ftG ty4 n4
  have n5G := c_ft_no ftG ty5 n5
  have UG := c_U_vw V t1 U
  have h01G : c_01 G := fun t ht => by
    rw [en] at ht
    rw [c_d_vw V ht (by decide)]
    exact hK.1 t ht
  have vG : c_va G (c_n G) s a b c := by
    rw [en]
    exact c_va_up (Int.le_refl _) (fun t ht => c_d_vw V ht (by decide)) v
  have noG : s ≠ 0 → ∀ t, c_R G t → ¬ c_ct G s a b c l t := fun hs t ht hc => by
    have ht' : c_R H t := by
      unfold c_R at ht ⊢
      rw [en] at ht
      exact ht
    unfold c_ct at hc
    rw [c_d_vw V ht'.2 (by decide), c_d_vw V ht'.2 (by decide), c_d_vw V ht'.2 (by decide), c_d_vw V ht'.2 (by decide), c_sn_vw T V ht'] at hc
    exact hno hs t ht' hc
  rw [← en]
  rw [← en] at g1 qG
  rw [← e4] at g2 qG
  rw [← e7] at qG
  refine c_write TG hG hrG hraG g1 g2 (fun W w => ?_)
  refine c_wrfin qG TG ZG FG n4G n5G UG h01G vG (by rw [en]; exact hv) hl0 hcode noG g1 g2 (by omega) (fun c => by rw [l5, en] at c; have erc : c_rc H = 2 * sw_ln H (sw_rv H 3 5) := if_pos c; rw [l5]; omega) (by rw [l5]; omega) w (fun X TX ZX FX ftX UX h01X qX ad => ?_)
  have ad' : c_ad H X s a b c l := by
    obtain ⟨a1, a2, a3, a4, x0, x1, x2, x3, x8, x9, a5, a6, a7⟩ := ad
    have r6 : sw_rv G 3 6 = sw_rv H 3 6 := V.2.2.2.2.2.1
    have ty6 : sw_ty H (sw_rv H 3 6) ≠ 0 := by rw [T.1.2.2.2.2.1]; decide
    rw [en] at a1 x0 x1 x2 x3 x8 x9
    refine ⟨a1, by rw [a2, e4], fun f f1 f2 => (a3 f f1 f2).trans (V.1 f), fun t k ht hk => by rw [a4 t k (by rw [en]; exact ht) hk, c_d_vw V ht (by omega)], x0, x1, x2, x3, x8, x9, a5.trans r6, fun j => ?_, ?_⟩
    · have := V.2.2.2.2.2.2 j
      rw [r6] at this a6
      rw [a6, this]
    · rw [r6] at a7
      rw [a7, (ftG.1.2 _ ty6).2]
  rw [en] at TX ⊢
  have he : ∀ u : Nat, (u : Int) ≤ c_n H → w_up d (c_n H + 1).toNat (w_new d nn s a b c l) u = d u := fun u hu => w_up_ne (by omega)
  have ft := c_ft_trans ftG ftX
  have hnew : w_up d (c_n H + 1).toNat (w_new d nn s a b c l) (c_n H + 1).toNat ∉ tl := fun hm => by
    obtain ⟨i, hi⟩ := List.getElem?_of_mem hm
    obtain ⟨t, q1, q2, q3⟩ := hN.2.2.1 i _ hi
    have q4 := q1.2
    have cnX := ad'.1
    have := TX.2.2.2.2.2.2.2.2.2.2.1 t (c_n H + 1).toNat ⟨q1.1, by omega⟩ ⟨by omega, by omega⟩ (by rw [he t q1.2]; exact q3)
    omega
  refine k X ⟨TX, ZX, c_ft_no ft ty4 n4, c_ft_no ft ty5 n5, UX, c_K_ad T TX he hK ad' h01X, c_N_ad he hnew hN ad', by rw [ad'.2.2.1 9 (by decide) (by decide)]; exact h9⟩ FX qX ⟨ft, by have := ad'.1; omega, he⟩ ad'.1 ad'.2.1
theorem c_name (A : c_A H d nn K tl) (F : c_F H) (qq : c_q H cn cs) (room : c_room H 0) (k : ∀ X, c_A X (w_up d (c_n H + 1).toNat (w_nm nn)) (nn + 1) K tl → c_F X → c_q X cn cs → c_ex H d X (w_up d (c_n H + 1).toNat (w_nm nn)) → c_n X = c_n H + 1 → sw_iv X 3 4 = sw_iv H 3 4 → P (c_n H + 1) X) : wm_143 3 H P := by
  have A' := A
  obtain ⟨T, Z, n4, n5, U, hK, hN, h9⟩ := A'
  have t1 := T.2.2.1
  obtain ⟨s1, s2, s3, s4, s5, s6, s7, s8, s9, s10, s11, s12, s13⟩ := T.1
  unfold wm_143
  refine ⟨by rw [s13]; exact s12.1, ?_⟩
  intro q1 e1
  rw [e1, s13]
  refine c_addA (l := []) A F qq s12 n4 n5 room ⟨by omega, by omega, by omega, by omega, by omega, by omega, by omega, by omega, by omega, by omega, by omega, by omega, by omega, by omega⟩ (by simp) (fun _ => rfl) (fun h => absurd rfl h) (fun h => absurd rfl h) (fun X AX FX qX ex nX uX _ _ => ?_)
  exact k X AX FX qX ex nX (by rw [uX]; simp)
/-- of -/
theorem c_ofA (A : c_A H d nn K tl) (F : c_F H) (qq : c_q H cn cs) (h : c_row H r ra l) (hr : ¬ c_ow H r) (hra : ¬ c_ow H ra) (room : c_room H l.length) (hs0 : s ≠ 0) (v : c_va H (c_n H) s a b c) (hv : ∀ x ∈ l, m_vs (c_n H) x) (k : ∀ X e (t : Nat), c_A X e nn K tl → c_F X → c_q X cn cs → c_ex H d X e → c_R X t → e t = w_tm d s a b c l → ((X = H ∧ e = d) ∨ (c_n X = c_n H + 1 ∧ sw_iv X 3 4 = sw_iv H 3 4 + l.length ∧ ∀ t, c_R H t → d t ≠ w_tm d s a b c l)) → P t X) : wm_145 3 s a b c r H P := by
  have T := A.1
  have t1 := T.2.2.1
  refine c_of T h hs0 (fun t ht hc => ?_) (fun hno => ?_)
  · obtain ⟨q1, q2, q3, q4, q5⟩ := hc
    have rw1 := (T.2.2.2.2.2.2.2.2.2.1 t ht).2.2.2.2.2.1 (by rw [q1]; exact hs0)
    have := rw1.1
    rw [q1, q2, q3, q4, q5] at this
    exact k H d t A F qq (c_ex_refl H d) ht this (Or.inl ⟨rfl, rfl⟩)
  · refine c_addA A F qq h hr hra room v hv (fun h => absurd h hs0) (fun _ => rfl) (fun _ => hno) (fun X AX FX qX ex nX uX _ _ => ?_)
    rw [if_neg hs0] at AX
    have ew : w_new d nn s a b c l = w_tm d s a b c l := if_neg hs0
    rw [ew] at AX ex
    have hT : (((c_n H + 1).toNat : Nat) : Int) = c_n H + 1 := by omega
    rw [← hT]
    refine k X _ (c_n H + 1).toNat AX FX qX ex ⟨by omega, by omega⟩ w_up_eq (Or.inr ⟨nX, uX, fun t ht e => ?_⟩)
    have h2 := ht.2
    have := AX.1.2.2.2.2.2.2.2.2.2.2.1 t (c_n H + 1).toNat ⟨ht.1, by omega⟩ ⟨by omega, by omega⟩ (by rw [ex.2.2 t h2, e, w_up_eq])
    omega
end
end
