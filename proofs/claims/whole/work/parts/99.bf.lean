/-! ===== the class: treeHash ===== -/
noncomputable section
theorem c_above_k : ∀ f : Fin 16, ∀ k : Fin 5, sw_w ((sw_w ((sw_shl (sw_shr (f.val : Int) (k.val : Int)) (sw_w ((k.val : Int) + 1))) + (sw_shl 1 (k.val : Int)))) - 1) = ((f.val / 2 ^ k.val * 2 ^ (k.val + 1) + 2 ^ k.val - 1 : Nat) : Int) := by decide +kernel
theorem c_first_k : ∀ x : Fin 31, sw_shl (sw_shr (x.val : Int) (sw_w ((w_h x.val : Int) + 1))) (w_h x.val : Int) = (((x.val + 1 - 2 ^ w_h x.val) / 2 : Nat) : Int) ∧ (x.val + 1 - 2 ^ w_h x.val) / 2 < 16 := by decide +kernel
theorem c_left_k : ∀ a : Fin 5, ∀ b : Fin 5, b.val ≤ a.val → sw_shl 1 (sw_w ((a.val : Int) - (b.val : Int))) = ((2 ^ (a.val - b.val) : Nat) : Int) := by decide +kernel
theorem c_start_k : ∀ x : Fin 31, ∀ k : Fin 5, k.val ≤ w_h x.val → 2 ^ w_h x.val ≤ x.val + 1 → (x.val + 1 - 2 ^ w_h x.val) / 2 / 2 ^ k.val * 2 ^ (k.val + 1) + 2 ^ k.val - 1 = x.val + 2 ^ k.val - 2 ^ w_h x.val ∧ (x.val + 2 ^ k.val - 2 ^ w_h x.val) + 2 ^ (w_h x.val - k.val) * 2 ^ (k.val + 1) = x.val + 2 ^ w_h x.val + 2 ^ k.val ∧ 2 ^ (w_h x.val - k.val) ≤ 16 ∧ (x.val + 2 ^ k.val - 2 ^ w_h x.val) % 2 ^ (k.val + 1) = 2 ^ k.val - 1 := by decide +kernel
section
variable {H G X Y : sw_H} {d e f : Nat → Wt} {nn r ra : Nat} {K : Wt → Prop} {tl mk mm l : List Wt} {s a b c x cn cs N U M wo : Int} {Q : sw_H → Prop} {P : Int → sw_H → Prop} {A B : List Nat} {w wa wb : Wt} {T : w_T}
theorem c_above {f k : Nat} (hf : f < 16) (hk : k ≤ 4) (q : P ((f / 2 ^ k * 2 ^ (k + 1) + 2 ^ k - 1 : Nat) : Int) H) : wm_249 f k H P := by
  unfold wm_249
  rw [show sw_w ((sw_w ((sw_shl (sw_shr (f : Int) (k : Int)) (sw_w ((k : Int) + 1))) + (sw_shl 1 (k : Int)))) - 1) = ((f / 2 ^ k * 2 ^ (k + 1) + 2 ^ k - 1 : Nat) : Int) from c_above_k ⟨f, hf⟩ ⟨k, by omega⟩]
  exact q
theorem c_writeNodeK {p y k : Nat} (ek : w_h y = k) (hW : c_W H mk nn K tl cn cs) (hm : mk.length ≤ 999999999) (ht : c_tr H mk p T) (hy : y < t_w T) (hwo : sw_c wo) {hl hr : Wt} (kids : w_h y ≠ 0 → w_at mk (sw_iv H 16 (y - 2 ^ (w_h y - 1))) hl ∧ w_at mk (sw_iv H 16 (y + 2 ^ (w_h y - 1))) hr) (q : ∀ G, c_W G mk nn K tl cn cs → c_rr G mk 14 15 (w_nr T wo (w_h y) y hl hr) → (w_nr T wo (w_h y) y hl hr).length ≤ 100 → c_fr [14, 15] H G → Q G) : wm_341 11 p y k wo H Q := by
  rw [← ek]
  exact c_writeNode hW hm ht hy hwo kids q
def c_hs (H : sw_H) (mk : List Wt) (T : w_T) (wo : Int) (x k y : Nat) : Prop := ∀ z, w_in x z → (w_h z < k ∨ (w_h z = k ∧ z < y)) → w_at mk (sw_iv H 16 z) (w_th T wo z)
/-- one level -/
theorem c_tree_in {x k p : Nat} {k9 : Nat → Nat → Int → Int → Int → Int → Int → sw_H → Prop} {L : List Wt} {fi : Int} (lm : c_lm cn cs N U M) (hx : x + 2 ^ w_h x ≤ t_w T) (hx0 : 2 ^ w_h x ≤ x + 1) (hwo : sw_c wo) (hk : k ≤ w_h x) (ht : c_tr H mk p T) (fl : c_full H) (ad : c_ads H) (q : ∀ J, c_W J (w_tls mk (L ++ (w_seq (x + 2 ^ w_h x) (2 ^ (k + 1)) 16 (x + 2 ^ k - 2 ^ w_h x)).map (w_th T wo))) nn K tl cn cs → c_hs J (w_tls mk (L ++ (w_seq (x + 2 ^ w_h x) (2 ^ (k + 1)) 16 (x + 2 ^ k - 2 ^ w_h x)).map (w_th T wo))) T wo x (k + 1) 0 → c_ch [14, 15, 16] H J → k9 11 p x wo (w_h x) fi ((k + 1 : Nat) : Int) J) : ∀ (n y i : Nat) {G : sw_H} {R : List Nat}, w_seq (x + 2 ^ w_h x) (2 ^ (k + 1)) 16 (x + 2 ^ k - 2 ^ w_h x) = R ++ w_seq (x + 2 ^ w_h x) (2 ^ (k + 1)) n y → i ≤ n → n ≤ 16 → y + i * 2 ^ (k + 1) = x + 2 ^ w_h x + 2 ^ k → x + 2 ^ k ≤ y + 2 ^ w_h x → y % 2 ^ (k + 1) = 2 ^ k - 1 → c_W G (w_tls mk (L ++ R.map (w_th T wo))) nn K tl cn cs → c_hs G (w_tls mk (L ++ R.map (w_th T wo))) T wo x k y → c_ch [14, 15, 16] H G → c_bl (w_tls mk (L ++ (w_seq (x + 2 ^ w_h x) (2 ^ (k + 1)) 16 (x + 2 ^ k - 2 ^ w_h x)).map (w_th T wo))) tl N U M → wl_260_22 P k9 (n + 1) 11 p x wo (w_h x) fi k y i G := by
  have w31 := t_w31 ht.2.1.1
  have h4 := w_h_4 x
  have p1 : 2 ^ w_h x ≤ 16 := by
    have := Nat.pow_le_pow_right (n := 2) (by omega) h4
    omega
  have p2 : 2 ^ (k + 1) ≤ 32 := by
    have := Nat.pow_le_pow_right (n := 2) (by omega) (show k + 1 ≤ 5 by omega)
    omega
  have p3 : 2 ^ (k + 1) = 2 * 2 ^ k := by rw [Nat.pow_succ]; omega
  have p4 : 2 ^ k ≤ 2 ^ w_h x := Nat.pow_le_pow_right (by omega) hk
  have p5 : 0 < 2 ^ k := Nat.two_pow_pos k
  have fin : ∀ (n y : Nat) {G : sw_H} {R : List Nat}, w_seq (x + 2 ^ w_h x) (2 ^ (k + 1)) 16 (x + 2 ^ k - 2 ^ w_h x) = R ++ [] → x + 2 ^ w_h x ≤ y → c_W G (w_tls mk (L ++ R.map (w_th T wo))) nn K tl cn cs → c_hs G (w_tls mk (L ++ R.map (w_th T wo))) T wo x k y → c_ch [14, 15, 16] H G → wl_260_22 P k9 (n + 1) 11 p x wo (w_h x) fi k y 0 G := by
    intro n y G R e c1 hG hh fr
    rw [List.append_nil] at e
    have hh' : c_hs G (w_tls mk (L ++ R.map (w_th T wo))) T wo x (k + 1) 0 := by
      intro z hz hc
      refine hh z hz ?_
      have := hz.2
      omega
    unfold wl_260_22
    refine ⟨fun _ y1 e1 => ?_, fun c => by omega⟩
    rw [sw_w_s (by omega) (by omega)] at e1
    rw [e1, show (k : Int) + 1 = ((k + 1 : Nat) : Int) by omega]
    rw [e] at q
    exact q G hG hh' fr
  intro n
  induction n with
  | zero =>
    intro y i G R e i1 i2 c1 c3 c4 hG hh fr bd
    have i0 : i = 0 := by omega
    subst i0
    exact fin 0 y (by rw [e]; rfl) (by omega) hG hh fr
  | succ n ih =>
    intro y i G R e i1 i2 c1 c3 c4 hG hh fr bd
    by_cases c : x + 2 ^ w_h x ≤ y
    · have i0 : i = 0 := by
        cases i with
        | zero => rfl
        | succ i =>
          exfalso
          rw [Nat.succ_mul] at c1
          omega
      subst i0
      exact fin (n + 1) y (by rw [e, w_seq_s _ _ n y, if_pos c]) c hG hh fr
    · obtain ⟨j, ej⟩ : ∃ j, i = j + 1 := by
        cases i with
        | zero => exfalso; omega
        | succ i => exact ⟨i, rfl⟩
      subst ej
      have e' := e
      rw [w_seq_s _ _ n y, if_neg c, ← List.singleton_append, ← List.append_assoc] at e'
      have hy31 : y < 31 := by omega
      have hyk : w_h y = k := (w_h_mod hy31 (by omega)).mpr c4
      have yin : w_in x y := ⟨by omega, by omega⟩
      have en : w_tls mk (L ++ (R ++ [y]).map (w_th T wo)) = w_tl (w_tls mk (L ++ R.map (w_th T wo))) (w_th T wo y) := by
        rw [List.map_append, ← List.append_assoc, w_tls_app]
        rfl
      have bd2 : c_bl (w_tls mk (L ++ R.map (w_th T wo))) tl N U M := by
        rw [e, List.map_append, ← List.append_assoc, w_tls_app] at bd
        exact c_bl_le (w_tls_le _ _) bd
      have kids : w_h y ≠ 0 → w_at (w_tls mk (L ++ R.map (w_th T wo))) (sw_iv G 16 (y - 2 ^ (w_h y - 1))) (w_th T wo (y - 2 ^ (w_h y - 1))) ∧ w_at (w_tls mk (L ++ R.map (w_th T wo))) (sw_iv G 16 (y + 2 ^ (w_h y - 1))) (w_th T wo (y + 2 ^ (w_h y - 1))) := by
        intro h0
        have kk := (w_kids ⟨x, by omega⟩ ⟨y, hy31⟩ yin).2 h0
        obtain ⟨k1, k2, k3, k4, k5, k6⟩ := kk
        have k5 : w_h (y - 2 ^ (w_h y - 1)) = w_h y - 1 := k5
        have k6 : w_h (y + 2 ^ (w_h y - 1)) = w_h y - 1 := k6
        exact ⟨hh _ k3 (Or.inl (by rw [k5]; omega)), hh _ k4 (Or.inl (by rw [k6]; omega))⟩
      have r0 := ht.1.1
      have ht' : c_tr G (w_tls mk (L ++ R.map (w_th T wo))) p T := c_tr_ch ht fl ad fr (fun a ha => by simp at ha; omega) (w_tls_le _ _)
      have hml : (w_tls mk (L ++ R.map (w_th T wo))).length ≤ 999999999 := by
        have b1 := bd2.1
        have b2 := lm.2.2.1
        omega
      have eth : w_th T wo y = w_t 1 [] [] [] (w_nr T wo (w_h y) y (w_th T wo (y - 2 ^ (w_h y - 1))) (w_th T wo (y + 2 ^ (w_h y - 1)))) := by
        by_cases h0 : w_h y = 0
        · rw [w_th_0 T wo h0]
          unfold w_nr
          rw [if_pos rfl, if_pos h0]
        · exact w_th_s T wo hy31 h0
      have hC := hG.2.1
      have go : ∀ (J : sw_H), c_W J (w_tls mk (L ++ R.map (w_th T wo))) nn K tl cn cs → c_rr J (w_tls mk (L ++ R.map (w_th T wo))) 14 15 (w_nr T wo (w_h y) y (w_th T wo (y - 2 ^ (w_h y - 1))) (w_th T wo (y + 2 ^ (w_h y - 1)))) → (w_nr T wo (w_h y) y (w_th T wo (y - 2 ^ (w_h y - 1))) (w_th T wo (y + 2 ^ (w_h y - 1)))).length ≤ 100 → c_fr [14, 15] G J → ∀ (Z : Int → sw_H → Prop), (∀ X t, c_W X (w_tls mk (L ++ (R ++ [y]).map (w_th T wo))) nn K tl cn cs → w_at (w_tls mk (L ++ (R ++ [y]).map (w_th T wo))) t (w_th T wo y) → c_ch [14, 15] G X → Z t X) → wm_145 3 1 0 0 0 14 J Z := by
        intro J WJ rJ lJ fJ Z hZ
        refine c_hashL lm WJ.1 rJ (by omega) bd2 (fun X t a1 a2 a3 => ?_)
        have c0 : c_ch [14, 15] G J := c_V_ch hG.1 fJ (fun a ha => by simp at ha; unfold c_fix; omega)
        rw [← eth, ← en] at a1 a2
        have WX := c_W_ch WJ a1 a3 (by simp) (by rw [en]; exact w_le_tl _ _)
        exact hZ X t WX a2 (c_ch_sub (c_ch_trans c0 a3) (by simp))
      unfold wl_260_22
      refine ⟨fun cc => by omega, fun _ => ?_⟩
      refine c_writeNodeK hyk hG hml ht' (by omega) hwo kids (fun J WJ rJ lJ fJ _ => ?_)
      have hCJ := WJ.2.1
      have rv4 := hCJ.2.2.2.2.2.1
      have rv3 := hCJ.2.2.2.2.1
      have rv0 := hCJ.2.1
      have ty16 := hCJ.2.2.2.2.2.2.2.2.2.2.1
      obtain ⟨s0, hrow⟩ := WJ.2.2
      rw [rv4]
      refine ⟨ty16.1, ?_⟩
      intro q10 e10
      rw [rv0]
      refine ⟨WJ.1.1.1.1.1.1, ?_⟩
      intro q13 e13
      rw [rv3]
      refine ⟨hrow.1, ?_⟩
      intro q16 e16
      rw [e10, e13, e16]
      refine go J WJ rJ lJ fJ _ (fun X t WX aX cX => ?_)
      intro _ _
      have tyX := WX.2.1.2.2.2.2.2.2.2.2.2.2.1
      refine ⟨Int.natCast_nonneg _, by rw [tyX.2]; exact w_i31 hy31, ?_⟩
      intro H24 e24
      rw [Int.toNat_natCast] at e24
      intro y27 e27 y31 e31
      have ey : y27 = ((y + 2 ^ (k + 1) : Nat) : Int) := by
        rw [sw_shl_2 (show k ≤ 4 by omega)] at e27
        clear ih q fin kids go eth en
        generalize 2 ^ (k + 1) = Z at *
        rw [sw_w_s (by omega) (by omega)] at e27
        omega
      have ei : y31 = (j : Int) := by
        clear ih q fin kids go eth en ey e27
        rw [sw_w_s (by omega) (by omega)] at e31
        omega
      rw [ey, ei]
      clear ey ei e27 e31
      have f24 : c_fr [16] X H24 := by rw [e24]; exact c_fr_si _ _ _ _
      have W24 := c_W_fr WX f24 (fun a ha => by simp at ha; unfold c_fix; omega)
      have ch24 : c_ch [14, 15, 16] G H24 := c_ch_sub (c_ch_trans cX (c_V_ch WX.1 f24 (fun a ha => by simp at ha; unfold c_fix; omega))) (by simp)
      refine ih (y + 2 ^ (k + 1)) j (R := R ++ [y]) e' (by omega) (by omega) ?_ ?_ ?_ W24 ?_ (c_ch_t fr ch24) bd
      · rw [Nat.succ_mul] at c1
        omega
      · clear ih q fin kids go eth en
        omega
      · rw [Nat.add_mod_right]; exact c4
      · intro z hz hc
        by_cases hzy : z = y
        · rw [hzy, e24, c_si_eq]; exact aX
        · rw [e24, c_si_f hzy]
          have ev : sw_iv X 16 z = sw_iv G 16 z := (cX.2.1 16 (by rw [hC.2.2.2.2.2.2.2.2.2.2.1.1]; decide) (c_fix_no hG.1.2.2.2.2 (by unfold c_fix; omega)) (by simp)).1 z
          rw [ev]
          refine w_le_at ?_ (hh z hz ?_)
          · rw [en]; exact w_le_tl _ _
          · rcases hc with hc | ⟨hc1, hc2⟩
            · exact Or.inl hc
            · refine Or.inr ⟨hc1, ?_⟩
              have z31 : z < 31 := by have := hz.2; omega
              have zm := (w_h_mod z31 (by omega)).mp hc1
              rcases Nat.lt_or_ge z y with g | g
              · exact g
              · exfalso
                have m0 : (z - y) % 2 ^ (k + 1) = 0 := by
                  have := Nat.sub_mod_eq_zero_of_mod_eq (m := z) (n := y) (k := 2 ^ (k + 1)) (by rw [zm, c4])
                  exact this
                have lt : z - y < 2 ^ (k + 1) := by omega
                rw [Nat.mod_eq_of_lt lt] at m0
                omega
theorem c_treeHash {x p : Nat} (lm : c_lm cn cs N U M) (hx : x + 2 ^ w_h x ≤ t_w T) (hx0 : 2 ^ w_h x ≤ x + 1) (hW : c_W H mk nn K tl cn cs) (ht : c_tr H mk p T) (hwo : sw_c wo) (bd : c_bl (w_mkh T wo x mk) tl N U M) (q : ∀ t J, c_W J (w_mkh T wo x mk) nn K tl cn cs → w_at (w_mkh T wo x mk) t (w_th T wo x) → c_ch [14, 15, 16] H J → P t J) : wm_260 11 p x wo H P := by
  have w31 := t_w31 ht.2.1.1
  have h4 := w_h_4 x
  have p5 : 0 < 2 ^ w_h x := Nat.two_pow_pos _
  have p1 : 2 ^ w_h x ≤ 16 := by
    have := Nat.pow_le_pow_right (n := 2) (by omega) h4
    omega
  have fl := hW.1.2.2.2.1
  have ad := hW.1.2.2.2.2
  have h31 : x < 31 := by omega
  have fk := c_first_k ⟨x, h31⟩
  have fk1 : sw_shl (sw_shr (x : Int) (sw_w ((w_h x : Int) + 1))) (w_h x : Int) = (((x + 1 - 2 ^ w_h x) / 2 : Nat) : Int) := fk.1
  have fk2 : (x + 1 - 2 ^ w_h x) / 2 < 16 := fk.2
  clear fk
  unfold wm_260
  refine c_height h31 (fun _ _ => ?_)
  unfold wm_247
  rw [fk1]
  clear fk1
  intro _ _
  have lp : ∀ (n k : Nat) {G : sw_H} {L : List Nat}, w_ordk (w_h x) x (w_h x + 1) 0 = L ++ w_ordk (w_h x) x n k → k + n = w_h x + 1 → c_W G (w_tls mk (L.map (w_th T wo))) nn K tl cn cs → c_hs G (w_tls mk (L.map (w_th T wo))) T wo x k 0 → c_ch [14, 15, 16] H G → wl_260_9 P (n + 1) 11 p x wo (w_h x) (((x + 1 - 2 ^ w_h x) / 2 : Nat) : Int) k G := by
    intro n
    induction n with
    | zero =>
      intro k G L e c hG hh fr
      unfold wl_260_9
      have e : w_ordk (w_h x) x (w_h x + 1) 0 = L := by rw [e]; exact List.append_nil L
      refine ⟨fun _ => ?_, fun c => by omega⟩
      have hC := hG.2.1
      rw [hC.2.2.2.2.2.1]
      refine ⟨hC.2.2.2.2.2.2.2.2.2.2.1.1, ?_⟩
      intro q36 e36
      rw [e36]
      refine ⟨Int.natCast_nonneg _, by rw [hC.2.2.2.2.2.2.2.2.2.2.1.2]; exact w_i31 h31, ?_⟩
      intro v ev _
      rw [Int.toNat_natCast] at ev
      rw [ev]
      rw [← e] at hG hh
      exact q _ G hG (hh x ⟨by omega, by omega⟩ (Or.inl (by omega))) fr
    | succ n ih =>
      intro k G L e c hG hh fr
      have sk := c_start_k ⟨x, h31⟩ ⟨k, by omega⟩ (by show k ≤ w_h x; omega) hx0
      have sk1 : (x + 1 - 2 ^ w_h x) / 2 / 2 ^ k * 2 ^ (k + 1) + 2 ^ k - 1 = x + 2 ^ k - 2 ^ w_h x := sk.1
      have sk2 : (x + 2 ^ k - 2 ^ w_h x) + 2 ^ (w_h x - k) * 2 ^ (k + 1) = x + 2 ^ w_h x + 2 ^ k := sk.2.1
      have sk3 : 2 ^ (w_h x - k) ≤ 16 := sk.2.2.1
      have sk4 : (x + 2 ^ k - 2 ^ w_h x) % 2 ^ (k + 1) = 2 ^ k - 1 := sk.2.2.2
      clear sk
      have p4 : 2 ^ k ≤ 2 ^ w_h x := Nat.pow_le_pow_right (by omega) (by omega)
      have e' : w_ordk (w_h x) x (w_h x + 1) 0 = (L ++ w_seq (x + 2 ^ w_h x) (2 ^ (k + 1)) 16 (x + 2 ^ k - 2 ^ w_h x)) ++ w_ordk (w_h x) x n (k + 1) := by
        rw [e, List.append_assoc]
        rfl
      unfold wl_260_9
      refine ⟨fun c => by omega, fun _ => ?_⟩
      refine c_above fk2 (by omega) (fun _ _ => ?_)
      intro y50 e50
      have lk : sw_shl 1 (sw_w ((w_h x : Int) - (k : Int))) = ((2 ^ (w_h x - k) : Nat) : Int) := c_left_k ⟨w_h x, by omega⟩ ⟨k, by omega⟩ (by show k ≤ w_h x; omega)
      rw [lk] at e50
      rw [e50, sk1]
      clear lk e50
      have hle : c_bl (w_tls mk (L.map (w_th T wo) ++ (w_seq (x + 2 ^ w_h x) (2 ^ (k + 1)) 16 (x + 2 ^ k - 2 ^ w_h x)).map (w_th T wo))) tl N U M := by
        rw [← List.map_append]
        unfold w_mkh at bd
        rw [e', List.map_append, w_tls_app] at bd
        exact c_bl_le (w_tls_le _ _) bd
      refine ⟨17, c_tree_in (H := H) (nn := nn) (K := K) (L := L.map (w_th T wo)) lm hx hx0 hwo (by omega) ht fl ad ?_ 16 (x + 2 ^ k - 2 ^ w_h x) (2 ^ (w_h x - k)) (R := []) rfl sk3 (by omega) sk2 (by omega) sk4 ?_ ?_ fr hle⟩
      · intro J b1 b2 b3
        rw [← List.map_append] at b1 b2
        exact ih (k + 1) (L := L ++ w_seq (x + 2 ^ w_h x) (2 ^ (k + 1)) 16 (x + 2 ^ k - 2 ^ w_h x)) e' (by omega) b1 b2 b3
      · rw [List.map_nil, List.append_nil]; exact hG
      · rw [List.map_nil, List.append_nil]
        intro z hz hc
        refine hh z hz ?_
        have h1 := hz.1
        rcases hc with hc | ⟨hc1, hc2⟩
        · exact Or.inl hc
        · exfalso
          have z31 : z < 31 := by have := hz.2; omega
          have key : ∀ x : Fin 31, ∀ z : Fin 31, x.val + 1 ≤ z.val + 2 ^ w_h x.val ∧ z.val < x.val + 2 ^ w_h x.val → x.val + 2 ^ w_h z.val ≤ z.val + 2 ^ w_h x.val := by decide +kernel
          have := key ⟨x, h31⟩ ⟨z, z31⟩ hz
          have : x + 2 ^ w_h z ≤ z + 2 ^ w_h x := this
          rw [hc1] at this
          omega
  refine ⟨w_h x + 2, lp (w_h x + 1) 0 (L := []) rfl (by omega) hW ?_ (c_ch_sub (c_ft_ch (c_ft_refl H)) (by simp))⟩
  intro z hz hc
  omega
end
end
