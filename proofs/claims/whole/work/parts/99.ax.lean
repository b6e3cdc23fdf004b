/-! ===== the reference: treeHash, wanted ===== -/
noncomputable section
section
variable {I J : sr_V} {nn : Nat} {K : Wt → Prop} {tl mk mm l : List Wt} {a b c x wo : Int} {Q : Int → sr_V → Prop} {R : sr_V → Prop} {T : w_T} {s : Nat}
theorem w_seq_s (stop step n y : Nat) : w_seq stop step (n + 1) y = if stop ≤ y then [] else y :: w_seq stop step n (y + step) := rfl
theorem m_f2_tr (h : m_tr I mk s T) (f : m_f2 I J) : m_tr J mk s T := m_tr_fr h f (by simp)
/-- what the hashes made so far are -/
def m_hs (I : sr_V) (mk : List Wt) (T : w_T) (wo : Int) (x k y : Nat) : Prop := ∀ z, w_in x z → (w_h z < k ∨ (w_h z = k ∧ z < y)) → w_at mk (I 87 z) (w_th T wo z)
theorem m_bd_tls {L M : List Wt} (b : m_bd (w_tls mk (L ++ M))) : m_bd (w_tls mk L) := by
  rw [w_tls_app] at b
  exact m_bd_le (w_tls_le _ _) b
theorem sw_shl_1 {k : Nat} (h : k ≤ 4) : sw_shl 1 (k : Int) = ((2 ^ k : Nat) : Int) := by
  have key : ∀ k : Fin 5, sw_shl 1 (k.val : Int) = ((2 ^ k.val : Nat) : Int) := by decide +kernel
  exact key ⟨k, by omega⟩
theorem sw_shl_2 {k : Nat} (h : k ≤ 4) : sw_shl 2 (k : Int) = ((2 ^ (k + 1) : Nat) : Int) := by
  have key : ∀ k : Fin 5, sw_shl 2 (k.val : Int) = ((2 ^ (k.val + 1) : Nat) : Int) := by decide +kernel
  exact key ⟨k, by omega⟩
/-- one level -/
theorem r_tree_in {x k : Nat} {k5 : Int → Int → Int → Int → Int → sr_V → Prop} {L : List Wt} (hs : s < 49) (hx : x + 2 ^ w_h x ≤ t_w T) (hx0 : 2 ^ w_h x ≤ x + 1) (hwo : sw_c wo) (hk : k ≤ w_h x) (ht : m_tr I mk s T) (q : ∀ J, m_L J (w_tls mk (L ++ (w_seq (x + 2 ^ w_h x) (2 ^ (k + 1)) 16 (x + 2 ^ k - 2 ^ w_h x)).map (w_th T wo))) nn K tl → m_hs J (w_tls mk (L ++ (w_seq (x + 2 ^ w_h x) (2 ^ (k + 1)) 16 (x + 2 ^ k - 2 ^ w_h x)).map (w_th T wo))) T wo x (k + 1) 0 → m_f2 I J → k5 s x wo (w_h x) ((k + 1 : Nat) : Int) J) : ∀ (n y : Nat) {G : sr_V} {M : List Nat}, w_seq (x + 2 ^ w_h x) (2 ^ (k + 1)) 16 (x + 2 ^ k - 2 ^ w_h x) = M ++ w_seq (x + 2 ^ w_h x) (2 ^ (k + 1)) n y → x + 2 ^ w_h x ≤ y + n * 2 ^ (k + 1) → y < x + 2 ^ w_h x + 2 ^ (k + 1) → x + 2 ^ k ≤ y + 2 ^ w_h x → y % 2 ^ (k + 1) = 2 ^ k - 1 → m_L G (w_tls mk (L ++ M.map (w_th T wo))) nn K tl → m_hs G (w_tls mk (L ++ M.map (w_th T wo))) T wo x k y → m_f2 I G → m_bd (w_tls mk (L ++ (w_seq (x + 2 ^ w_h x) (2 ^ (k + 1)) 16 (x + 2 ^ k - 2 ^ w_h x)).map (w_th T wo))) → rl_135_18 Q k5 (n + 1) s x wo (w_h x) k y G := by
  have w31 := t_w31 ht.1.1
  have h4 := w_h_4 x
  have p1 : 2 ^ w_h x ≤ 16 := by
    have := Nat.pow_le_pow_right (n := 2) (by omega) h4
    omega
  have p2 : 2 ^ (k + 1) ≤ 32 := by
    have := Nat.pow_le_pow_right (n := 2) (by omega) (show k + 1 ≤ 5 by omega)
    omega
  have p3 : 2 ^ (k + 1) = 2 * 2 ^ k := by rw [Nat.pow_succ]; omega
  have p4 : 2 ^ k ≤ 2 ^ w_h x := Nat.pow_le_pow_right (by omega) hk
  have p5 : 0 < 2 ^ k := Nat.two_pow_pos k
  have fin : ∀ (n y : Nat) {G : sr_V} {M : List Nat}, w_seq (x + 2 ^ w_h x) (2 ^ (k + 1)) 16 (x + 2 ^ k - 2 ^ w_h x) = M ++ [] → x + 2 ^ w_h x ≤ y → y < x + 2 ^ w_h x + 2 ^ (k + 1) → m_L G (w_tls mk (L ++ M.map (w_th T wo))) nn K tl → m_hs G (w_tls mk (L ++ M.map (w_th T wo))) T wo x k y → m_f2 I G → rl_135_18 Q k5 (n + 1) s x wo (w_h x) k y G := by
    intro n y G M e c1 c2 hG hh fr
    rw [List.append_nil] at e
    unfold rl_135_18
    rw [sw_shl_1 h4, sw_shl_2 (show k ≤ 4 by omega)]
    have hh' : m_hs G (w_tls mk (L ++ M.map (w_th T wo))) T wo x (k + 1) 0 := by
      intro z hz hc
      refine hh z hz ?_
      have := hz.2
      omega
    generalize hP : 2 ^ w_h x = P at *
    rw [sw_w_s (z := (x : Int) + (P : Int)) (by omega) (by omega)]
    refine ⟨fun _ y1 e1 => ?_, fun c => by omega⟩
    rw [sw_w_s (by omega) (by omega)] at e1
    rw [e1, show (k : Int) + 1 = ((k + 1 : Nat) : Int) by omega]
    rw [e] at q
    exact q G hG hh' fr
  intro n
  induction n with
  | zero =>
    intro y G M e c1 c2 c3 c4 hG hh fr bd
    exact fin 0 y (by rw [e]; rfl) (by omega) c2 hG hh fr
  | succ n ih =>
    intro y G M e c1 c2 c3 c4 hG hh fr bd
    by_cases c : x + 2 ^ w_h x ≤ y
    · refine fin (n + 1) y (by rw [e, w_seq_s _ _ n y, if_pos c]) c c2 hG hh fr
    · have e' := e
      rw [w_seq_s _ _ n y, if_neg c, ← List.singleton_append, ← List.append_assoc] at e'
      have hy31 : y < 31 := by omega
      have hyk : w_h y = k := (w_h_mod hy31 (by omega)).mpr c4
      have yin : w_in x y := ⟨by omega, by omega⟩
      have en : w_tls mk (L ++ (M ++ [y]).map (w_th T wo)) = w_tl (w_tls mk (L ++ M.map (w_th T wo))) (w_th T wo y) := by
        rw [List.map_append, ← List.append_assoc, w_tls_app]
        rfl
      have bd' : m_bd (w_tl (w_tls mk (L ++ M.map (w_th T wo))) (w_th T wo y)) := by
        rw [← en]
        rw [e', List.map_append, ← List.append_assoc] at bd
        exact m_bd_tls bd
      have bd2 := m_bd_le (w_le_tl _ _) bd'
      have kids : w_h y ≠ 0 → w_at (w_tls mk (L ++ M.map (w_th T wo))) (G 87 (y - 2 ^ (w_h y - 1))) (w_th T wo (y - 2 ^ (w_h y - 1))) ∧ w_at (w_tls mk (L ++ M.map (w_th T wo))) (G 87 (y + 2 ^ (w_h y - 1))) (w_th T wo (y + 2 ^ (w_h y - 1))) := by
        intro h0
        have kk := (w_kids ⟨x, by omega⟩ ⟨y, hy31⟩ yin).2 h0
        obtain ⟨k1, k2, k3, k4, k5, k6⟩ := kk
        have k5 : w_h (y - 2 ^ (w_h y - 1)) = w_h y - 1 := k5
        have k6 : w_h (y + 2 ^ (w_h y - 1)) = w_h y - 1 := k6
        exact ⟨hh _ k3 (Or.inl (by rw [k5]; omega)), hh _ k4 (Or.inl (by rw [k6]; omega))⟩
      have ht' : m_tr G (w_tls mk (L ++ M.map (w_th T wo))) s T := m_tr_le (m_f2_tr ht fr) (w_tls_le _ _)
      unfold rl_135_18
      rw [sw_shl_1 h4, sw_shl_2 (show k ≤ 4 by omega)]
      refine ⟨fun cc => ?_, fun cc => ?_⟩
      · exfalso
        generalize hP : 2 ^ w_h x = P at *
        rw [sw_w_s (by omega) (by omega)] at cc
        omega
      · refine r_hashNode hs hG bd2.1 ht' (by omega) hwo kids bd' (fun J b1 b2 b3 b4 => ?_)
        intro y12 e12
        have ey : y12 = ((y + 2 ^ (k + 1) : Nat) : Int) := by
          generalize 2 ^ (k + 1) = P at *
          rw [sw_w_s (by omega) (by omega)] at e12
          omega
        rw [ey]
        clear ey e12 cc
        rw [← en] at b1 b2
        refine ih (y + 2 ^ (k + 1)) (M := M ++ [y]) e' ?_ (by omega) (by omega) ?_ b1 ?_ (m_fr_trans fr b4) bd
        · rw [Nat.succ_mul] at c1
          omega
        · rw [Nat.add_mod_right]; exact c4
        · intro z hz hc
          by_cases hzy : z = y
          · rw [hzy]; exact b2
          · rw [b3 z hzy]
            refine w_le_at ?_ (hh z hz ?_)
            · rw [en]; exact w_le_tl _ _
            · rcases hc with hc | ⟨hc1, hc2⟩
              · exact Or.inl hc
              · refine Or.inr ⟨hc1, ?_⟩
                have z31 : z < 31 := by have := hz.2; omega
                have zm := (w_h_mod z31 (by omega)).mp hc1
                rcases Nat.lt_or_ge z y with g | g
                · exact g
                · exfalso
                  have zy : z = y + (z - y) := by omega
                  have m0 : (z - y) % 2 ^ (k + 1) = 0 := by
                    have := Nat.sub_mod_eq_zero_of_mod_eq (m := z) (n := y) (k := 2 ^ (k + 1)) (by rw [zm, c4])
                    exact this
                  have lt : z - y < 2 ^ (k + 1) := by omega
                  rw [Nat.mod_eq_of_lt lt] at m0
                  omega
theorem r_treeHash {x : Nat} (hs : s < 49) (hx : x + 2 ^ w_h x ≤ t_w T) (hx0 : 2 ^ w_h x ≤ x + 1) (hL : m_L I mk nn K tl) (ht : m_tr I mk s T) (hwo : sw_c wo) (bd : m_bd (w_mkh T wo x mk)) (q : ∀ t J, m_L J (w_mkh T wo x mk) nn K tl → w_at (w_mkh T wo x mk) t (w_th T wo x) → m_f2 I J → Q t J) : rm_135 s x wo I Q := by
  have w31 := t_w31 ht.1.1
  have h4 := w_h_4 x
  have p5 : 0 < 2 ^ w_h x := Nat.two_pow_pos _
  have p1 : 2 ^ w_h x ≤ 16 := by
    have := Nat.pow_le_pow_right (n := 2) (by omega) h4
    omega
  have xm : x % 2 ^ (w_h x + 1) = 2 ^ w_h x - 1 := (w_h_mod (by omega) (by omega)).mp rfl
  unfold rm_135
  refine r_height (by omega) (fun _ => ?_)
  have lp : ∀ (n k : Nat) {G : sr_V} {L : List Nat}, w_ordk (w_h x) x (w_h x + 1) 0 = L ++ w_ordk (w_h x) x n k → k + n = w_h x + 1 → m_L G (w_tls mk (L.map (w_th T wo))) nn K tl → m_hs G (w_tls mk (L.map (w_th T wo))) T wo x k 0 → m_f2 I G → rl_135_5 Q (n + 1) s x wo (w_h x) k G := by
    intro n
    induction n with
    | zero =>
      intro k G L e c hG hh fr
      unfold rl_135_5
      have e : w_ordk (w_h x) x (w_h x + 1) 0 = L := by rw [e]; exact List.append_nil L
      refine ⟨fun _ => ⟨by omega, by omega, ?_⟩, fun c => by omega⟩
      intro v ev _
      rw [Int.toNat_natCast] at ev
      rw [ev]
      rw [← e] at hG hh
      refine q _ G hG (hh x ⟨by omega, by omega⟩ (Or.inl (by omega))) fr
    | succ n ih =>
      intro k G L e c hG hh fr
      have p3 : 2 ^ (k + 1) = 2 * 2 ^ k := by rw [Nat.pow_succ]; omega
      have p4 : 2 ^ k ≤ 2 ^ w_h x := Nat.pow_le_pow_right (by omega) (by omega)
      have p6 : 0 < 2 ^ k := Nat.two_pow_pos k
      have e' : w_ordk (w_h x) x (w_h x + 1) 0 = (L ++ w_seq (x + 2 ^ w_h x) (2 ^ (k + 1)) 16 (x + 2 ^ k - 2 ^ w_h x)) ++ w_ordk (w_h x) x n (k + 1) := by
        rw [e, List.append_assoc]
        rfl
      unfold rl_135_5
      refine ⟨fun c => by omega, fun _ => ?_⟩
      intro y20 e20
      have ey : y20 = ((x + 2 ^ k - 2 ^ w_h x : Nat) : Int) := by
        rw [sw_shl_1 h4, sw_shl_1 (show k ≤ 4 by omega)] at e20
        generalize 2 ^ w_h x = P at *
        generalize 2 ^ k = R at *
        rw [sw_w_s (z := (x : Int) - (P : Int)) (by omega) (by omega), sw_w_s (by omega) (by omega)] at e20
        omega
      rw [ey]
      clear ey e20
      refine ⟨17, r_tree_in (I := I) (nn := nn) (K := K) (tl := tl) (L := L.map (w_th T wo)) hs hx hx0 hwo (by omega) ht ?_ 16 (x + 2 ^ k - 2 ^ w_h x) (M := []) rfl (by omega) (by omega) (by omega) ?_ ?_ ?_ fr ?_⟩
      · intro J b1 b2 b3
        rw [← List.map_append] at b1 b2
        exact ih (k + 1) (L := L ++ w_seq (x + 2 ^ w_h x) (2 ^ (k + 1)) 16 (x + 2 ^ k - 2 ^ w_h x)) e' (by omega) b1 b2 b3
      · have key : ∀ x : Fin 31, ∀ k : Fin 5, k.val ≤ w_h x.val → 2 ^ w_h x.val ≤ x.val + 1 → (x.val + 2 ^ k.val - 2 ^ w_h x.val) % 2 ^ (k.val + 1) = 2 ^ k.val - 1 := by decide +kernel
        exact key ⟨x, by omega⟩ ⟨k, by omega⟩ (by show k ≤ w_h x; omega) hx0
      · rw [List.map_nil, List.append_nil]; exact hG
      · rw [List.map_nil, List.append_nil]
        intro z hz hc
        refine hh z hz ?_
        have h1 := hz.1
        rcases hc with hc | ⟨hc1, hc2⟩
        · exact Or.inl hc
        · exfalso
          have z31 : z < 31 := by have := hz.2; omega
          have key : ∀ x : Fin 31, ∀ z : Fin 31, x.val + 1 ≤ z.val + 2 ^ w_h x.val ∧ z.val < x.val + 2 ^ w_h x.val → x.val + 2 ^ w_h z.val ≤ z.val + 2 ^ w_h x.val := by decide +kernel
          have := key ⟨x, by omega⟩ ⟨z, z31⟩ hz
          have : x + 2 ^ w_h z ≤ z + 2 ^ w_h x := this
          rw [hc1] at this
          omega
      · rw [← List.map_append]
        unfold w_mkh at bd
        rw [e', List.map_append] at bd
        exact m_bd_tls bd
  refine ⟨w_h x + 2, lp (w_h x + 1) 0 (L := []) rfl (by omega) hL ?_ (m_fr_refl _ _ _)⟩
  intro z hz hc
  omega
end
end
