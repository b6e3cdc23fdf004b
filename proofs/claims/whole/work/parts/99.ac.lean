/-! ===== the class: the table behind add ===== -/
noncomputable section
section
variable {G X : sw_H} {d : Nat → Wt} {nn : Nat} {s a b c code : Int} {l : List Int}
theorem c_g (T : c_T G d nn) : g_ok (c_n G) d := by
  obtain ⟨S, D, t1, t2, t3, t4, t5, t6, t7, t8, t9, _⟩ := T
  refine ⟨fun t u a1 a2 b1 b2 e => t9 t u ⟨a1, a2⟩ ⟨b1, b2⟩ e, fun t h1 h2 => ?_⟩
  have r := t8 t ⟨h1, h2⟩
  have v1 := r.1.1
  have v2 := r.1.2.1
  have n1 := r.2.2.2.2.2.1
  have n2 := r.2.2.2.2.2.2
  by_cases c0 : c_d G t 0 = 0
  · rcases n2 c0 with ⟨_, e⟩ | ⟨_, i, _, e⟩
    · exact ⟨0, _, by omega, e⟩
    · exact ⟨8, [[i]], by omega, e⟩
  · exact ⟨(c_d G t 0).toNat, _, by omega, (n1 c0).1⟩
theorem c_va_pt {H : sw_H} {n : Int} (v : c_va H n s a b c) : g_pt n s a b c := ⟨v.1, v.2.2.1, v.2.2.2.1, v.2.2.2.2.1, v.2.2.2.2.2.1, v.2.2.2.2.2.2.1, v.2.2.2.2.2.2.2.2.1⟩
theorem c_va_up {H K : sw_H} {n n' : Int} (h : n ≤ n') (hI : ∀ t : Nat, (t : Int) ≤ n → c_d K t 0 = c_d H t 0) (v : c_va H n s a b c) : c_va K n' s a b c := by
  obtain ⟨v1, v2, v3, v4, v5, v6, v7, v8, v9, v10, v11, v12, v13, v14⟩ := v
  refine ⟨v1, v2, v3, by omega, v5, by omega, v7, v8, fun h => by have := v9 h; omega, v10, v11, v12, v13, fun h => ?_⟩
  obtain ⟨w1, w2, w3⟩ := v14 h
  exact ⟨w1, by rw [hI _ (by omega)]; exact w2, w3⟩
/-- what the new row stands for -/
def w_new (d : Nat → Wt) (nn : Nat) (s a b c : Int) (l : List Int) : Wt := if s = 0 then w_nm nn else w_tm d s a b c l
theorem c_T_new (T : c_T G d nn) (S : c_S X) (D : c_D X) (en : c_n X = c_n G + 1) (eu : sw_iv X 3 4 = sw_iv G 3 4 + l.length) (hd : ∀ t k : Nat, (t : Int) ≤ c_n G → k ≤ 6 → c_d X t k = c_d G t k) (x0 : c_d X (c_n G + 1).toNat 0 = s) (x1 : c_d X (c_n G + 1).toNat 1 = a) (x2 : c_d X (c_n G + 1).toNat 2 = b) (x3 : c_d X (c_n G + 1).toNat 3 = c) (x4 : c_d X (c_n G + 1).toNat 4 = sw_iv G 3 4) (x5 : c_d X (c_n G + 1).toNat 5 = l.length) (x6 : c_d X (c_n G + 1).toNat 6 = code) (hs : ∀ j : Nat, (j : Int) < sw_iv G 3 4 → sw_iv X (sw_rv X 3 3) j = sw_iv G (sw_rv G 3 3) j) (hl : m_sl (sw_iv X (sw_rv X 3 3)) (sw_iv G 3 4).toNat l.length = l) (l1 : 14 * (c_n X + 1) ≤ sw_ln X (sw_rv X 3 1)) (l2 : sw_iv X 3 4 ≤ sw_ln X (sw_rv X 3 3)) (l3 : c_n X ≤ sw_ln X (sw_rv X 3 5)) (l4 : ∃ p, 1 ≤ p ∧ p ≤ 27 ∧ sw_ln X (sw_rv X 3 5) = 2 ^ p) (l5 : sw_ln X (sw_rv X 3 1) = 14 * sw_ln X (sw_rv X 3 8)) (hc : c_CH X ((c_n G + 1).toNat + 1)) (v : c_va G (c_n G) s a b c) (hv : ∀ x ∈ l, m_vs (c_n G) x) (hl0 : s = 0 → l = []) (hcode : s ≠ 0 → code = c_code s a b c l) (hno : s ≠ 0 → ∀ t, c_R G t → ¬ c_ct G s a b c l t) : c_T X (w_up d (c_n G + 1).toNat (w_new d nn s a b c l)) (if s = 0 then nn + 1 else nn) := by
  have gk := c_g T
  have T' := T
  obtain ⟨S0, D0, t1, t2, t3, t4, t5, t6, t7, t8, t9, _⟩ := T'
  have he : ∀ u : Nat, (u : Int) ≤ c_n G → w_up d (c_n G + 1).toNat (w_new d nn s a b c l) u = d u := fun u hu => w_up_ne (by omega)
  have hsn : ∀ t, c_R G t → c_sn X t = c_sn G t := fun t ht => by
    have r := t8 t ht
    have w1 := r.2.1
    have w2 := r.2.2.1
    have w3 := r.2.2.2.1
    clear r
    unfold c_sn
    rw [hd t 4 ht.2 (by decide), hd t 5 ht.2 (by decide)]
    exact m_sl_cg (fun k hk => hs _ (by omega))
  have snT : c_sn X (c_n G + 1).toNat = l := by
    unfold c_sn
    rw [x4, x5, Int.toNat_natCast]
    exact hl
  have hRc : ∀ t, c_R X t → c_R G t ∨ t = (c_n G + 1).toNat := fun t ht => by
    have h1 := ht.1
    have h2 := ht.2
    by_cases ct : (t : Int) ≤ c_n G
    · exact Or.inl ⟨h1, ct⟩
    · exact Or.inr (by omega)
  have hnew : ∀ t, c_R G t → d t ≠ w_new d nn s a b c l := by
    intro t ht e
    have ht1 := ht.1
    have ht2 := ht.2
    have r := t8 t ht
    have rv := r.1
    have rs := r.2.2.2.2.1
    have n1 := r.2.2.2.2.2.1
    have n2 := r.2.2.2.2.2.2
    clear r
    unfold w_new at e
    by_cases s0 : s = 0
    · rw [if_pos s0] at e
      by_cases c0 : c_d G t 0 = 0
      · rcases n2 c0 with ⟨_, q⟩ | ⟨_, i, hi, q⟩
        · rw [q] at e
          have := (w_mk_inj e).1
          omega
        · rw [q] at e
          have := (w_mk_inj e).2
          simp at this
          omega
      · rw [(n1 c0).1] at e
        have := (w_mk_inj e).1
        have := rv.1
        have := rv.2.1
        omega
    · rw [if_neg s0] at e
      have v1 := v.1
      have v2 := v.2.1
      by_cases c0 : c_d G t 0 = 0
      · rcases n2 c0 with ⟨_, q⟩ | ⟨_, i, hi, q⟩
        · rw [q] at e
          have := (w_mk_inj e).1
          omega
        · rw [q] at e
          have := (w_mk_inj e).1
          omega
      · rw [(n1 c0).1] at e
        obtain ⟨y1, y2, y3, y4, y5⟩ := g_tm_inj gk (c_va_pt (c_va_up (K := G) (n' := c_n G) (by omega) (fun _ _ => rfl) rv)) (c_va_pt v) (fun x hx => m_vs_up (by omega) (rs x hx)) hv e
        exact hno s0 t ht ⟨y1, y2, y3, y4, y5⟩
  obtain ⟨ch, a1, a2, a3⟩ := hc
  refine ⟨S, D, by omega, l1, by omega, l2, l3, l4, l5, fun t ht => ?_, fun t u ht hu e => ?_, ch, a1, fun b t ht => ?_, fun t ht h0 => ?_⟩
  · rcases hRc t ht with ht | ht
    · have ht1 := ht.1
      have ht2 := ht.2
      have r := t8 t ht
      obtain ⟨rv, w1, w2, w3, w4, w5, w6⟩ := r
      refine ⟨?_, ?_, ?_, ?_, ?_, ?_, ?_⟩
      · rw [hd t 0 ht2 (by decide), hd t 1 ht2 (by decide), hd t 2 ht2 (by decide), hd t 3 ht2 (by decide)]
        exact c_va_up (Int.le_refl _) (fun u hu => hd u 0 (by omega) (by decide)) rv
      · rw [hd t 4 ht2 (by decide)]; exact w1
      · rw [hd t 5 ht2 (by decide)]; exact w2
      · rw [hd t 4 ht2 (by decide), hd t 5 ht2 (by decide), eu]
        clear w5 w6 rv
        omega
      · rw [hsn t ht]; exact w4
      · rw [hd t 0 ht2 (by decide), hd t 1 ht2 (by decide), hd t 2 ht2 (by decide), hd t 3 ht2 (by decide), hd t 6 ht2 (by decide), hsn t ht]
        intro h0
        obtain ⟨z1, z2⟩ := w5 h0
        refine ⟨?_, z2⟩
        rw [he t ht2, z1]
        exact (g_tm_e (n := (t : Int) - 1) (fun u hu => he u (by omega)) (c_va_pt rv) w4).symm
      · rw [hd t 0 ht2 (by decide), hd t 5 ht2 (by decide), he t ht2]
        intro h0
        rcases w6 h0 with h | ⟨h1, i, h2, h3⟩
        · exact Or.inl h
        · refine Or.inr ⟨h1, i, ?_, h3⟩
          split <;> omega
    · rw [ht]
      refine ⟨?_, ?_, ?_, ?_, ?_, ?_, ?_⟩
      · rw [x0, x1, x2, x3]
        exact c_va_up (n := c_n G) (by omega) (fun u hu => hd u 0 hu (by decide)) v
      · rw [x4]; exact t3
      · rw [x5]; omega
      · rw [x4, x5, eu]; omega
      · rw [snT]
        intro x hx
        exact m_vs_up (by omega) (hv x hx)
      · rw [x0, x1, x2, x3, x6, snT]
        intro h0
        refine ⟨?_, hcode h0⟩
        have q := g_tm_e he (c_va_pt v) hv
        rw [w_up_eq, q]
        exact if_neg h0
      · rw [x0, x5]
        intro h0
        refine Or.inr ⟨⟨by omega, by rw [hl0 h0]; rfl⟩, nn, by rw [if_pos h0]; omega, ?_⟩
        rw [w_up_eq]
        unfold w_new
        rw [if_pos h0]
  · rcases hRc t ht with ht | ht
    · rcases hRc u hu with hu | hu
      · rw [he t ht.2, he u hu.2] at e
        exact t9 t u ht hu e
      · rw [he t ht.2, hu, w_up_eq] at e
        exact absurd e (hnew t ht)
    · rcases hRc u hu with hu | hu
      · rw [he u hu.2, ht, w_up_eq] at e
        exact absurd e.symm (hnew u hu)
      · rw [ht, hu]
  · have := a2 b t ht
    exact ⟨this.1, by omega⟩
  · exact a3 t ht.1 (by have := ht.2; omega) h0
end
end
