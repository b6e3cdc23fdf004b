/-! ===== how many changes; the reference: list ===== -/
noncomputable section
theorem n_nd_len : ∀ (n : Nat) (xs : List Nat), xs.Nodup → (∀ x ∈ xs, x < n) → xs.length ≤ n
  | 0, xs, _, h => by
    cases xs with
    | nil => exact Nat.le_refl _
    | cons x xs => have := h x (List.mem_cons_self ..); omega
  | n + 1, xs, nd, h => by
    by_cases c : n ∈ xs
    · have := n_nd_len n (xs.erase n) (nd.erase n) (fun x hx => by
        have hx2 := (List.Nodup.mem_erase_iff nd).mp hx
        have := h x hx2.2
        have := hx2.1
        omega)
      rw [List.length_erase_of_mem c] at this
      omega
    · have := n_nd_len n xs nd (fun x hx => by
        have h1 := h x hx
        have : x ≠ n := fun e => c (e ▸ hx)
        omega)
      omega
section
variable {T : w_T} {L : List w_Ch} {com : Int}
theorem h_len (h4 : t_dp T ≤ 4) (hok : ∀ c ∈ L, p_cok c.1) (hd : h_done T L com) : L.length ≤ 32 := by
  have d16 := t_d_16 h4
  have d0 : t_dp (h_0 T L) ≤ 4 := by
    unfold h_0 t_sh
    have := t_shn_dp (t_dp (h_fd h_r1 (h_fd h_u1 T L L.length) L L.length)) (T := h_fd h_r1 (h_fd h_u1 T L L.length) L L.length)
    rw [h_fr_dp, h_fu_dp] at this
    rw [h_fr_dp, h_fu_dp]
    omega
  have h1 := (h_room_iff d0 hok).mp hd.2.1
  have pw : L.Pairwise (fun a b => a.1.1 ≠ 1 → b.1.1 ≠ 1 → h_go a ≠ h_go b) := h_pw (q := fun c => c.1.1 ≠ 1) (fun j c hj h2 d hd2 d2 => ((hd.1 j c hj).2 h2).2.2.1 d hd2 d2)
  have go : ∀ c ∈ L, c.1.1 ≠ 1 → 0 ≤ h_go c ∧ h_go c < 16 := fun c hc h1 => by
    obtain ⟨j, hj⟩ := List.mem_iff_getElem?.mp hc
    obtain ⟨a, b, _⟩ := ((hd.1 j c hj).2 h1).2.1
    omega
  have nd : ((L.filter (fun c => decide (c.1.1 ≠ 1))).map (fun c => (h_go c).toNat)).Nodup := by
    unfold List.Nodup
    rw [List.pairwise_map, List.pairwise_filter]
    refine List.Pairwise.imp_of_mem (fun {a b} ha hb h h1 h2 e => ?_) pw
    have h1 := of_decide_eq_true h1
    have h2 := of_decide_eq_true h2
    have ga := go a ha h1
    have gb := go b hb h2
    exact h h1 h2 (by omega)
  have le := n_nd_len 16 _ nd (fun x hx => by
    obtain ⟨c, hc, rfl⟩ := List.mem_map.mp hx
    obtain ⟨hc, h1⟩ := List.mem_filter.mp hc
    have := go c hc (of_decide_eq_true h1)
    omega)
  rw [List.length_map, ← List.countP_eq_length_filter] at le
  have := List.length_eq_countP_add_countP (fun c : w_Ch => decide (c.1.1 = 1)) (l := L)
  have e : List.countP (fun a : w_Ch => decide ¬ decide (a.1.1 = 1) = true) L = List.countP (fun c : w_Ch => decide (c.1.1 ≠ 1)) L := by
    congr 1
    funext a
    simp
  unfold h_nad at h1
  omega
end
variable {I J X : sr_V} {nn fr mi s u k h : Nat} {K K' : Wt → Prop} {tl mk mm l : List Wt} {a b c y n S src m so com : Int} {Q : Int → sr_V → Prop} {R : sr_V → Prop} {x i e : Nat} {T T' T'' : w_T} {f : p_L} {L : List w_Ch} {d : w_Ch} {P : Nat → Nat → Prop} {v : p_C} {hs : Wt} {st : Nat × Nat}
/-- what listing touches -/
def m_pls (n : Nat) (f k : Nat) : Prop := m_pd f k ∨ (77 ≤ f ∧ f ≤ 82 ∧ k = n) ∨ (f = 1000 ∧ k = 76)
theorem r_list {x1 x3 : Int} (hli : m_li I mk K L) (hll : L.length < 1100) (hx : m_tk I mk K fr l) (hin : ((fr + l.length : Nat) : Int) ≤ I 1000 23) (he : e ≤ l.length) (hp : p_ct K l (some (i, e)) = some (v, st)) (e1 : x1 = ((fr + i : Nat) : Int)) (hpl : 0 ≤ a ∧ a < 65536) (h3 : w_az mk x3 hs) (q : ∀ J, m_li J mk K (L ++ [(v, a, hs)]) → m_gp (m_pls L.length) I J → R J) : rm_95 x1 a x3 I R := by
  have hok := p_ct_ok (m_tk_vl hx) he hp
  have hus := hli.2.2.1
  unfold rm_95
  intro v53 e53 _
  rw [hli.1] at e53
  subst e53
  refine ⟨by omega, by omega, ?_⟩
  intro I60 e60
  refine ⟨by omega, by omega, ?_⟩
  intro I65 e65
  rw [Int.toNat_natCast] at e60 e65
  have body : ∀ s0 : Int, (s0 = 0 ∨ s0 = 1) → s0 = (if hs = [] then 0 else 1) → rb_95_21 R a x3 (L.length : Nat) s0 (L.length : Nat) I65 := fun s0 h01 hs0 => by
    unfold rb_95_21
    refine ⟨by omega, by omega, h01, ?_⟩
    intro I15 e15
    refine ⟨by omega, by omega, ?_⟩
    intro I20 e20
    rw [Int.toNat_natCast] at e15 e20
    have g20 : m_gp (fun f k => (77 ≤ f ∧ f ≤ 82) ∧ k = L.length) I I20 := fun f k hn => by
      rw [e20, su_at, if_neg (by omega), e15, su_at, if_neg (by omega), e65, su_at, if_neg (by omega), e60, su_at, if_neg (by omega)]
    have v77 : I20 77 L.length = x1 := by rw [e20, su_f (by decide), e15, su_f (by decide), e65, su_f (by decide), e60, su_eq]
    have v78 : I20 78 L.length = a := by rw [e20, su_f (by decide), e15, su_f (by decide), e65, su_eq]
    have v82 : I20 82 L.length = s0 := by rw [e20, su_f (by decide), e15, su_eq]
    have v81 : I20 81 L.length = x3 := by rw [e20, su_eq]
    have hx20 : m_tk I20 mk K fr l := by
      unfold m_tk at hx ⊢
      have ef : ∀ f, f < 77 → I20 f = I f := fun f hf => funext (fun k => g20 f k (by omega))
      rw [ef 26 (by omega), ef 16 (by omega), ef 6 (by omega)]
      exact hx
    have e23 : I20 1000 23 = I 1000 23 := g20 _ _ (by omega)
    refine r_readListed hx20 (by rw [e23]; exact hus) (by rw [e23]; exact hin) (by omega) (by rw [v77, e1]) he hp (fun J hco _ _ fJ => ?_)
    have gJ : m_gp m_pd I20 J := m_pd_F fJ
    have fld : ∀ f k, 76 < f → f < 1000 → J f k = I20 f k := fun f k h1 h2 => gJ f k (by unfold m_pd; omega)
    obtain ⟨kd, ⟨ik, ⟨m, ky, p, so, ph, g0⟩, g⟩, n⟩ := v
    obtain ⟨h73, hc1, hc2, hc3⟩ := hco
    intro v31 e31 _
    rw [h73] at e31
    rw [e31]
    refine ⟨by omega, by omega, ?_⟩
    intro I35 e35
    rw [Int.toNat_natCast] at e35
    have k1000 : ∀ k, I35 1000 k = J 1000 k := fun k => by rw [e35, su_f (by decide)]
    have fin : ∀ s1 : Int, s1 = h_go ((kd, (ik, (m, ky, p, so, ph, g0), g), n), a, hs) → rb_95_54 R s1 (L.length : Nat) I35 := fun s1 hs1 => by
      unfold rb_95_54
      refine ⟨by omega, by omega, ?_⟩
      intro I2 e2 v6 e6 _ I10 e10
      rw [Int.toNat_natCast] at e2
      have : I2 1000 76 = L.length := by rw [e2, su_f (by decide), k1000, gJ 1000 76 (by unfold m_pd; omega), g20 1000 76 (by omega)]; exact hli.1
      rw [this] at e6
      rw [e6, sw_s1 (by omega)] at e10
      have gAll : m_gp (m_pls L.length) I I10 := fun f k hn => by
        unfold m_pls at hn
        rw [e10, su_at, if_neg (by omega), e2, su_at, if_neg (by omega), e35, su_at, if_neg (by omega), gJ f k (fun c => hn (Or.inl c)), g20 f k (by omega)]
      have at10 : ∀ f, 77 ≤ f → f ≤ 82 → f ≠ 79 → f ≠ 80 → I10 f L.length = I20 f L.length := fun f h1 h2 h3 h4 => by
        rw [e10, su_f (by omega), e2, su_f (by omega), e35, su_f (by omega)]; exact fld f _ (by omega) (by omega)
      have a79 : I10 79 L.length = kd := by rw [e10, su_f (by decide), e2, su_f (by decide), e35, su_eq]
      have a80 : I10 80 L.length = s1 := by rw [e10, su_f (by decide), e2, su_eq]
      have g23 : I10 1000 23 = I 1000 23 := gAll _ _ (by unfold m_pls m_pd; omega)
      have ef : ∀ f, f = 26 ∨ f = 16 ∨ f = 6 → I10 f = I f := fun f hf => funext (fun k => gAll f k (by unfold m_pls m_pd; omega))
      refine q I10 ⟨?_, ?_, by rw [g23]; exact hus, fun j c hj => ?_⟩ gAll
      · rw [e10, su_eq, List.length_append, List.length_singleton]
      · rw [List.length_append, List.length_singleton]; omega
      · rw [List.getElem?_append] at hj
        by_cases d : j < L.length
        · rw [if_pos d] at hj
          have hh := hli.2.2.2 j c hj
          have en : ∀ f, I10 f j = I f j ∨ f < 77 ∨ 82 < f := fun f => by
            by_cases c : 77 ≤ f ∧ f ≤ 82
            · exact Or.inl (gAll f j (by unfold m_pls m_pd; omega))
            · omega
          unfold m_le m_tk at hh ⊢
          rw [g23, ef 26 (by omega), ef 16 (by omega), ef 6 (by omega), (en 77).resolve_right (by omega), (en 78).resolve_right (by omega), (en 79).resolve_right (by omega), (en 80).resolve_right (by omega), (en 81).resolve_right (by omega), (en 82).resolve_right (by omega)]
          exact hh
        · rw [if_neg d] at hj
          have ej : j = L.length := by
            rcases Nat.eq_or_lt_of_le (Nat.le_of_not_lt d) with e | e
            · exact e.symm
            · rw [List.getElem?_eq_none (by simp; omega)] at hj; cases hj
          subst ej
          rw [Nat.sub_self] at hj
          cases hj
          refine ⟨⟨fr, l, i, e, st, ?_, by rw [g23]; exact hin, he, hp, by rw [at10 77 (by omega) (by omega) (by omega) (by omega), v77, e1]⟩, by rw [at10 78 (by omega) (by omega) (by omega) (by omega), v78], a79, by rw [a80, hs1], hok, hpl, by rw [at10 81 (by omega) (by omega) (by omega) (by omega), v81]; exact h3, by rw [at10 82 (by omega) (by omega) (by omega) (by omega), v82]; exact hs0⟩
          unfold m_tk at hx ⊢
          rw [ef 26 (by omega), ef 16 (by omega), ef 6 (by omega)]
          exact hx
    intro v39 e39 _
    have e39' : v39 = kd := by rw [e39, k1000, h73]
    subst e39'
    refine ⟨fun c1 => ?_, fun c1 => ?_⟩
    · intro v42 e42 _
      have e42' : v42 = v39 := by rw [e42, k1000, h73]
      subst e42'
      refine ⟨fun c2 => ?_, fun c2 => fin a (by unfold h_go; rw [if_neg c1, if_pos c2])⟩
      intro v45 e45 _
      rw [k1000, hc3 (by have := hok.1; have : v42 = 1 ∨ v42 = 2 ∨ v42 = 3 := this; omega)] at e45
      exact fin v45 (by unfold h_go; rw [if_neg c1, if_neg c2]; exact e45)
    · intro v49 e49 _
      obtain ⟨j, _, _, j3, _⟩ := hc1 c1
      rw [k1000, j3.1] at e49
      exact fin v49 (by unfold h_go; rw [if_pos c1]; exact e49)
  refine ⟨fun c => body 0 (Or.inl rfl) ?_, fun c => body 1 (Or.inr rfl) ?_⟩
  · rcases h3 with ⟨_, h⟩ | h
    · rw [if_pos h]
    · have := h.1; omega
  · rcases h3 with ⟨h, _⟩ | h
    · exact absurd h c
    · rw [if_neg ?_]
      intro ce
      rw [ce] at h
      have h1 := w_at_le h
      have h2 := (hx.2.2.2.1 x3.toNat (by omega) (by omega)).1
      rw [w_at_d h] at h2
      cases h2
end
