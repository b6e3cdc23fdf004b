/-! ===== sets of bits; the class: areRight's loop, areJoinersRight ===== -/
noncomputable section
/-- x is the set S -/
def b_is (x : Int) (S : Nat → Prop) : Prop := ∃ N : Nat, x = N ∧ N < 16777216 ∧ ∀ j, N.testBit j = true ↔ S j
section
variable {x : Int} {S : Nat → Prop} {t : Nat}
theorem b_0 : b_is 0 (fun _ => False) := ⟨0, rfl, by decide, fun j => by simp⟩
theorem sw_shl_24 (h : t < 24) : sw_shl 1 (t : Int) = ((2 ^ t : Nat) : Int) := by
  have key : ∀ k : Fin 24, sw_shl 1 (k.val : Int) = ((2 ^ k.val : Nat) : Int) := by decide +kernel
  exact key ⟨t, h⟩
theorem b_2 (h : t < 24) : 2 ^ t < 16777216 := by
  have : 2 ^ t < 2 ^ 24 := Nat.pow_lt_pow_right (by decide) h
  omega
theorem b_1 (h : t < 24) : b_is (sw_shl 1 (t : Int)) (fun j => j = t) := ⟨2 ^ t, sw_shl_24 h, b_2 h, fun j => by
  rw [Nat.testBit_two_pow]; simp; exact eq_comm⟩
theorem b_orn {a b : Nat} (ha : a < 16777216) (hb : b < 16777216) : sw_or (a : Int) (b : Int) = ((a ||| b : Nat) : Int) ∧ a ||| b < 16777216 := by
  have h1 : sw_or (a : Int) (b : Int) = ((Int32.ofInt (a : Int)).toBitVec ||| (Int32.ofInt (b : Int)).toBitVec).toInt := rfl
  have e1 : ((a : Int) % 4294967296).toNat = a := by omega
  have e2 : ((b : Int) % 4294967296).toNat = b := by omega
  have h2 : ((Int32.ofInt (a : Int)).toBitVec ||| (Int32.ofInt (b : Int)).toBitVec).toNat = a ||| b := by
    rw [BitVec.toNat_or, sw_nat, sw_nat, e1, e2]
  have h3 : a ||| b < 2 ^ 24 := Nat.or_lt_two_pow (by omega) (by omega)
  rw [sw_i_nat (by rw [h2]; omega), h2] at h1
  exact ⟨h1, by omega⟩
theorem b_or (h : b_is x S) (ht : t < 24) : b_is (sw_or x (sw_shl 1 (t : Int))) (fun j => S j ∨ j = t) := by
  obtain ⟨N, rfl, h1, h2⟩ := h
  rw [sw_shl_24 ht]
  obtain ⟨e1, e2⟩ := b_orn h1 (b_2 ht)
  refine ⟨_, e1, e2, fun j => ?_⟩
  rw [Nat.testBit_or, Nat.testBit_two_pow, Bool.or_eq_true, h2 j]
  simp
  constructor
  · rintro (h | h)
    · exact Or.inl h
    · exact Or.inr h.symm
  · rintro (h | h)
    · exact Or.inl h
    · exact Or.inr h.symm
theorem b_or0 (h : b_is x S) : sw_or x 0 = x := by
  obtain ⟨N, rfl, h1, h2⟩ := h
  have := (b_orn h1 (b := 0) (by decide)).1
  rw [Nat.or_zero] at this
  exact this
theorem b_and (h : b_is x S) (ht : t < 24) : sw_and x (sw_shl 1 (t : Int)) = 0 ↔ ¬ S t := by
  obtain ⟨N, rfl, h1, h2⟩ := h
  have h3 := b_2 ht
  rw [sw_shl_24 ht, sw_and_n (by omega) (by omega), ← h2 t]
  constructor
  · intro c hb
    have c : Nat.land N (2 ^ t) = 0 := by omega
    have e : (N &&& 2 ^ t).testBit t = true := by
      rw [Nat.testBit_and, Nat.testBit_two_pow, hb]; simp
    have c : N &&& 2 ^ t = 0 := c
    rw [c] at e
    simp at e
  · intro hb
    have e : N &&& 2 ^ t = 0 := by
      apply Nat.eq_of_testBit_eq
      intro i
      rw [Nat.testBit_and, Nat.testBit_two_pow, Nat.zero_testBit]
      by_cases c : t = i
      · subst c
        cases hv : N.testBit t with
        | false => rfl
        | true => exact absurd hv hb
      · simp [c]
    have e : Nat.land N (2 ^ t) = 0 := e
    rw [e]
    rfl
theorem b_shr (h : b_is x S) (ht : t < 24) : sw_and (sw_shr x (t : Int)) 1 = 0 ↔ ¬ S t := by
  obtain ⟨N, rfl, h1, h2⟩ := h
  rw [sw_bit (by unfold sw_c; omega) (by omega), ← h2 t]
  have e : w_bit (N : Int) t = (((N / 2 ^ t % 2 : Nat)) : Int) := by
    unfold w_bit
    rw [Int.natCast_emod, Int.natCast_ediv]
    rfl
  rw [e, Nat.testBit_eq_decide_div_mod_eq]
  have : N / 2 ^ t % 2 < 2 := Nat.mod_lt _ (by decide)
  simp only [decide_eq_true_eq]
  omega
end
variable {H G Z X : sw_H} {mk mm tl l : List Wt} {ms : List (List Wt)} {nn r ra k o h x y i e mi g : Nat} {K K' : Wt → Prop} {cn cs com : Int} {T T' : w_T} {f : p_L} {Q : sw_H → Prop} {P : Int → sw_H → Prop} {A B : List Nat} {L : List w_Ch} {d : w_Ch}
def h_nad (L : List w_Ch) : Nat := L.countP (fun d => decide (d.1.1 = 1))
/-- distinct among themselves -/
def h_di (L : List w_Ch) (com : Int) (k : Nat) : Prop := ∀ j c, j < k → L[j]? = some c → (c.1.1 ≠ 1 → h_go c ≠ com ∧ ∀ d ∈ L.take j, d.1.1 ≠ 1 → h_go d ≠ h_go c) ∧ (c.1.1 = 1 → ∀ d ∈ L.take j, d.1.1 = 1 → h_go d ≠ h_go c)
theorem h_tk_s (hd : L[k]? = some d) : L.take (k + 1) = L.take k ++ [d] := by rw [List.take_add_one, hd]; rfl
theorem h_nad_s (hd : L[k]? = some d) : h_nad (L.take (k + 1)) = h_nad (L.take k) + (if d.1.1 = 1 then 1 else 0) := by
  unfold h_nad
  rw [h_tk_s hd, List.countP_append, List.countP_singleton]
  by_cases c : d.1.1 = 1
  · simp [c]
  · simp [c]
theorem h_nad_le : h_nad (L.take k) ≤ L.length := by
  unfold h_nad
  have a := List.countP_le_length (p := fun d : w_Ch => decide (d.1.1 = 1)) (l := L.take k)
  have := List.length_take_le k L
  have b : (L.take k).length ≤ L.length := List.length_take_le' k L
  omega
theorem c_ci_44 (h : c_ci H mk K ms L) (f : c_fr [44] H Z) (e : sw_iv Z 44 1 = sw_iv H 44 1) : c_ci Z mk K ms L := by
  obtain ⟨h1, h2, h3, h4⟩ := h
  refine ⟨c_Ch_fr h1 f, by rw [e]; exact h2, h3, fun k c hc => ?_⟩
  have hk := h_lt hc
  exact c_le_eq (h4 k c hc) (fun a ha => by rw [f.2.2.2.2.2 a (by simp; omega)]) (f.2.2.2.2.2 _ (by simp; omega)) (f.2.2.2.2.1 _ _) (fun j => f.2.2.2.2.1 _ _)
/-- where the loop stands -/
def c_rst (H : sw_H) (L : List w_Ch) (com : Int) (k : Nat) (x3 x4 : Int) : Prop := b_is x3 (fun j => com = (j : Int) ∨ ∃ c ∈ L.take k, c.1.1 ≠ 1 ∧ h_go c = (j : Int)) ∧ b_is x4 (fun j => ∃ c ∈ L.take k, c.1.1 = 1 ∧ h_go c = (j : Int)) ∧ b_is (sw_iv H 44 11) (fun j => ∃ c ∈ L.take k, c.1.1 = 3 ∧ h_go c = (j : Int)) ∧ sw_iv H 44 2 = (h_nad (L.take k) : Nat)
theorem b_ext {x : Int} {S S' : Nat → Prop} (h : b_is x S) (e : ∀ j, S j ↔ S' j) : b_is x S' := by
  obtain ⟨N, h0, h1, h2⟩ := h
  exact ⟨N, h0, h1, fun j => (h2 j).trans (e j)⟩
theorem c_ar_14 (hown : ∀ c ∈ L, 0 ≤ h_go c ∧ h_go c < 24) (q0 : ∀ G, c_ci G mk K ms L → c_fr [44] H G → ¬ h_di L com L.length → P 0 G) (q1 : ∀ G x3 x4, c_ci G mk K ms L → c_fr [44] H G → h_di L com L.length → c_rst G L com L.length x3 x4 → wm_357 44 r x4 G (fun z14 H11 => sw_c z14 → sw_ext G H11 → (z14 = 0 → P 0 H11) ∧ (z14 ≠ 0 → wm_358 44 r H11 (fun z19 H16 => sw_c z19 → sw_ext H11 H16 → (z19 = 0 → P 0 H16) ∧ (z19 ≠ 0 → P 1 H16))))) : ∀ (n k : Nat) {x3 x4 : Int} {G : sw_H}, c_ci G mk K ms L → c_fr [44] H G → h_di L com k → c_rst G L com k x3 x4 → k ≤ L.length → L.length - k < n → wl_280_14 P n 44 r x3 x4 k G
  | 0, _, _, _, _, _, _, _, _, _, h => by omega
  | n + 1, k, x3, x4, G, ci, fG, di, st, hk, hn => by
    obtain ⟨c0, c3, c4, c5, c6, c7, c8, c9, c12, ct, c47, c51, c52, clf⟩ := ci.1
    have h32 := ci.2.2.1
    unfold wl_280_14
    intro v8 e8 _
    rw [ci.2.1] at e8
    subst e8
    refine ⟨fun c => ?_, fun c => ?_⟩
    · have e : k = L.length := by omega
      subst e
      exact q1 G x3 x4 ci fG di st
    · obtain ⟨d, hd⟩ := h_get (L := L) (k := k) (by omega)
      obtain ⟨l45, l46, l49, lok, lfl, _⟩ := ci.2.2.2 k d hd
      have hgo := hown d (List.mem_of_getElem? hd)
      obtain ⟨t, et⟩ : ∃ t : Nat, h_go d = t := ⟨(h_go d).toNat, by omega⟩
      have t24 : t < 24 := by omega
      obtain ⟨s1, s2, s3, s4⟩ := st
      have tk := h_tk_s hd
      rw [c7]
      refine ⟨(ct 49 (by omega)).1, ?_⟩
      intro q23 e23
      rw [e23]
      refine ⟨by omega, by rw [(ct 49 (by omega)).2]; omega, ?_⟩
      intro v26 e26 _ y29 e29
      rw [Int.toNat_natCast, l49, et] at e26
      subst e26
      subst e29
      rw [c3]
      refine ⟨(ct 45 (by omega)).1, ?_⟩
      intro q33 e33
      rw [e33]
      refine ⟨by omega, by rw [(ct 45 (by omega)).2]; omega, ?_⟩
      intro v36 e36 _
      rw [Int.toNat_natCast, l45] at e36
      subst e36
      have diS : ((d.1.1 ≠ 1 → h_go d ≠ com ∧ ∀ d' ∈ L.take k, d'.1.1 ≠ 1 → h_go d' ≠ h_go d) ∧ (d.1.1 = 1 → ∀ d' ∈ L.take k, d'.1.1 = 1 → h_go d' ≠ h_go d)) → h_di L com (k + 1) := fun hx j c hj hc => by
        rcases Nat.lt_or_ge j k with a | a
        · exact di j c a hc
        · have ej : j = k := by omega
          subst ej
          rw [hd] at hc
          cases hc
          exact hx
      refine ⟨fun c1 => ⟨fun ca => ?_, fun ca => ?_⟩, fun c1 => ⟨fun ca => ?_, fun ca => ?_⟩⟩
      · -- a change that is new
        have nS := (b_and s1 t24).mp ca
        have diS := diS ⟨fun _ => ⟨fun cc => nS (Or.inl (by rw [← cc, et])), fun d' hd' k1 cc => nS (Or.inr ⟨d', hd', k1, by rw [cc, et]⟩)⟩, fun cc => absurd cc c1⟩
        have b3 := b_or s1 t24
        intro y39 e39
        subst e39
        intro v43 e43 _
        refine ⟨(ct 45 (by omega)).1, ?_⟩
        intro q46 e46
        rw [e46]
        refine ⟨by omega, by rw [(ct 45 (by omega)).2]; omega, ?_⟩
        intro v49 e49 _
        rw [Int.toNat_natCast, l45] at e49
        subst e49
        have nx : ∀ (s0 : Int), b_is (sw_or (sw_iv G 44 11) s0) (fun j => ∃ c ∈ L.take (k + 1), c.1.1 = 3 ∧ h_go c = (j : Int)) → wb_280_70 P (wl_280_14 P n) 44 r (sw_or x3 (sw_shl 1 (t : Int))) x4 k s0 v43 44 G := fun s0 hs0 => by
          unfold wb_280_70
          intro H5 e5
          rw [e43] at e5
          have f5 : c_fr [44] G H5 := by rw [e5]; exact c_fr_si _ _ _ _
          unfold wb_280_72
          intro y1 ey1
          rw [sw_s1 (by omega)] at ey1
          subst ey1
          refine c_ar_14 hown q0 q1 n (k + 1) (c_ci_44 ci f5 (by rw [e5, c_si_f (by decide)])) (c_fr_t fG f5) diS ⟨b_ext b3 (fun j => ?_), b_ext s2 (fun j => ?_), by rw [e5, c_si_eq]; exact hs0, ?_⟩ (by omega) (by omega)
          · rw [tk]
            constructor
            · rintro ((h | ⟨c, hc, h1, h2⟩) | h)
              · exact Or.inl h
              · exact Or.inr ⟨c, List.mem_append_left _ hc, h1, h2⟩
              · exact Or.inr ⟨d, by simp, c1, by rw [et, h]⟩
            · rintro (h | ⟨c, hc, h1, h2⟩)
              · exact Or.inl (Or.inl h)
              · rcases List.mem_append.mp hc with hc | hc
                · exact Or.inl (Or.inr ⟨c, hc, h1, h2⟩)
                · rw [List.mem_singleton] at hc
                  subst hc
                  exact Or.inr (by omega)
          · rw [tk]
            constructor
            · rintro ⟨c, hc, h1, h2⟩
              exact ⟨c, List.mem_append_left _ hc, h1, h2⟩
            · rintro ⟨c, hc, h1, h2⟩
              rcases List.mem_append.mp hc with hc | hc
              · exact ⟨c, hc, h1, h2⟩
              · rw [List.mem_singleton] at hc
                subst hc
                exact absurd h1 c1
          · rw [e5, c_si_f (by decide), h_nad_s hd, if_neg c1]; exact s4
        refine ⟨fun c3 => nx 0 ?_, fun c3 => nx _ ?_⟩
        · rw [b_or0 s3]
          refine b_ext s3 (fun j => ?_)
          rw [tk]
          constructor
          · rintro ⟨c, hc, h1, h2⟩
            exact ⟨c, List.mem_append_left _ hc, h1, h2⟩
          · rintro ⟨c, hc, h1, h2⟩
            rcases List.mem_append.mp hc with hc | hc
            · exact ⟨c, hc, h1, h2⟩
            · rw [List.mem_singleton] at hc
              subst hc
              exact absurd h1 c3
        · refine b_ext (b_or s3 t24) (fun j => ?_)
          rw [tk]
          constructor
          · rintro (⟨c, hc, h1, h2⟩ | h)
            · exact ⟨c, List.mem_append_left _ hc, h1, h2⟩
            · exact ⟨d, by simp, c3, by rw [et, h]⟩
          · rintro ⟨c, hc, h1, h2⟩
            rcases List.mem_append.mp hc with hc | hc
            · exact Or.inl ⟨c, hc, h1, h2⟩
            · rw [List.mem_singleton] at hc
              subst hc
              exact Or.inr (by omega)
      · refine q0 G ci fG (fun hd2 => ca ((b_and s1 t24).mpr ?_))
        obtain ⟨a1, a2⟩ := (hd2 k d (by omega) hd).1 c1
        rintro (h | ⟨c, hc, h1, h2⟩)
        · exact a1 (by rw [et]; exact h.symm)
        · exact a2 c hc h1 (by rw [et]; exact h2)
      · have nS := (b_and s2 t24).mp ca
        have diS := diS ⟨fun cc => absurd c1 cc, fun _ d' hd' k1 cc => nS ⟨d', hd', k1, by rw [cc, et]⟩⟩
        have b4 := b_or s2 t24
        have s3' : b_is (sw_iv G 44 11) (fun j => ∃ c ∈ L.take (k + 1), c.1.1 = 3 ∧ h_go c = (j : Int)) := b_ext s3 (fun j => by
          rw [tk]
          constructor
          · rintro ⟨c, hc, h1, h2⟩
            exact ⟨c, List.mem_append_left _ hc, h1, h2⟩
          · rintro ⟨c, hc, h1, h2⟩
            rcases List.mem_append.mp hc with hc | hc
            · exact ⟨c, hc, h1, h2⟩
            · rw [List.mem_singleton] at hc
              subst hc
              omega)
        intro y54 e54
        subst e54
        intro v58 e58 _ H61 e61
        have nle := h_nad_le (L := L) (k := k)
        rw [e58, s4, sw_s1 (by omega)] at e61
        have f5 : c_fr [44] G H61 := by rw [e61]; exact c_fr_si _ _ _ _
        unfold wb_280_72
        intro y1 ey1
        rw [sw_s1 (by omega)] at ey1
        subst ey1
        refine c_ar_14 hown q0 q1 n (k + 1) (c_ci_44 ci f5 (by rw [e61, c_si_f (by decide)])) (c_fr_t fG f5) diS ⟨b_ext s1 (fun j => ?_), b_ext b4 (fun j => ?_), by rw [e61, c_si_f (by decide)]; exact s3', ?_⟩ (by omega) (by omega)
        · rw [tk]
          constructor
          · rintro (h | ⟨c, hc, h1, h2⟩)
            · exact Or.inl h
            · exact Or.inr ⟨c, List.mem_append_left _ hc, h1, h2⟩
          · rintro (h | ⟨c, hc, h1, h2⟩)
            · exact Or.inl h
            · rcases List.mem_append.mp hc with hc | hc
              · exact Or.inr ⟨c, hc, h1, h2⟩
              · rw [List.mem_singleton] at hc
                subst hc
                exact absurd c1 h1
        · rw [tk]
          constructor
          · rintro (⟨c, hc, h1, h2⟩ | h)
            · exact ⟨c, List.mem_append_left _ hc, h1, h2⟩
            · exact ⟨d, by simp, c1, by rw [et, h]⟩
          · rintro ⟨c, hc, h1, h2⟩
            rcases List.mem_append.mp hc with hc | hc
            · exact Or.inl ⟨c, hc, h1, h2⟩
            · rw [List.mem_singleton] at hc
              subst hc
              exact Or.inr (by omega)
        · rw [e61, c_si_eq, h_nad_s hd, if_pos c1]
      · refine q0 G ci fG (fun hd2 => ca ((b_and s2 t24).mpr ?_))
        have a2 := (hd2 k d (by omega) hd).2 c1
        rintro ⟨c, hc, h1, h2⟩
        exact a2 c hc h1 (by rw [et]; exact h2)
end
