/-! ===== the class: the Reader's readUnmerged, readNode ===== -/
noncomputable section
theorem sw_shl_16 : ∀ z : Fin 16, sw_shl 1 (z.val : Int) = ((2 ^ z.val : Nat) : Int) := by decide
theorem sw_or_comm (x y : Int) : sw_or x y = sw_or y x := by
  unfold sw_or
  rw [Int32.or_comm]
theorem sw_or_bit {u : Int} {z : Nat} (hz : z < 16) (h0 : 0 ≤ u) (h1 : u < ((2 ^ z : Nat) : Int)) : sw_or u (sw_shl 1 (z : Int)) = u + ((2 ^ z : Nat) : Int) := by
  have p16 : (2 : Nat) ^ z ≤ 2 ^ 16 := Nat.pow_le_pow_right (by decide) (by omega)
  have e1 : sw_shl 1 (z : Int) = 1 * ((2 ^ z : Nat) : Int) := by
    have := sw_shl_16 ⟨z, hz⟩
    rw [Int.one_mul]
    exact this
  rw [e1, sw_or_comm, sw_or_d (k := z) (by decide) (by omega) h0 h1]
  omega
/-- the Reader's block of cells -/
def c_Bk : List Nat := (List.range 26).map (· + 18)
theorem c_Bk_b {a : Nat} (h : a ∈ c_Bk) : 18 ≤ a ∧ a ≤ 43 := by
  unfold c_Bk at h
  rw [List.mem_map] at h
  obtain ⟨b, hb, e⟩ := h
  rw [List.mem_range] at hb
  omega
theorem c_Bk_m {a : Nat} (h1 : 18 ≤ a) (h2 : a ≤ 43) : a ∈ c_Bk := by
  unfold c_Bk
  rw [List.mem_map]
  exact ⟨a - 18, List.mem_range.mpr (by omega), by omega⟩
variable {H Z X Y : sw_H} {nn nm r ra g m : Nat} {K K' S : Wt → Prop} {tl mk mm l : List Wt} {a b c n cn cs N U M : Int} {Q : sw_H → Prop} {P : Int → sw_H → Prop} {A B : List Nat} {w : Wt} {st : p_S} {x : Nat}
theorem c_frB (f : c_fr A H Z) (hA : ∀ a ∈ A, 18 ≤ a ∧ a ≤ 43) : c_fr c_Bk H Z := c_fr_sub f (fun a ha => c_Bk_m (hA a ha).1 (hA a ha).2)
theorem c_um_l {x1 : Int} (r43 : 43 < r ∧ 43 < ra) : ∀ (n : Nat) (left la u : Int) {st : p_S} {H : sw_H}, c_V H mk nn K tl cn cs → c_rs H mk r ra l → c_rd H l st → (∀ i e, st = some (i, e) → ((e - i : Nat) : Int) ≤ left) → left.toNat < n → left ≤ 2000 → -1 ≤ la → la < 16 → 0 ≤ u → u < ((2 ^ (la + 1).toNat : Nat) : Int) → (∀ G w, c_rd G l (p_to (p_us l left.toNat la u st)) → (∀ w' s, p_us l left.toNat la u st = some (w', s) → w = w') → 0 ≤ w → w < 65536 → c_fr [18] H G → c_k5 H G → wb_377_41 P 18 x1 w G) → wl_377_13 P n 18 x1 u la left H
  | 0, _, _, _, _, _, _, _, _, _, h, _, _, _, _, _, _ => by omega
  | n + 1, left, la, u, st, H, hV, hs, h, hle, hn, h2, l1, l2, u0, u1, k => by
    have p16 : (2 : Nat) ^ (la + 1).toNat ≤ 2 ^ 16 := Nat.pow_le_pow_right (by decide) (by omega)
    unfold wl_377_13
    have stop : (∀ i e, st = some (i, e) → e ≤ i) → wb_377_41 P 18 x1 u H := by
      intro hc
      refine k H u ?_ ?_ u0 (by omega) (c_fr_refl _ _) (c_k5_r _)
      · cases st with
        | none => rw [p_us_0]; exact h
        | some s =>
          obtain ⟨i, e⟩ := s
          rw [p_us_e (hc i e rfl)]
          exact h
      · intro w' s hw
        cases st with
        | none => rw [p_us_0] at hw; exact absurd hw (by simp)
        | some s =>
          obtain ⟨i, e⟩ := s
          rw [p_us_e (hc i e rfl)] at hw
          exact (Prod.mk.inj (Option.some.inj hw)).1
    refine ⟨fun c => stop (fun i e ee => by have := hle i e ee; omega), fun c => ?_⟩
    refine c_hasMore h (fun i e ee hie _ _ => ⟨fun c2 => absurd c2 (by decide), fun _ => ?_⟩) (fun hc _ _ => ⟨fun _ => stop hc, fun c2 => absurd rfl c2⟩)
    subst ee
    have hle := hle i e rfl
    have en : left.toNat = (left - 1).toNat + 1 := by omega
    rw [en] at k
    rw [p_us_s hie] at k
    refine c_u16 hV.1 hs h (fun z1 G1 r1 v1 z0 zl f1 k1 _ _ => ?_)
    obtain ⟨o, eo⟩ : ∃ o, p_16 l (some (i, e)) = o := ⟨_, rfl⟩
    rw [eo] at k r1 v1
    have V1 := c_VR hV f1 (by simp)
    have s1 := c_rs_frN hs f1 (by simp) r43
    -- a number that is wrong
    have bad : (z1 ≤ la ∨ 16 ≤ z1) → wb_377_27 P (wl_377_13 P n) 18 x1 u la left G1 := by
      intro hb
      unfold wb_377_27 wb_377_39
      intro H10 e10 y6 e6
      obtain ⟨b1, b2, b3, b4⟩ := c_rd_b r1
      obtain ⟨w1, w2⟩ := c_rd_wrong b1 b2 b3 b4 e10
      have f2 := c_fr_t f1 w2
      rw [e6, sw_w_s (by omega) (by omega), show left + -1 = left - 1 by omega]
      refine c_um_l r43 n (left - 1) la u (c_VR hV f2 (by simp)) (c_rs_frN hs f2 (by simp) r43) w1 (fun i' e' ee => absurd ee (by simp)) (by omega) (by omega) l1 l2 u0 u1 (fun G w rG vG w0 w65 fG kG => k G w ?_ ?_ w0 w65 (c_fr_t f2 fG) (c_k5_t k1 (c_k5_t (c_k5_si e10 (by omega)) kG)))
      · rw [p_us_0] at rG
        cases o with
        | none => exact rG
        | some a =>
          obtain ⟨a, s⟩ := a
          have : z1 = a := v1 a s rfl
          show c_rd G l (p_to (if a ≤ la ∨ 16 ≤ a then none else _))
          rw [if_pos (by omega)]
          exact rG
      · intro w' s hw
        cases o with
        | none => exact absurd hw (by simp)
        | some a =>
          obtain ⟨a, s'⟩ := a
          have : z1 = a := v1 a s' rfl
          have hw : (if a ≤ la ∨ 16 ≤ a then none else p_us l (left - 1).toNat a (u + ((2 ^ a.toNat : Nat) : Int)) (some s')) = some (w', s) := hw
          rw [if_pos (by omega)] at hw
          exact absurd hw (by simp)
    refine ⟨fun c1 => bad (Or.inl c1), fun c1 => ⟨fun c2 => ?_, fun c2 => bad (Or.inr c2)⟩⟩
    intro y26 e26
    obtain ⟨z, ez⟩ : ∃ z : Nat, z1 = z := ⟨z1.toNat, by omega⟩
    subst ez
    have pz : (2 : Nat) ^ (la + 1).toNat ≤ 2 ^ z := Nat.pow_le_pow_right (by decide) (by omega)
    have pz2 : (2 : Nat) ^ ((z : Int) + 1).toNat = 2 * 2 ^ z := by
      have : ((z : Int) + 1).toNat = z + 1 := by omega
      rw [this, Nat.pow_succ]; omega
    have pz3 : (2 : Nat) ^ z ≤ 2 ^ 15 := Nat.pow_le_pow_right (by decide) (by omega)
    rw [sw_or_bit (by omega) u0 (by omega)] at e26
    rw [e26]
    unfold wb_377_39
    intro y6 e6
    rw [e6, sw_w_s (by omega) (by omega), show left + -1 = left - 1 by omega]
    refine c_um_l r43 n (left - 1) z (u + ((2 ^ z : Nat) : Int)) V1 s1 r1 (fun i' e' ee => ?_) (by omega) (by omega) (by omega) (by omega) (by omega) (by rw [pz2]; omega) (fun G w rG vG w0 w65 fG kG => k G w ?_ ?_ w0 w65 (c_fr_t f1 fG) (c_k5_t k1 kG))
    · cases o with
      | none => exact absurd ee (by simp [p_to])
      | some a =>
        obtain ⟨a, s⟩ := a
        rw [p_to_s] at ee
        obtain ⟨s1', s2'⟩ := s
        have ee := Prod.mk.inj (Option.some.inj ee)
        obtain ⟨b1, b2, b3⟩ := p_16_le eo
        omega
    · cases o with
      | none => rw [p_to_0, p_us_0] at rG; exact rG
      | some a =>
        obtain ⟨a, s⟩ := a
        have : (z : Int) = a := v1 a s rfl
        subst this
        rw [p_to_s] at rG
        show c_rd G l (p_to (if (z : Int) ≤ la ∨ 16 ≤ (z : Int) then none else p_us l (left - 1).toNat z (u + ((2 ^ (z : Int).toNat : Nat) : Int)) (some s)))
        rw [if_neg (by omega), Int.toNat_natCast]
        exact rG
    · intro w' s hw
      cases o with
      | none => exact absurd hw (by simp)
      | some a =>
        obtain ⟨a, s'⟩ := a
        have : (z : Int) = a := v1 a s' rfl
        subst this
        have hw : (if (z : Int) ≤ la ∨ 16 ≤ (z : Int) then none else p_us l (left - 1).toNat z (u + ((2 ^ (z : Int).toNat : Nat) : Int)) (some s')) = some (w', s) := hw
        rw [if_neg (by omega), Int.toNat_natCast] at hw
        exact vG w' s (by rw [p_to_s]; exact hw)
theorem c_readUnmerged (r43 : 43 < r ∧ 43 < ra) (hV : c_V H mk nn K tl cn cs) (hs : c_rs H mk r ra l) (h : c_rd H l st) (q : ∀ w G, c_rd G l (p_to (p_row (p_ua l) l st)) → (∀ b w' s, p_row (p_ua l) l st = some ((b, w'), s) → w = w') → c_fr [18] H G → c_k5 H G → P w G) : wm_377 18 H P := by
  have hl14 : l.length ≤ 1400 := hs.2.2.2.2.2.2.1
  unfold wm_377
  refine c_openRow hV hs h (fun G2 r2 f2 k2 _ _ => ?_)
  obtain ⟨b1, b2, b3, b4⟩ := c_rd_b r2
  intro y48 e48 v52 e52 _ v55 e55 _ y58 e58
  rw [sw_w_s (by omega) (by omega)] at e58
  rw [e48]
  refine ⟨y58.toNat + 1, ?_⟩
  refine c_um_l r43 (y58.toNat + 1) y58 (-1) 0 (c_VR hV f2 (by simp)) (c_rs_frN hs f2 (by simp) r43) r2 (fun i e ee => ?_) (by omega) (by omega) (by decide) (by decide) (by decide) (by decide) (fun G w rG vG w0 w65 fG kG => ?_)
  · rw [ee] at r2
    obtain ⟨q1, q2, _⟩ := r2
    omega
  have eall : p_us l y58.toNat (-1) 0 (p_o l st) = p_ua l (p_o l st) := by
    obtain ⟨o, eo⟩ : ∃ o, p_o l st = o := ⟨_, rfl⟩
    rw [eo] at r2 ⊢
    cases o with
    | none => rw [p_us_0]; rfl
    | some s =>
      obtain ⟨i', e'⟩ := s
      obtain ⟨q1, q2, _, q4, _⟩ := r2
      have : y58.toNat = e' - i' := by omega
      rw [this]
      rfl
  rw [eall] at rG vG
  unfold wb_377_41
  refine c_close (f := p_ua l) (S := st) (Z := H) p_ua_in rG h rfl rfl (fun G3 r3 f3 k3 _ => q w G3 r3 (fun b w' s hw => ?_) (c_fr_t f2 (c_fr_t fG f3)) (c_k5_t k2 (c_k5_t kG k3)))
  unfold p_row at hw
  rw [Option.bind_eq_some_iff] at hw
  obtain ⟨⟨en, i1, e1⟩, hr, hw⟩ := hw
  rw [Option.bind_eq_some_iff] at hw
  obtain ⟨⟨tt, i2, e2⟩, h4, hw⟩ := hw
  have hw : (if i2 = en then some ((i1, tt), i2, e1) else none) = some ((b, w'), s) := hw
  have eo : p_o l st = some (i1, en) := by unfold p_o; rw [hr]; rfl
  by_cases c : i2 = en
  · rw [if_pos c] at hw
    have hw := Option.some.inj hw
    simp only [Prod.mk.injEq] at hw
    rw [← hw.1.2]
    exact vG tt (i2, e2) (by rw [eo]; exact h4)
  · rw [if_neg c] at hw
    exact absurd hw (by simp)
end
