/-! ===== the reference: blank, blankWay, putLeaf on trees ===== -/
noncomputable section
variable {o : Nat} {I J X : sr_V} {nn fr mi s u k h : Nat} {K : Wt → Prop} {tl mk mm l : List Wt} {ms : List (List Wt)} {a b c y n S src m so : Int} {Q : Int → sr_V → Prop} {R : sr_V → Prop} {x i e : Nat} {T T' T'' : w_T} {f : p_L}
theorem r_above_k : ∀ k : Fin 16, ∀ h : Fin 4, w_h (t_ab k.val h.val) = h.val ∧ t_ab k.val h.val < 31 ∧ sw_and (sw_or ((t_ab k.val h.val : Nat) : Int) (sw_shl 1 ((h.val : Nat) : Int))) (sw_xor (sw_shl 2 ((h.val : Nat) : Int)) (-1)) = ((t_ab k.val (h.val + 1) : Nat) : Int) := by decide +kernel
theorem r_above (hk : k < 16) (hh : h < 4) (q : Q ((t_ab k (h + 1) : Nat) : Int) I) : rm_198 ((t_ab k h : Nat) : Int) I Q := by
  obtain ⟨e1, e2, e3⟩ := r_above_k ⟨k, hk⟩ ⟨h, hh⟩
  have e1 : w_h (t_ab k h) = h := e1
  unfold rm_198
  refine r_height e2 ?_
  intro _
  rw [e1]
  have e3 : sw_and (sw_or ((t_ab k h : Nat) : Int) (sw_shl 1 (h : Int))) (sw_xor (sw_shl 2 (h : Int)) (-1)) = ((t_ab k (h + 1) : Nat) : Int) := e3
  rw [e3]
  exact q
/-- secrets held: what is held is as before, at a node whose key is as before -/
def m_hr (o : Nat) (I : sr_V) (s : Nat) (T : w_T) (J : sr_V) (u : Nat) (T' : w_T) : Prop := ∀ x, x < t_w T' → (J 44 (31 * u + x) = 0 ∧ (t_ky T' x = [] ∨ (x % 2 = 0 ∧ x ≠ 2 * o))) ∨ (x < t_w T ∧ J 44 (31 * u + x) = I 44 (31 * s + x) ∧ t_ky T' x = t_ky T x)
theorem m_hr_refl : m_hr o I s T I s T := fun x hx => Or.inr ⟨hx, rfl, rfl⟩
theorem m_hr_trans (a : m_hr o I s T J u T') (b : m_hr o J u T' X u T'') : m_hr o I s T X u T'' := fun x hx => by
  rcases b x hx with h | ⟨h1, h2, h3⟩
  · exact Or.inl h
  · rcases a x h1 with ⟨g, g'⟩ | ⟨g1, g2, g3⟩
    · exact Or.inl ⟨h2.trans g, by rw [h3]; exact g'⟩
    · exact Or.inr ⟨g1, h2.trans g2, h3.trans g3⟩
theorem m_bl_at {p g j : Nat} : m_bl I p g j = if (g = 36 ∨ g = 37 ∨ g = 38 ∨ g = 39 ∨ g = 44) ∧ j = p then 0 else I g j := rfl
theorem m_bl_ne {p g j : Nat} (h : j ≠ p ∨ g < 36 ∨ (39 < g ∧ g ≠ 44)) : m_bl I p g j = I g j := by
  rw [m_bl_at, if_neg (by omega)]
theorem m_bl_gp {p : Nat} : m_gp (fun g j => (36 ≤ g ∧ g ≤ 44) ∧ j = p) I (m_bl I p) := fun g j hn => m_bl_ne (by omega)
theorem m_tr_bl (h : m_tr I mk s T) : m_tr (m_bl I (31 * s + x)) mk s (t_bl T x) := by
  obtain ⟨h1, h2, h3, h4⟩ := h
  refine ⟨t_ok_bl h1, by rw [m_bl_ne (by omega)]; exact h2, fun j hj => ?_, fun k hk hne => ?_⟩
  · show m_bl I (31 * s + x) 36 (31 * s + j) = (if fu (t_ky T) x [] j = [] then 0 else if j % 2 = 0 then 1 else 2) ∧ w_az mk (m_bl I (31 * s + x) 37 (31 * s + j)) (fu (t_ky T) x [] j) ∧ w_az mk (m_bl I (31 * s + x) 38 (31 * s + j)) (fu (t_ph T) x [] j) ∧ m_bl I (31 * s + x) 39 (31 * s + j) = fu (t_um T) x 0 j
    by_cases c : j = x
    · subst c
      rw [fu_eq, fu_eq, fu_eq, if_pos rfl]
      rw [m_bl_at, m_bl_at, m_bl_at, m_bl_at, if_pos ⟨by omega, rfl⟩, if_pos ⟨by omega, rfl⟩, if_pos ⟨by omega, rfl⟩, if_pos ⟨by omega, rfl⟩]
      exact ⟨rfl, Or.inl ⟨rfl, rfl⟩, Or.inl ⟨rfl, rfl⟩, rfl⟩
    · rw [fu_ne c, fu_ne c, fu_ne c, m_bl_ne (by omega), m_bl_ne (by omega), m_bl_ne (by omega), m_bl_ne (by omega)]
      exact h3 j hj
  · have hne : fu (t_ky T) x [] (2 * k) ≠ [] := hne
    have c : 2 * k ≠ x := fun c => hne (by rw [c, fu_eq])
    rw [fu_ne c] at hne
    rw [m_bl_ne (by omega), m_bl_ne (by omega), m_bl_ne (by omega), m_bl_ne (by omega)]
    exact h4 k hk hne
theorem m_hr_bl : m_hr o I s T (m_bl I (31 * s + x)) s (t_bl T x) := fun j hj => by
  by_cases c : j = x
  · subst c; exact Or.inl ⟨by rw [m_bl_at, if_pos ⟨by omega, rfl⟩], Or.inl fu_eq⟩
  · refine Or.inr ⟨hj, m_bl_ne (by omega), fu_ne c⟩
theorem r_bwn (hs : s < 49) (hk : k < 2 ^ t_dp T) : ∀ (n h : Nat) {I : sr_V}, m_tr I mk s (t_bwn T k h) → h ≤ t_dp T → t_dp T - h < n → (∀ J, m_tr J mk s (t_bw T k) → m_hr o I s (t_bwn T k h) J s (t_bw T k) → m_gp (m_pl s) I J → R J) → rl_194_4 R n s ((t_ab k h : Nat) : Int) I
  | 0, _, _, _, _, h, _ => by omega
  | n + 1, h, I, hT, hh, hn, q => by
    have d4 : t_dp T ≤ 4 := by have := hT.1.1; rw [t_bwn_dp] at this; exact this
    have k16 : k < 16 := by
      have : 2 ^ t_dp T ≤ 2 ^ 4 := Nat.pow_le_pow_right (by decide) d4
      omega
    have h31 : I 31 s = t_dp T := by rw [hT.2.1, t_bwn_dp]
    unfold rl_194_4
    refine r_top hs h31 d4 ?_
    intro _
    have top : ((t_ab k h : Nat) : Int) = ((2 ^ t_dp T - 1 : Nat) : Int) ↔ h = t_dp T := by
      have key : ∀ d : Fin 5, ∀ k : Fin 16, ∀ h : Fin 5, k.val < 2 ^ d.val → h.val ≤ d.val → (t_ab k.val h.val = 2 ^ d.val - 1 ↔ h.val = d.val) := by decide +kernel
      have := key ⟨t_dp T, by omega⟩ ⟨k, k16⟩ ⟨h, by omega⟩ hk hh
      rw [← this]
      exact Int.ofNat_inj
    refine ⟨fun c => ?_, fun c => ?_⟩
    · have e := top.mp c
      subst e
      exact q I hT m_hr_refl (m_gp_refl _ _)
    · have hlt : h < t_dp T := by
        rcases Nat.lt_or_ge h (t_dp T) with g | g
        · exact g
        · exact absurd (top.mpr (by omega)) c
      refine r_above k16 (by omega) ?_
      intro _
      have a31 : t_ab k (h + 1) < 31 := by
        have := t_ab_w d4 hk (h := h + 1) (by omega)
        have := t_w_4 d4
        omega
      refine r_blank hs a31 ?_
      refine r_bwn hs hk n (h + 1) (I := m_bl I (31 * s + t_ab k (h + 1))) (m_tr_bl hT) (by omega) (by omega) (fun J hJ gJ fJ => q J hJ (m_hr_trans m_hr_bl gJ) (m_gp_trans (m_gp_sub m_bl_gp (fun f j p => Or.inr ⟨p.1.1, p.1.2, by omega, by omega⟩)) fJ))
theorem r_blankWay (hs : s < 49) (hk : k < 2 ^ t_dp T) (hT : m_tr I mk s T) (q : ∀ J, m_tr J mk s (t_bw T k) → m_hr o I s T J s (t_bw T k) → m_gp (m_pl s) I J → R J) : rm_194 s k I R := by
  have k16 : k < 16 := by
    have : 2 ^ t_dp T ≤ 2 ^ 4 := Nat.pow_le_pow_right (by decide) hT.1.1
    omega
  unfold rm_194
  intro y26 e26
  rw [sw_w_s (by omega) (by omega)] at e26
  refine ⟨t_dp T + 1, ?_⟩
  rw [e26, show 2 * (k : Int) = ((t_ab k 0 : Nat) : Int) by rw [t_ab_0]; omega]
  exact r_bwn hs hk (t_dp T + 1) 0 hT (by omega) (by omega) q
/-- the LEAF that was read -/
def m_lr (I : sr_V) (mk : List Wt) (f : p_L) : Prop := I 1000 61 = f.1 ∧ w_at mk (I 1000 62) f.2.1 ∧ w_at mk (I 1000 67) f.2.2.1 ∧ I 1000 63 = f.2.2.2.1 ∧ w_az mk (I 1000 64) f.2.2.2.2.1 ∧ w_at mk (I 1000 66) f.2.2.2.2.2
theorem m_plf_at {p g : Nat} : m_plf I p g p = (if g = 36 then 1 else if g = 37 then I 1000 62 else if g = 38 then I 1000 64 else if g = 39 then 0 else if g = 40 then I 1000 61 else if g = 43 then I 1000 67 else if g = 41 then I 1000 63 else if g = 42 then I 1000 66 else if g = 44 then 0 else I g p) := if_pos rfl
theorem m_tr_put (h : m_tr I mk s T) (hl : m_lr I mk f) (hf : t_lfok f) : m_tr (m_plf I (31 * s + 2 * k)) mk s (t_put T k f) := by
  obtain ⟨h1, h2, h3, h4⟩ := h
  obtain ⟨l1, l2, l3, l4, l5, l6⟩ := hl
  refine ⟨t_ok_put h1 hf, by rw [m_plf_ne (by omega)]; exact h2, fun j hj => ?_, fun j hj hne => ?_⟩
  · show m_plf I (31 * s + 2 * k) 36 (31 * s + j) = (if fu (t_ky T) (2 * k) f.2.1 j = [] then 0 else if j % 2 = 0 then 1 else 2) ∧ w_az mk (m_plf I (31 * s + 2 * k) 37 (31 * s + j)) (fu (t_ky T) (2 * k) f.2.1 j) ∧ w_az mk (m_plf I (31 * s + 2 * k) 38 (31 * s + j)) (fu (t_ph T) (2 * k) f.2.2.2.2.1 j) ∧ m_plf I (31 * s + 2 * k) 39 (31 * s + j) = fu (t_um T) (2 * k) 0 j
    by_cases c : j = 2 * k
    · subst c
      rw [fu_eq, fu_eq, fu_eq, if_neg hf.2.2.2.2.2, if_pos (by omega), m_plf_at, m_plf_at, m_plf_at, m_plf_at]
      exact ⟨rfl, Or.inr l2, l5, rfl⟩
    · rw [fu_ne c, fu_ne c, fu_ne c, m_plf_ne (by omega), m_plf_ne (by omega), m_plf_ne (by omega), m_plf_ne (by omega)]
      exact h3 j hj
  · have hne : fu (t_ky T) (2 * k) f.2.1 (2 * j) ≠ [] := hne
    show m_plf I (31 * s + 2 * k) 40 (31 * s + 2 * j) = fu (t_ow T) k f.1 j ∧ w_at mk (m_plf I (31 * s + 2 * k) 43 (31 * s + 2 * j)) (fu (t_sk T) k f.2.2.1 j) ∧ m_plf I (31 * s + 2 * k) 41 (31 * s + 2 * j) = fu (t_so T) k f.2.2.2.1 j ∧ w_at mk (m_plf I (31 * s + 2 * k) 42 (31 * s + 2 * j)) (fu (t_sg T) k f.2.2.2.2.2 j)
    by_cases c : j = k
    · subst c
      rw [fu_eq, fu_eq, fu_eq, fu_eq, m_plf_at, m_plf_at, m_plf_at, m_plf_at]
      exact ⟨l1, l3, l4, l6⟩
    · rw [fu_ne (by omega)] at hne
      rw [fu_ne c, fu_ne c, fu_ne c, fu_ne c, m_plf_ne (by omega), m_plf_ne (by omega), m_plf_ne (by omega), m_plf_ne (by omega)]
      exact h4 j hj hne
theorem m_hr_put (hk : k ≠ o) : m_hr o I s T (m_plf I (31 * s + 2 * k)) s (t_put T k f) := fun j hj => by
  by_cases c : j = 2 * k
  · subst c; exact Or.inl ⟨by rw [m_plf_at]; rfl, Or.inr (by omega)⟩
  · exact Or.inr ⟨hj, m_plf_ne (by omega), fu_ne c⟩
end
