/-! ===== a member changes; create, by the whole state, both sides ===== -/
noncomputable section
/-- one member's state is set -/
def v_up (B : Nat → v_M) (m : Nat) (v : v_M) : Nat → v_M := fun j => if j = m then v else B j
section
variable {I J : sr_V} {nn nm us us' m : Nat} {K K' : Wt → Prop} {tl tl' tp tp' mk mm : List Wt} {rd rd' : Nat → Int} {ms ms' : List (List Wt)} {x : Int} {B : Nat → v_M} {v : v_M} {P : Nat → Nat → Prop} {R : sr_V → Prop}
theorem m_Mu (k1 : m_L I mk nn K tl) (hM : m_M I (w_d mk) ms) (k4 : I 1000 23 = us) (hL : m_L J mm nm K' tl') (hl : w_le mk mm) (no : ∀ f k, (f = 24 ∨ f = 25 ∨ (f = 26 ∧ k < us) ∨ (f = 1000 ∧ (k = 22 ∨ k = 23))) → J f k = I f k) : m_M J (w_d mm) ms ∧ J 1000 23 = us := by
  have i4 := k1.2.2.2.1
  have j4 := hL.2.2.2.1
  have ll := w_le_len hl
  have he : ∀ u : Nat, (u : Int) ≤ I 1000 4 → w_d mm u = w_d mk u := fun u hu => w_le_d hl (by omega)
  have e22 := no 1000 22 (by omega)
  have e23 := no 1000 23 (by omega)
  obtain ⟨a1, a2, a3, a4, a5⟩ := hM
  refine ⟨⟨e22.trans a1, a2, by rw [e23]; exact a3, by rw [e23]; exact a4, fun i l hi => ?_⟩, e23.trans k4⟩
  obtain ⟨b1, b2, b3, b4, b5⟩ := a5 i l hi
  rw [no 24 i (by omega), no 25 i (by omega), e23]
  refine ⟨b1, b2, b3, b4, m_at_e (by omega) he (fun k w hk => ?_)⟩
  have hlt := (List.getElem?_eq_some_iff.mp hk).1
  rw [no 26 _ (by omega)]
  exact b5 k w hk
/-- a place of member j -/
def m_zp (j f k : Nat) : Prop := ((f = 27 ∨ f = 28 ∨ f = 35 ∨ f = 45 ∨ f = 47) ∧ k = j) ∨ m_pl j f k ∨ m_pl (24 + j) f k ∨ m_kq j f k ∨ ((f = 53 ∨ f = 54) ∧ 40 * j ≤ k ∧ k < 40 * j + 40) ∨ ((f = 48 ∨ f = 49 ∨ f = 50) ∧ 8 * j ≤ k ∧ k < 8 * j + 8)
theorem m_zp_hi {j f k : Nat} (h : f < 27 ∨ 54 < f) : ¬ m_zp j f k := by
  intro c
  unfold m_zp m_pl m_kq at c
  rcases c with c | (c | c) | (c | c) | (c | c) | c | c <;> omega
theorem m_zp_ne {j f k : Nat} (hm : m < 24) (hj : j < 24) (hn : j ≠ m) (h : m_zp m f k) : ¬ m_zp j f k := by
  intro c
  unfold m_zp m_pl m_kq at h c
  rcases h with h | (h | h) | (h | h) | (h | h) | h | h <;> rcases c with c | (c | c) | (c | c) | (c | c) | c | c <;> omega
theorem m_zp_pc {f k : Nat} (h : m_pc m f k) : m_zp m f k ∨ (f < 27 ∨ 54 < f) := by
  unfold m_pc at h
  rcases h with h | h | ⟨h1, h2⟩ | h
  · unfold m_p2 at h
    exact Or.inr (by omega)
  · exact Or.inl (Or.inr (Or.inl h))
  · by_cases c : f = 46
    · exact Or.inl (Or.inr (Or.inr (Or.inr (Or.inl (Or.inl ⟨c, h2⟩)))))
    · exact Or.inl (Or.inl ⟨by omega, h2⟩)
  · exact Or.inr (by omega)
theorem m_pc_no {f k : Nat} (h : m_pc m f k) : ¬ (f = 1 ∨ f = 2 ∨ f = 20 ∨ f = 21 ∨ f = 24 ∨ f = 25 ∨ f = 26) ∧ ¬ (f = 1000 ∧ (k = 3 ∨ k = 22 ∨ k = 23)) ∧ ¬ (f = 45 ∨ f = 48 ∨ f = 49 ∨ f = 50) := by
  unfold m_pc m_p2 m_pl at h
  rcases h with (h | h | h | h | h | ⟨h1, h2⟩) | (h | h) | ⟨h1, h2⟩ | ⟨h1, h2⟩
  · omega
  · omega
  · omega
  · omega
  · omega
  · refine ⟨by omega, by omega, by omega⟩
  · omega
  · omega
  · refine ⟨by omega, by omega, by omega⟩
  · refine ⟨by omega, by omega, by omega⟩
theorem m_ZZ_up (h : m_ZZ I mk us nn K tl tp rd ms B) (hw : m_wr J mm nm K' tl' ms' us') (hP : m_P J (w_d mm) tp') (hY : m_Y J rd') (hl : w_le mk mm) (hs : w_msl ms ms') (g : m_gp P I J) (p : ∀ f k, P f k → ∀ j, j < 24 → j ≠ m → ¬ m_zp j f k) (hz : m_zm J mm ms' m v) : m_ZZ J mm us' nm K' tl' tp' rd' ms' (v_up B m v) := by
  refine ⟨hw, hP, hY, w_le_at hl h.2.2.2.1, fun j hj => ?_⟩
  by_cases cj : j = m
  · subst cj
    have : v_up B j v j = v := if_pos rfl
    rw [this]; exact hz
  · have : v_up B m v j = B j := if_neg cj
    rw [this]
    refine m_zm_gp hj (h.2.2.2.2 j hj) g hl hs (fun f k q => ?_)
    have := p f k q j hj cj
    unfold m_zp at this
    exact ⟨fun c => this (Or.inl c), fun c => this (Or.inr (Or.inl c)), fun c => this (Or.inr (Or.inr (Or.inl c))), fun c => this (Or.inr (Or.inr (Or.inr (Or.inl c)))), fun c => this (Or.inr (Or.inr (Or.inr (Or.inr (Or.inl c))))), fun c => this (Or.inr (Or.inr (Or.inr (Or.inr (Or.inr c)))))⟩
/-- a member that made a group -/
def v_cr (m nn : Nat) (v : v_M) : v_M := (True, w_G0 m nn, none, [], [], v_Lk v)
theorem v_cr_z (hst : m_st J mm m (w_G0 m nn)) (j27 : J 27 m = 1) (j46 : J 46 m = 0) (j47 : J 47 m = 0) (j28 : J 28 m = 0) (hk : m_pk J mm m (v_Lk v)) : m_zm J mm ms m (v_cr m nn v) := by
  refine ⟨Or.inl ⟨j27, trivial⟩, fun _ => ?_, ?_, ?_, ?_, ?_⟩
  · show m_st J mm m (w_G0 m nn)
    exact hst
  · show J 28 m = 0
    exact j28
  · show m_pp J mm ms m []
    exact ⟨j46, by simp, fun i k h hi => by simp at hi⟩
  · show m_up J mm m []
    exact ⟨j47, by simp, fun i h v hi => by simp at hi⟩
  · show m_pk J mm m (v_Lk v)
    exact hk
theorem z_cr_go {J : sr_V} (hm : m < 24) (h : m_ZZ I mk us nn K tl tp rd ms B) (hle : w_le mk mm) (hL : m_L J mm (nn + 2) K tl) (hst : m_st J mm m (w_G0 m nn)) (j27 : J 27 m = 1) (j46 : J 46 m = 0) (j47 : J 47 m = 0) (j28 : J 28 m = 0) (g : m_gp (m_pc m) I J) : m_ZZ J mm us (nn + 2) K tl tp rd ms (v_up B m (v_cr m nn (B m))) := by
  have ll := w_le_len hle
  have i4 := h.1.1.2.2.2.1
  have j4 := hL.2.2.2.1
  have le4 : I 1000 4 ≤ J 1000 4 := by omega
  have he : ∀ u : Nat, (u : Int) ≤ I 1000 4 → w_d mm u = w_d mk u := fun u hu => w_le_d hle (by omega)
  have hMM := m_Mu h.1.1 h.1.2.2.1 h.1.2.2.2 hL hle (fun f k c => g f k (fun q => by have := m_pc_no q; omega))
  have hme : m_me J mm := m_me_le (m_me_gp h.1.2.1 g (fun f k c => by have := (m_pc_no c).1; omega)) hle
  have hP : m_P J (w_d mm) tp := m_P_e (funext (fun k => g 2 k (fun q => by have := (m_pc_no q).1; omega))) (g 1000 3 (fun q => by have := (m_pc_no q).2.1; omega)) le4 he h.2.1
  have hY : m_Y J rd := fun k hk => by
    rw [g 1 k (fun q => by have := (m_pc_no q).1; omega)]
    exact h.2.2.1 k hk
  have hpk : m_pk J mm m (v_Lk (B m)) := m_pk_gp (h.2.2.2.2 m hm).2.2.2.2.2 g (fun f k c => by have := (m_pc_no c).2.2; omega) hle
  exact m_ZZ_up h ⟨hL, hme, hMM.1, hMM.2⟩ hP hY hle (w_msl_refl _) g (fun f k c j hj cj => (m_zp_pc c).elim (fun c => m_zp_ne hm hj cj c) (fun c => m_zp_hi c)) (v_cr_z hst j27 j46 j47 j28 hpk)
theorem m_zm_no (h : m_zm I mk ms m v) (h0 : I 27 m = 0) : ¬ v_in v := by
  rcases h.1 with ⟨a, _⟩ | ⟨_, b⟩
  · rw [h0] at a; exact absurd a (by decide)
  · exact b
theorem m_zm_yes (h : m_zm I mk ms m v) (h0 : I 27 m = 1) : v_in v := by
  rcases h.1 with ⟨_, b⟩ | ⟨a, _⟩
  · exact b
  · rw [h0] at a; exact absurd a (by decide)
theorem z_create (bd : ∀ m : Nat, x = m → m < 24 → ¬ v_in (B m) → m_bd (w_tls mk (w_crL m nn))) (h : m_ZZ I mk us nn K tl tp rd ms B) (q1 : ∀ J us', ¬ (0 ≤ x ∧ x < 24) → m_ZZ J mk us' nn K tl tp rd ms B → J 1000 0 = 1 → R J) (q2 : ∀ (m : Nat) J us', x = m → m < 24 → v_in (B m) → m_ZZ J mk us' nn K tl tp rd ms B → J 1000 0 = 2 → R J) (q : ∀ (m : Nat) J us', x = m → m < 24 → ¬ v_in (B m) → m_ZZ J (w_tls mk (w_crL m nn)) us' (nn + 2) K tl tp rd ms (v_up B m (v_cr m nn (B m))) → J 1000 0 = 0 → R J) : rm_13 x I R := by
  have zm := h.2.2.2.2
  have a1 : ¬ (0 ≤ x ∧ x < 24) → R (su I 1000 0 1) := fun c => by
    obtain ⟨u1, hz1⟩ := m_ZZ_th h 1
    exact q1 (su I 1000 0 1) u1 c hz1 (su_eq I 1000 0 1)
  have a2 : ∀ m : Nat, x = m → m < 24 → I 27 m = 1 → R (su I 1000 0 2) := fun m hx hm h1 => by
    obtain ⟨u2, hz2⟩ := m_ZZ_th h 2
    exact q2 m (su I 1000 0 2) u2 hx hm (m_zm_yes (zm m hm) h1) hz2 (su_eq I 1000 0 2)
  have a3 : ∀ m : Nat, m < 24 → I 27 m = 0 ∨ I 27 m = 1 := fun m hm => (m_zm_01 (zm m hm)).1
  have a4 : ∀ m : Nat, x = m → m < 24 → I 27 m = 0 → m_bd (w_tls mk (w_crL m nn)) := fun m hx hm h0 => bd m hx hm (m_zm_no (zm m hm) h0)
  refine r_create h.1.1 h.1.2.1 a3 a4 a1 a2 (fun m J hx hm h0 hL hst j27 j46 j47 j28 j0 g => ?_)
  have z := z_cr_go hm h (w_tls_le (w_crL m nn) mk) hL hst j27 j46 j47 j28 g
  exact q m J us hx hm (m_zm_no (zm m hm) h0) z j0
end
section
variable {H Z : sw_H} {nn nm m : Nat} {K K' : Wt → Prop} {tl tl' tp tp' mk mm : List Wt} {rd rd' : Nat → Int} {ms ms' : List (List Wt)} {cn cs cn' cs' x N U M : Int} {A : List Nat} {B : Nat → v_M} {v : v_M} {Q : sw_H → Prop} {E : Nat → sw_H → Prop}
theorem c_ZZ_up (h : c_ZZ H mk nn K tl cn cs tp rd ms B) (hBS : c_BS Z mm nm K' tl' cn' cs' tp' rd' ms' (fun j => v_La (v_up B m v j))) (htol : c_tol Z) (hOut : c_Out Z) (c : c_ch A H Z) (hl : w_le mk mm) (hs : w_msl ms ms') (r18 : sw_rv Z 18 0 = 3) (t : Nat → Nat) (ht : ∀ k, k < 49 → t k < 49 ∧ c_plc Z k = c_plc H (t k)) (hi : ∀ j k, j < 49 → k < 49 → t j = t k → j = k) (hgs : ∀ k, k < 49 → (k = 0 ∨ k = 2 * m + 1 ∨ k = 2 * m + 2) → c_gs Z (c_plc H k)) (hA1 : ∀ a ∈ A, ∀ j, j < 24 → j ≠ m → a ≠ 120 + 54 * j ∧ (a < 120 + 54 * j + 49 ∨ 120 + 54 * j + 53 < a)) (hA2 : ∀ a ∈ A, ∀ k, k < 49 → ¬ (k = 0 ∨ k = 2 * m + 1 ∨ k = 2 * m + 2) → a < c_plc H k ∨ c_plc H k + 22 < a) (hz : c_zm Z mm ms' m v) : c_ZZ Z mm nm K' tl' cn' cs' tp' rd' ms' (v_up B m v) := by
  obtain ⟨h1, h2, ⟨t1, t2, t3, t4⟩, h4, h5, h6, h7⟩ := h
  have fl := h1.1.1.2.2.2.1
  have ad := h1.1.1.2.2.2.2
  have ty : ∀ a, c_fix a → sw_ty Z a = sw_ty H a := fun a ha => (c_fx_ty fl c ha).1
  refine ⟨hBS, htol, ⟨by rw [ty 44 (by unfold c_fix; omega)]; exact t1, by rw [ty 18 (by unfold c_fix; omega)]; exact t2, r18, by rw [ty 1422 (by unfold c_fix; omega)]; exact t4⟩, hOut, w_le_at hl h5, c_PL_tr h6 t ht hi (fun k hk => ?_), fun j hj => ?_⟩
  · by_cases hk0 : k = 0 ∨ k = 2 * m + 1 ∨ k = 2 * m + 2
    · exact hgs k hk hk0
    · exact c_gs_ch (h6.1 k hk).2 fl ad c (fun a ha hn => by have := hA2 a ha k hk hk0; omega) (fun cc => by have := hA2 _ cc k hk hk0; omega)
  · by_cases cj : j = m
    · subst cj
      have : v_up B j v j = v := if_pos rfl
      rw [this]; exact hz
    · have : v_up B m v j = B j := if_neg cj
      rw [this]
      refine c_zm_ch hj (h7 j hj) h6 fl ad c hl hs (fun a ha => ?_)
      have a1 := hA1 a ha j hj cj
      have a4 := hA2 a ha (2 * j + 1) (by omega) (by omega)
      have a5 := hA2 a ha (2 * j + 2) (by omega) (by omega)
      rw [c_plc_4] at a4
      rw [c_plc_5] at a5
      exact ⟨a1.1, a1.2, a4, a5⟩
end
end
