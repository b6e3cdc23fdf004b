/-! ===== deliver: what it does, by the abstract state; the reference ===== -/
noncomputable section
section
variable {I J Y : sr_V} {nn nm us us' m mi : Nat} {K K' S : Wt → Prop} {tl tp mk mm lm l : List Wt} {rd : Nat → Int} {ms : List (List Wt)} {x x1 x2 z z' : Int} {B : Nat → v_M} {v v' w : v_M} {P : Nat → Nat → Prop} {Q : Int → sr_V → Prop} {C : List w_Ch} {Pt : List (List Wt × Wt × Wt)}
/-- what a COMMIT makes of a member -/
def v_df (v : v_M) : Option (Option w_G) → v_M
  | none => v
  | some none => (False, v_G v, none, [], [], v_Lk v)
  | some (some G) => (True, G, none, [], [], v_Lk v)
/-- what a WELCOME makes of a member -/
def v_wf (v : v_M) : Option (w_G × Nat) → v_M
  | none => v
  | some (G, i) => (True, G, none, [], [], (v_Lk v).eraseIdx i)
/-- what a message is answered with, and what it makes of a member -/
def v_dl (K : Wt → Prop) (mi : Nat) (v : v_M) (C : List w_Ch) (Pt : List (List Wt × Wt × Wt)) (lm : List Wt) (z : Int) (v' : v_M) : Prop :=
  ((∀ t, 1 ≤ t → t ≤ 4 → ¬ w_ft lm t) ∧ z = 1 ∧ v' = v) ∨ (w_ft lm 1 ∧ w_dkR K lm z ∧ v' = v) ∨ (w_ft lm 2 ∧ w_dpR K (v_in v) (v_G v) lm z ∧ v' = v_ok2 v (if z = 0 then w_kp (v_La v) (w_hs lm) mi else v_La v) (v_U v)) ∨ (w_ft lm 3 ∧ ∃ o, d_dcR K (v_in v) (v_G v) C (v_pd v) lm z o ∧ v' = v_df v o) ∨ (w_ft lm 4 ∧ ∃ o, e_weR K (v_in v) Pt lm z o ∧ v' = v_wf v o)
theorem w_ft_un {t t' : Int} (h : w_ft l t) (h' : w_ft l t') (h0 : 0 ≤ t) (h0' : 0 ≤ t') : t = t' := by
  have e := Option.some.inj (h.symm.trans h')
  unfold w_by at e
  simp only [List.cons.injEq, and_true, true_and] at e
  omega
theorem v_dl_un (h : v_dl K mi v C Pt lm z v') (h' : v_dl K mi v C Pt lm z' w) : z = z' ∧ v' = w := by
  have ne : ∀ {t t' : Int}, w_ft lm t → w_ft lm t' → 0 ≤ t → 0 ≤ t' → t ≠ t' → z = z' ∧ v' = w := fun a b c d e => absurd (w_ft_un a b c d) e
  rcases h with ⟨a, e⟩ | ⟨a, b, e⟩ | ⟨a, b, e⟩ | ⟨a, o, b, e⟩ | ⟨a, o, b, e⟩ <;> rcases h' with ⟨a', e'⟩ | ⟨a', b', e'⟩ | ⟨a', b', e'⟩ | ⟨a', o', b', e'⟩ | ⟨a', o', b', e'⟩
  · exact ⟨e.1.trans e'.1.symm, e.2.trans e'.2.symm⟩
  · exact absurd a' (a 1 (by decide) (by decide))
  · exact absurd a' (a 2 (by decide) (by decide))
  · exact absurd a' (a 3 (by decide) (by decide))
  · exact absurd a' (a 4 (by decide) (by decide))
  · exact absurd a (a' 1 (by decide) (by decide))
  · exact ⟨w_dkR_un b b', e.trans e'.symm⟩
  · exact ne a a' (by decide) (by decide) (by decide)
  · exact ne a a' (by decide) (by decide) (by decide)
  · exact ne a a' (by decide) (by decide) (by decide)
  · exact absurd a (a' 2 (by decide) (by decide))
  · exact ne a a' (by decide) (by decide) (by decide)
  · have ez := w_dpR_un b b'
    subst ez
    exact ⟨rfl, e.trans e'.symm⟩
  · exact ne a a' (by decide) (by decide) (by decide)
  · exact ne a a' (by decide) (by decide) (by decide)
  · exact absurd a (a' 3 (by decide) (by decide))
  · exact ne a a' (by decide) (by decide) (by decide)
  · exact ne a a' (by decide) (by decide) (by decide)
  · obtain ⟨e1, e2⟩ := d_dcR_un b b'
    subst e2
    exact ⟨e1, e.trans e'.symm⟩
  · exact ne a a' (by decide) (by decide) (by decide)
  · exact absurd a (a' 4 (by decide) (by decide))
  · exact ne a a' (by decide) (by decide) (by decide)
  · exact ne a a' (by decide) (by decide) (by decide)
  · exact ne a a' (by decide) (by decide) (by decide)
  · obtain ⟨e1, e2⟩ := e_weR_un b b'
    subst e2
    exact ⟨e1, e.trans e'.symm⟩
/-- what deliver may make -/
def v_dS (K : Wt → Prop) (v : v_M) (C : List w_Ch) (Pt : List (List Wt × Wt × Wt)) (lm : List Wt) (x : Wt) : Prop := (w_ft lm 2 ∧ (x = w_mem (v_G v) ∨ x = w_hs lm)) ∨ (w_ft lm 3 ∧ v_in v ∧ d_dS K (v_G v) C lm x) ∨ (w_ft lm 4 ∧ e_wS K Pt lm x)
theorem v_up_self : v_up B m (B m) = B := by
  funext j
  unfold v_up
  by_cases c : j = m
  · rw [if_pos c, c]
  · rw [if_neg c]
/-- the secrets of an own UPDATE that is kept -/
def v_Uk (v : v_M) (C : List w_Ch) : Prop := ∀ c ∈ C, c.1.1 = 2 → c.2.1 = (gg_lf (v_G v) : Int) → (∃ u, (c.2.2, u) ∈ v_U v) ∧ ∀ u, (c.2.2, u) ∈ v_U v → (h_lf c).2.1 = w_p5 u
theorem d_dcR_in {inn : Prop} {G : w_G} {pd : Option (List Wt × w_G)} {o : Option w_G} (h : d_dcR K inn G C pd lm z (some o)) : inn := by
  rcases h with ⟨_, _, e⟩ | ⟨_, _, _, _, _, _, _, _, _, _, ⟨_, _, e⟩ | ⟨h, _⟩⟩
  · cases e
  · cases e
  · exact h
/-- a PROPOSAL that was delivered -/
theorem z_dp_go {La : List (Wt × Nat)} (hm : m < 24) (h : m_ZZ I mk us nn K tl tp rd ms B) (hle : w_le mk mm) (hL : m_L J mm nn K tl) (hp : m_pp J mm ms m La) (g : m_gp (m_pdp m us) I J) : m_ZZ J mm us nn K tl tp rd ms (v_up B m (v_ok2 (B m) La (v_U (B m)))) := by
  have no : ∀ f k, m_pdp m us f k → m_zq m f k ∧ (m_kq m f k ∨ (f < 27 ∨ 54 < f)) ∧ ¬ (f = 24 ∨ f = 25 ∨ (f = 26 ∧ k < us) ∨ (f = 1000 ∧ (k = 22 ∨ k = 23))) := fun f k c => by
    unfold m_pdp m_pw m_p2 m_pj at c
    unfold m_zq
    rcases c with (c | c | c | c) | c | c
    · exact ⟨⟨by omega, by omega, Or.inr (Or.inr (by omega))⟩, Or.inr (by omega), by omega⟩
    · exact ⟨⟨by omega, by omega, Or.inr (Or.inr (by omega))⟩, Or.inr (by omega), by omega⟩
    · exact ⟨⟨by omega, by omega, Or.inr (Or.inr (by omega))⟩, Or.inr (by omega), by omega⟩
    · exact ⟨⟨by omega, by omega, Or.inr (Or.inr (by omega))⟩, Or.inr (by omega), by omega⟩
    · have c' := c
      unfold m_kq at c'
      exact ⟨⟨by omega, by omega, Or.inl (Or.inr (Or.inr (Or.inr (Or.inl c))))⟩, Or.inl c, by omega⟩
    · exact ⟨⟨by omega, by omega, Or.inr (Or.inr (by omega))⟩, Or.inr (by omega), by omega⟩
  obtain ⟨hM, e23⟩ := m_Mu h.1.1 h.1.2.2.1 h.1.2.2.2 hL hle (fun f k c => g f k (fun q => (no f k q).2.2 c))
  have zm := h.2.2.2.2 m hm
  refine m_ZZ_uq hm h hL hM e23 hle (w_msl_refl _) g (fun f k c => (no f k c).1) (m_zm_pu zm g hle (w_msl_refl _) (fun f k c => ?_) hp (m_up_gp zm.2.2.2.2.1 g (fun f k c => ?_) hle))
  · have q := (no f k c).2.1
    unfold m_kq at q
    unfold m_pl
    rcases q with q | q
    · refine ⟨by omega, by omega, by omega, by omega⟩
    · refine ⟨by omega, by omega, by omega, by omega⟩
  · have q := (no f k c).2.1
    unfold m_kq at q
    rcases q with q | q <;> exact ⟨by omega, by omega⟩
theorem m_pE_no {f k : Nat} (h : m_pE us f k) : m_s8 us f k ∧ ¬ (f = 24 ∨ f = 25 ∨ (f = 26 ∧ k < us) ∨ (f = 1000 ∧ (k = 0 ∨ k = 22 ∨ k = 23))) ∧ ¬ (f = 1 ∨ f = 2 ∨ f = 20 ∨ f = 21) ∧ ¬ (f = 1000 ∧ k = 3) ∧ (m_pl 48 f k ∨ (f < 27 ∨ 54 < f)) := by
  unfold m_pE m_pD at h
  rcases h with (h | h | h | h | h) | h
  · unfold m_p2 at h
    exact ⟨Or.inl (by unfold m_sf; omega), by omega, by omega, by omega, Or.inr (by omega)⟩
  · exact ⟨Or.inl (by unfold m_sf; omega), by omega, by omega, by omega, Or.inr (by omega)⟩
  · have h' := h
    unfold m_pl at h'
    exact ⟨Or.inr h, by omega, by omega, by omega, Or.inl h⟩
  · exact ⟨Or.inl (by unfold m_sf; omega), by omega, by omega, by omega, Or.inr (by omega)⟩
  · exact ⟨Or.inl (by unfold m_sf; omega), by omega, by omega, by omega, Or.inr (by omega)⟩
  · exact ⟨Or.inl (by unfold m_sf; omega), by omega, by omega, by omega, Or.inr (by omega)⟩
/-- a member that joined, left or went on -/
theorem z_dj_go {G : w_G} {inn : Prop} {Lk : List (Nat × Wt × Wt)} (hm : m < 24) (h : m_ZZ I mk us nn K tl tp rd ms B) (hle : w_le mk mm) (hL : m_L J mm nn K tl) (h27 : (J 27 m = 1 ∧ inn) ∨ (J 27 m = 0 ∧ ¬ inn)) (hst : inn → m_st J mm m G) (j46 : J 46 m = 0) (j47 : J 47 m = 0) (j28 : J 28 m = 0) (hk : m_pk J mm m Lk) (g : m_gp (fun f k => m_pE us f k ∨ m_pjn m f k) I J) : m_ZZ J mm us nn K tl tp rd ms (v_up B m (inn, G, none, [], [], Lk)) := by
  have no : ∀ f k, (m_pE us f k ∨ m_pjn m f k) → m_zq m f k ∧ ¬ (f = 24 ∨ f = 25 ∨ (f = 26 ∧ k < us) ∨ (f = 1000 ∧ (k = 22 ∨ k = 23))) := fun f k c => by
    rcases c with c | c
    · have q := m_pE_no c
      exact ⟨⟨q.2.2.1, q.2.2.2.1, q.2.2.2.2.elim (fun a => Or.inr (Or.inl a)) (fun a => Or.inr (Or.inr a))⟩, by have := q.2.1; omega⟩
    · unfold m_pjn at c
      rcases c with c | c | c | c | c
      · unfold m_p2 at c
        exact ⟨⟨by omega, by omega, Or.inr (Or.inr (by omega))⟩, by omega⟩
      · have c' := c
        unfold m_pl at c'
        exact ⟨⟨by omega, by omega, Or.inr (Or.inl c)⟩, by omega⟩
      · have c' := c
        unfold m_pl at c'
        exact ⟨⟨by omega, by omega, Or.inl (Or.inr (Or.inl c))⟩, by omega⟩
      · by_cases e : f = 46
        · exact ⟨⟨by omega, by omega, Or.inl (Or.inr (Or.inr (Or.inr (Or.inl (Or.inl ⟨e, c.2⟩)))))⟩, by omega⟩
        · exact ⟨⟨by omega, by omega, Or.inl (Or.inl ⟨by omega, c.2⟩)⟩, by omega⟩
      · exact ⟨⟨by omega, by omega, Or.inl (Or.inr (Or.inr (Or.inr (Or.inr (Or.inr c)))))⟩, by omega⟩
  obtain ⟨hM, e23⟩ := m_Mu h.1.1 h.1.2.2.1 h.1.2.2.2 hL hle (fun f k c => g f k (fun q => (no f k q).2 c))
  refine m_ZZ_uq hm h hL hM e23 hle (w_msl_refl _) g (fun f k c => (no f k c).1) ⟨h27, hst, ?_, ?_, ?_, hk⟩
  · show J 28 m = 0
    exact j28
  · show m_pp J mm ms m []
    exact ⟨j46, by simp, fun i k h hi => by simp at hi⟩
  · show m_up J mm m []
    exact ⟨j47, by simp, fun i h v hi => by simp at hi⟩
end
end
