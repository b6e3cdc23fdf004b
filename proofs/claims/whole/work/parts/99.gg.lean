/-! ===== trees behind a path are right; keys that are read ===== -/
noncomputable section
variable {T A B T0 : w_T} {l k n m nn x y b : Nat} {kf : Nat → Wt} {C : Nat → Int} {msk com : Int}
theorem t_ok_kpn (hl : l < 16) (h : t_ok T) (hk : ∀ j, C j ≠ 0 → kf j ≠ []) : ∀ n, n ≤ 4 → t_ok (t_kpn C T l kf n)
  | 0, _ => h
  | n + 1, hn => by
    have ih := t_ok_kpn hl h hk n (by omega)
    by_cases c : C n = 0
    · rw [t_kpn_0 c]; exact t_ok_bl ih
    · rw [t_kpn_1 c]; exact t_ok_sk1 (t_ok_bl ih) (t_ab_o hl (by omega) (by omega)) (hk n c)
theorem t_ok_pp (hl : l < 16) (h : t_ok T) (hk : ∀ j, j < t_dp T → C j ≠ 0 → t_ky T (t_ab l (j + 1)) ≠ []) : ∀ m, m ≤ t_dp T → t_ok (t_pp C T l m).1
  | 0, _ => h
  | m + 1, hm => by
    have ih := t_ok_pp hl h hk m (by omega)
    have d4 := h.1
    by_cases c : C (t_dp T - 1 - m) = 0
    · rw [t_pp_0 c]; exact ih
    · rw [t_pp_1 c]
      exact t_ok_sp ih (t_ab_o hl (by omega) (by omega)) (by rw [t_pp_ky]; exact hk _ (by omega) c)
theorem t_ok_pth (hl : l < 16) (h : t_ok T) (hk : ∀ j, C j ≠ 0 → kf j ≠ []) : t_ok (t_pth C T l kf).1 := by
  have k1 := t_ok_kpn hl h hk (t_dp T) h.1
  have e : t_dp (t_kpn C T l kf (t_dp T)) = t_dp T := t_kpn_dp _
  unfold t_pth
  exact t_ok_pp hl k1 (fun j hj cj => by
    rw [e] at hj
    rw [(t_kpn_ky hl h.1 (t_dp T) (Nat.le_refl _) j hj).1, if_neg cj]
    exact hk j cj) (t_dp T) (by rw [e]; exact Nat.le_refl _)
theorem t_ok_pT2 (hl : l < 16) (hm : m < 24) (h : t_ok T) : t_ok (w_pT2 T l m nn) := by
  refine t_ok_put (t_ok_pth hl h (fun _ _ => List.cons_ne_nil _ _)) ?_
  exact ⟨(by omega : (0 : Int) ≤ (m : Int)), (by omega : (m : Int) < 65536), (by decide : (1 : Int) ≤ 3), (by decide : (3 : Int) ≤ 3), fun c => absurd rfl c, List.cons_ne_nil _ _⟩
/-- keys of the path, in the tree that has it -/
theorem w_pT2_on (hl : l < 2 ^ t_dp T) (h4 : t_dp T ≤ 4) {j : Nat} (hj : j < t_dp T) : t_ky (w_pT2 T l m nn) (t_ab l (j + 1)) = if t_cb T l j = 0 then [] else w_pkf T l nn j := by
  have d16 := t_d_16 h4
  have o : t_ab l (j + 1) % 2 = 1 := t_ab_o (by omega) (by omega) (by omega)
  have ne : t_ab l (j + 1) ≠ 2 * l := by omega
  show fu (t_ky (w_pth T l nn).1) (2 * l) _ _ = _
  rw [fu_ne ne]
  unfold w_pth t_pth
  rw [t_pp_ky]
  exact (t_kpn_ky (by omega) h4 (t_dp T) (Nat.le_refl _) j hj).1
theorem w_pT2_of2 (h4 : t_dp T ≤ 4) (h1 : y ≠ 2 * l) (h2 : ∀ j, j < t_dp T → y ≠ t_ab l (j + 1)) : t_ky (w_pT2 T l m nn) y = t_ky T y := by
  show fu (t_ky (w_pth T l nn).1) (2 * l) _ _ = _
  rw [fu_ne h1]
  unfold w_pth t_pth
  rw [t_pp_ky]
  exact (t_kpn_of2 (t_dp T) h2).1
section
variable {K : Wt → Prop} {l0 : List Wt} {i e : Nat} {s : Nat × Nat} {v : p_C} {f : p_L} {src : Int} {ms : List (List Wt)} {Lk : List (Wt × Nat)} {C : List w_Ch}
theorem p_lf_5 (hx : ∀ w ∈ l0, w.head? = some 5 → w_i5 w) (he : e ≤ l0.length) (h : p_lf K src l0 (some (i, e)) = some (f, s)) : w_i5 f.2.1 := by
  obtain ⟨m, k, p, so, ph, g⟩ := f
  obtain ⟨_, _, _, _, _, _, _, hk, _⟩ := p_lf_ix h
  have e2 := (p_t_in hk).2.2.2.1
  exact hx _ (List.mem_of_getElem? (p_t_sl he hk)) e2
theorem p_ct_5 (hx : ∀ w ∈ l0, w.head? = some 5 → w_i5 w) (he : e ≤ l0.length) (h : p_ct K l0 (some (i, e)) = some (v, s)) (hv : v.1 ≠ 3) : w_i5 v.2.1.2.1.2.1 := by
  obtain ⟨kd, ⟨ik, lf, g⟩, n⟩ := v
  obtain ⟨_, x2, hx2⟩ := p_ct_ix h
  rcases hx2 with ⟨rfl, es, _, hp, rfl⟩ | ⟨rfl, es, hp, _, _, rfl⟩ | ⟨rfl, es, hp, _, rfl, _⟩
  · have e2 : i + 12 ≤ l0.length := by rw [es] at x2; exact Nat.le_trans x2 he
    obtain ⟨_, _, _, _, hq, _⟩ := p_pk_ix hp
    exact p_lf_5 hx e2 hq
  · exact p_lf_5 hx he hp
  · exact absurd rfl hv
/-- PUBLIC in messages are as they are made -/
def w_x5 (ms : List (List Wt)) : Prop := ∀ p ∈ ms, ∀ w ∈ p, w.head? = some 5 → w_i5 w
theorem w_kc_get (h : w_kc K ms Lk C) {c : w_Ch} (hc : c ∈ C) : ∃ (i k : Nat) (hh : Wt) (p : List Wt) (ep : Int) (sg tg : Wt), Lk[i]? = some (hh, k) ∧ C[i]? = some c ∧ ms[k]? = some p ∧ p_pr K p ep c.2.1 c.1 sg tg ∧ c.2.2 = hh := by
  obtain ⟨i, hi⟩ := List.getElem?_of_mem hc
  have il : i < C.length := (List.getElem?_eq_some_iff.mp hi).1
  obtain ⟨⟨h0, k0⟩, e0⟩ : ∃ y, Lk[i]? = some y := ⟨_, List.getElem?_eq_getElem (by rw [← h.1]; exact il)⟩
  obtain ⟨p, ep, lf, v, sg, tg, hp, hr, hC⟩ := h.2 i k0 h0 e0
  have := hi
  rw [hC] at this
  injection this with this
  subst this
  exact ⟨i, k0, h0, p, ep, sg, tg, e0, hC, hp, hr, rfl⟩
theorem w_kc_5 (hx : w_x5 ms) (h : w_kc K ms Lk C) : h_p5 C := by
  intro c hc h3
  obtain ⟨i, k, hh, p, ep, sg, tg, _, _, hp, hr, _⟩ := w_kc_get h hc
  exact p_ct_5 (hx p (List.mem_of_getElem? hp)) (Nat.le_refl _) hr.2.2.2.2.1 h3
end
theorem h_ga_sub : ∀ (C L : List w_Ch) (c : w_Ch), c ∈ h_ga T com L C → c ∈ L ∨ c ∈ C
  | [], _, _, h => Or.inl h
  | d :: C, L, c, h => by
    by_cases dn : h_done T (L ++ [d]) com
    · rw [h_ga_1 dn] at h
      rcases h_ga_sub C _ c h with a | a
      · rcases List.mem_append.mp a with b | b
        · exact Or.inl b
        · rw [List.mem_singleton] at b; rw [b]; exact Or.inr (List.mem_cons_self ..)
      · exact Or.inr (List.mem_cons_of_mem _ a)
    · rw [h_ga_0 dn] at h
      rcases h_ga_sub C _ c h with a | a
      · exact Or.inl a
      · exact Or.inr (List.mem_cons_of_mem _ a)
end
