/-! ===== a WELCOME is read by its text alone; what a WELCOME makes once for its text ===== -/
noncomputable section
section
variable {K K2 : Wt → Prop} {l lm mk : List Wt} {A : Type} {f g : p_S → Option (A × Nat × Nat)} {ep sd : Int} {b e1 x : Nat} {prs : List (Wt × Wt)} {th cf cm sg v : Wt} {ns : List p_V}
theorem p_many_mo (hf : ∀ st r, f st = some r → g st = some r) : ∀ (n : Nat) (st : p_S) r, p_many f n st = some r → p_many g n st = some r
  | n, none, r, h => by rw [p_many_0] at h; cases h
  | 0, some (i, e), r, h => h
  | n + 1, some (i, e), r, h => by
    by_cases c : i < e
    · rw [p_many_s c, Option.bind_eq_some_iff] at h ⊢
      obtain ⟨a, h1, h2⟩ := h
      refine ⟨a, hf _ _ h1, ?_⟩
      rw [Option.map_eq_some_iff] at h2 ⊢
      obtain ⟨r', h3, h4⟩ := h2
      exact ⟨r', p_many_mo hf n _ _ h3, h4⟩
    · rw [p_many_e (by omega)] at h ⊢
      exact h
theorem p_all_mo (hf : ∀ st r, f st = some r → g st = some r) : ∀ (st : p_S) r, p_all f st = some r → p_all g st = some r
  | none, r, h => by cases h
  | some (i, e), r, h => p_many_mo hf (e - i) (some (i, e)) r h
theorem p_row_mo (hf : ∀ st r, f st = some r → g st = some r) {st : p_S} {r : (Nat × A) × Nat × Nat} (h : p_row f l st = some r) : p_row g l st = some r := by
  unfold p_row at h ⊢
  rw [Option.bind_eq_some_iff] at h ⊢
  obtain ⟨ro, h1, h2⟩ := h
  refine ⟨ro, h1, ?_⟩
  rw [Option.bind_eq_some_iff] at h2 ⊢
  obtain ⟨a, h3, h4⟩ := h2
  exact ⟨a, hf _ _ h3, h4⟩
theorem p_no_mo (hK : p_kn K K2 l) {st : p_S} {r : p_V × Nat × Nat} (h : p_no K l x st = some r) : p_no K2 l x st = some r := by
  unfold p_no at h ⊢
  rw [Option.bind_eq_some_iff] at h ⊢
  obtain ⟨a, h1, h2⟩ := h
  refine ⟨a, h1, ?_⟩
  by_cases c0 : a.1 = 0
  · rw [if_pos c0] at h2 ⊢; exact h2
  · rw [if_neg c0] at h2 ⊢
    by_cases c1 : a.1 = 1 ∧ x % 2 = 0
    · rw [if_pos c1, Option.map_eq_some_iff] at h2 ⊢
      obtain ⟨f, h3, h4⟩ := h2
      exact ⟨f, p_lf_mo hK h3, h4⟩
    · rw [if_neg c1] at h2 ⊢
      by_cases c2 : a.1 = 2 ∧ x % 2 = 1
      · rw [if_pos c2, Option.bind_eq_some_iff] at h2 ⊢
        obtain ⟨k, h3, h4⟩ := h2
        refine ⟨k, p_t_mo hK h3, ?_⟩
        rw [Option.bind_eq_some_iff] at h4 ⊢
        obtain ⟨hh, h5, h6⟩ := h4
        exact ⟨hh, p_h_mo hK h5, h6⟩
      · rw [if_neg c2] at h2
        cases h2
theorem p_nos_mo (hK : p_kn K K2 l) : ∀ (n x : Nat) (st : p_S) r, p_nos K l n x st = some r → p_nos K2 l n x st = some r
  | n, x, none, r, h => by rw [p_nos_0] at h; cases h
  | 0, x, some (i, e), r, h => h
  | n + 1, x, some (i, e), r, h => by
    by_cases c : i < e
    · rw [p_nos_s c, Option.bind_eq_some_iff] at h ⊢
      obtain ⟨a, h1, h2⟩ := h
      refine ⟨a, p_no_mo hK h1, ?_⟩
      rw [Option.map_eq_some_iff] at h2 ⊢
      obtain ⟨r', h3, h4⟩ := h2
      exact ⟨r', p_nos_mo hK n (x + 1) _ _ h3, h4⟩
    · rw [p_nos_e (by omega)] at h ⊢
      exact h
theorem p_tr_mo (hK : p_kn K K2 l) {st : p_S} {r : List p_V × Nat × Nat} (h : p_tr K l st = some r) : p_tr K2 l st = some r := by
  unfold p_tr at h ⊢
  rw [Option.bind_eq_some_iff] at h ⊢
  obtain ⟨a, h1, h2⟩ := h
  exact ⟨a, p_row_mo (fun st r => p_nos_mo hK 31 0 st r) h1, h2⟩
theorem p_hs_mo (hK : p_kn K K2 l) {st : p_S} {r : (Wt × Wt) × Nat × Nat} (h : p_hs K l st = some r) : p_hs K2 l st = some r := by
  unfold p_hs at h ⊢
  rw [Option.bind_eq_some_iff] at h ⊢
  obtain ⟨a, h1, h2⟩ := h
  refine ⟨a, p_t_mo hK h1, ?_⟩
  rw [Option.map_eq_some_iff] at h2 ⊢
  obtain ⟨s, h3, h4⟩ := h2
  exact ⟨s, p_t_mo hK h3, h4⟩
theorem p_we_mo (hK : p_kn K K2 l) (h : p_we K l ep b e1 prs th cf sd ns cm sg) : p_we K2 l ep b e1 prs th cf sd ns cm sg := by
  obtain ⟨h1, h2, h3, h4, h5, h6, h7, h8, h9, h10⟩ := h
  exact ⟨h1, h2, p_row_mo (fun st r => p_all_mo (fun st r => p_hs_mo hK) st r) h3, h4, p_t_mo hK h5, p_h_mo hK h6, h7, p_tr_mo hK h8, p_t_mo hK h9, p_t_mo hK h10⟩
/-- what stands in a text -/
def p_K1 (l : List Wt) (w : Wt) : Prop := w ∈ l ∨ w = []
theorem p_we_1 (h : p_we K l ep b e1 prs th cf sd ns cm sg) : p_we (p_K1 l) l ep b e1 prs th cf sd ns cm sg := p_we_mo (fun i _ => by
  cases e : l[i]? with
  | none => exact Or.inr rfl
  | some w => exact Or.inl (List.mem_of_getElem? e)) h
theorem p_we_vo (hvl : w_vl lm) (h : p_we K lm ep b e1 prs th cf sd ns cm sg) : ∀ (j : Nat) v, ns[j]? = some v → w_vok K j v := by
  have h5 := h.2.2.2.2.2.2.2.1
  unfold p_tr at h5
  rw [Option.bind_eq_some_iff] at h5
  obtain ⟨⟨⟨a, ns'⟩, i1, e2⟩, h6, h7⟩ := h5
  dsimp only at h7
  split at h7
  · have h7 := Option.some.inj h7
    rw [Prod.mk.injEq] at h7
    have h7 : ns' = ns := h7.1
    subst h7
    unfold p_row at h6
    rw [Option.bind_eq_some_iff] at h6
    obtain ⟨⟨en, i3, e3⟩, h8, h9⟩ := h6
    obtain ⟨r1, r2, r3, r4, _⟩ := p_r_ix h8
    rw [Option.bind_eq_some_iff] at h9
    obtain ⟨⟨es', s'⟩, h10, h11⟩ := h9
    have h10 : p_nos K lm 31 0 (some (i3, en)) = some (es', s') := h10
    dsimp only at h11
    split at h11
    · have h11 := Option.some.inj h11
      rw [Prod.mk.injEq, Prod.mk.injEq] at h11
      have h12 : es' = ns' := h11.1.2
      subst h12
      intro j v hv
      have k := (p_nos_in hvl (by omega) r3 h10).2.2 j v hv
      rw [Nat.zero_add] at k
      exact k
    · cases h11
  · cases h7
theorem p_we_ph (hvl : w_vl lm) (h : p_we K lm ep b e1 prs th cf sd ns cm sg) (y : Nat) : t_ph (t_of ns) y = [] ∨ (t_ph (t_of ns) y).head? = some 1 ∧ t_ph (t_of ns) y ∈ lm := by
  have k := p_we_vo hvl (p_we_1 h)
  have e : t_ph (t_of ns) y = (p_nv ns y).2.2.2.1 := rfl
  rw [e]
  unfold p_nv
  cases o : ns[y]? with
  | none => exact Or.inl rfl
  | some v =>
    show v.2.2.2.1 = [] ∨ _
    rcases k y v o with g | ⟨_, m, k1, p, so, ph, g, e1, _, _, _, _, _, _, _, _, q⟩ | ⟨_, k1, ph, um, e1, _, _, _, q⟩
    · rw [g]; exact Or.inl rfl
    · rw [e1]
      rcases q with q | ⟨q1, q2⟩
      · exact Or.inl q
      · rcases q2 with q2 | q2
        · exact Or.inr ⟨q1, q2⟩
        · exact Or.inl q2
    · rw [e1]
      rcases q with q | ⟨q1, q2⟩
      · exact Or.inl q
      · rcases q2 with q2 | q2
        · exact Or.inr ⟨q1, q2⟩
        · exact Or.inl q2
theorem p_we_sg (hvl : w_vl lm) (h : p_we K lm ep b e1 prs th cf sd ns cm sg) {k : Nat} (hk : t_ky (t_of ns) (2 * k) ≠ []) : t_sg (t_of ns) k ∈ lm := by
  have kk := p_we_vo hvl (p_we_1 h)
  have e : t_sg (t_of ns) k = (p_nv ns (2 * k)).2.1.2.2.2.2.2 := rfl
  have e0 : t_ky (t_of ns) (2 * k) = (p_nv ns (2 * k)).2.2.1 := rfl
  rw [e0] at hk
  rw [e]
  unfold p_nv at hk ⊢
  cases o : ns[2 * k]? with
  | none => rw [o] at hk; exact absurd rfl hk
  | some v =>
    rw [o] at hk
    have hk : v.2.2.1 ≠ [] := hk
    show v.2.1.2.2.2.2.2 ∈ lm
    rcases kk (2 * k) v o with g | ⟨_, m, k1, p, so, ph, g, e1, _, _, _, _, _, _, _, q, _⟩ | ⟨g, _⟩
    · rw [g] at hk; exact absurd rfl hk
    · rw [e1]
      rcases q.2 with q2 | q2
      · exact q2
      · have := q.1
        rw [q2] at this
        cases this
    · omega
/-- a list of terms with all that is in them -/
def b_clo (mk : List Wt) : Prop := ∀ (s : Nat) (a b c : Wt) (l : List Wt), w_t s a b c l ∈ mk → ∀ x ∈ l, x.head? ≠ some 1000 → x ∈ mk
theorem b_thm (hc : b_clo mk) {T : w_T} {wo : Int} : ∀ h x, w_h x = h → x + 2 ^ h ≤ 31 → w_thh T wo h x ∈ mk → ∀ y, x + 1 ≤ y + 2 ^ h → y < x + 2 ^ h → w_th T wo y ∈ mk
  | 0, x, e, hx, hm, y, y1, y2 => by
    have y1 : x + 1 ≤ y + 1 := y1
    have y2 : y < x + 1 := y2
    have : y = x := by omega
    subst this
    unfold w_th
    rw [e]
    exact hm
  | h + 1, x, e, hx, hm, y, y1, y2 => by
    have hp : 0 < 2 ^ h := Nat.two_pow_pos _
    have h2 : 2 ^ (h + 1) = 2 * 2 ^ h := by rw [Nat.pow_succ]; omega
    obtain ⟨k1, k2, k3⟩ := w_h_kid (y := x) (h := h) (by omega) e
    have hm' : w_t 1 [] [] [] (w_nr T wo (h + 1) x (w_thh T wo h (x - 2 ^ h)) (w_thh T wo h (x + 2 ^ h))) ∈ mk := hm
    have hd : ∀ z, (w_thh T wo h z).head? = some 1 := fun z => by
      cases h with
      | zero => rfl
      | succ h => rfl
    have mem : ∀ z, z = w_thh T wo h (x - 2 ^ h) ∨ z = w_thh T wo h (x + 2 ^ h) → z ∈ w_nr T wo (h + 1) x (w_thh T wo h (x - 2 ^ h)) (w_thh T wo h (x + 2 ^ h)) := fun z hz => by
      unfold w_nr
      rw [if_neg (by omega)]
      refine List.mem_append_right _ ?_
      rcases hz with g | g
      · rw [g]; exact List.mem_cons_self ..
      · rw [g]; exact List.mem_cons_of_mem _ (List.mem_cons_self ..)
    have ml : w_thh T wo h (x - 2 ^ h) ∈ mk := hc 1 [] [] [] _ hm' _ (mem _ (Or.inl rfl)) (by rw [hd]; decide)
    have mr : w_thh T wo h (x + 2 ^ h) ∈ mk := hc 1 [] [] [] _ hm' _ (mem _ (Or.inr rfl)) (by rw [hd]; decide)
    rcases Nat.lt_trichotomy y x with g | g | g
    · exact b_thm hc h (x - 2 ^ h) k2 (by omega) ml y (by omega) (by omega)
    · subst g
      unfold w_th
      rw [e]
      exact hm
    · exact b_thm hc h (x + 2 ^ h) k3 (by omega) mr y (by omega) (by omega)
end
end
