/-! ===== a COMMIT taken: the changes that it names ===== -/
noncomputable section
section
variable {A : Type} {f : p_S → Option (A × Nat × Nat)} {l : List Wt} {K : Wt → Prop} {ep sd : Int} {b e1 i k : Nat} {es : List p_E} {pt : Option p_P} {sg cf tg h : Wt} {C : List w_Ch} {c : w_Ch} {x : p_E}
theorem p_many_in (hf : p_fw f) : ∀ {n i e : Nat} {r : List A} {s : Nat × Nat}, p_many f n (some (i, e)) = some (r, s) → ∀ x ∈ r, ∃ j s', i ≤ j ∧ f (some (j, e)) = some (x, s')
  | 0, i, e, r, s, h, x, hx => by
    by_cases c : i < e
    · rw [show p_many f 0 (some (i, e)) = none from if_pos c] at h
      cases h
    · rw [p_many_e (by omega)] at h
      have h := Option.some.inj h
      rw [Prod.mk.injEq] at h
      rw [← h.1] at hx
      cases hx
  | n + 1, i, e, r, s, h, x, hx => by
    by_cases c : i < e
    · rw [p_many_s c, Option.bind_eq_some_iff] at h
      obtain ⟨⟨a, i', e'⟩, eo, h⟩ := h
      obtain ⟨b1, b2, b3⟩ := hf.2 i e a _ eo
      have b1 : i < i' := b1
      have b3 : e' = e := b3
      subst b3
      rw [Option.map_eq_some_iff] at h
      obtain ⟨⟨r', s'⟩, h1, h2⟩ := h
      have h1 : p_many f n (some (i', e')) = some (r', s') := h1
      rw [Prod.mk.injEq] at h2
      have h2 : a :: r' = r := h2.1
      rw [← h2, List.mem_cons] at hx
      rcases hx with hx | hx
      · exact ⟨i, (i', e'), Nat.le_refl _, by rw [hx]; exact eo⟩
      · obtain ⟨j, s2, j1, j2⟩ := p_many_in hf h1 x hx
        exact ⟨j, s2, by omega, j2⟩
    · rw [p_many_e (by omega)] at h
      have h := Option.some.inj h
      rw [Prod.mk.injEq] at h
      rw [← h.1] at hx
      cases hx
/-- each of a COMMIT's changes was read where it stands -/
theorem p_cm_en (h : p_cm K l ep sd b e1 es pt sg cf tg) (hx : x ∈ es) : ∃ j e s, e ≤ l.length ∧ p_en K l (some (j, e)) = some (x, s) := by
  have h5 := h.2.2.2.2.1
  unfold p_row at h5
  rw [Option.bind_eq_some_iff] at h5
  obtain ⟨⟨en, i1, e2⟩, h6, h7⟩ := h5
  obtain ⟨r1, r2, r3, r4, _⟩ := p_r_ix h6
  rw [Option.bind_eq_some_iff] at h7
  obtain ⟨⟨es', s'⟩, h8, h9⟩ := h7
  have h8 : p_many (p_en K l) (en - i1) (some (i1, en)) = some (es', s') := h8
  dsimp only at h9
  split at h9
  · have h9 := Option.some.inj h9
    rw [Prod.mk.injEq, Prod.mk.injEq] at h9
    obtain ⟨j, s2, _, j2⟩ := p_many_in p_en_fw h8 x (by rw [h9.1.2]; exact hx)
    exact ⟨j, en, s2, r3, j2⟩
  · cases h9
theorem p_cm_ct (h : p_cm K l ep sd b e1 es pt sg cf tg) {pl : Nat} {v : p_C} (hx : (pl, ([] : Wt), v) ∈ es) : ∃ e s, e ≤ l.length ∧ p_ct K l (some (pl, e)) = some (v, s) := by
  obtain ⟨j, e, s, he, hen⟩ := p_cm_en h hx
  obtain ⟨p1, p2, p3, p4, p5⟩ := p_en_ix hen
  rcases p5 with ⟨_, p6, _⟩ | ⟨_, _, p6⟩
  · have := (p_t_in p6).2.2.2.1
    cases this
  · exact ⟨e, s, he, by rw [p1]; exact p6⟩
/-- what a COMMIT names -/
def d_get (C : List w_Ch) (sd : Int) (e : p_E) : w_Ch := if e.2.1 = [] then (e.2.2, sd, []) else (C.find? (fun c => decide (c.2.2 = e.2.1))).getD (p_C0, 0, [])
def d_L (C : List w_Ch) (sd : Int) (es : List p_E) : List w_Ch := es.map (d_get C sd)
/-- a HASH of it is of nothing kept -/
def d_un (C : List w_Ch) (es : List p_E) : Prop := ∃ e ∈ es, e.2.1 ≠ [] ∧ ∀ c ∈ C, c.2.2 ≠ e.2.1
theorem d_find : ∀ {C : List w_Ch} {i : Nat}, C[i]? = some c → c.2.2 = h → (∀ (j : Nat) (c' : w_Ch), j < i → C[j]? = some c' → c'.2.2 ≠ h) → C.find? (fun c => decide (c.2.2 = h)) = some c
  | [], i, hi, _, _ => by cases hi
  | d :: C, 0, hi, hc, _ => by
    have hi := Option.some.inj hi
    rw [List.find?_cons_of_pos (by rw [decide_eq_true_iff, hi]; exact hc), hi]
  | d :: C, i + 1, hi, hc, hn => by
    have := hn 0 d (by omega) rfl
    rw [List.find?_cons_of_neg (by rw [decide_eq_true_iff]; exact this)]
    exact d_find (C := C) (i := i) hi hc (fun j c' hj he => hn (j + 1) c' (by omega) he)
theorem d_get_0 {e : p_E} (he : e.2.1 = []) : d_get C sd e = (e.2.2, sd, []) := if_pos he
theorem d_get_1 {e : p_E} (he : e.2.1 ≠ []) (hc : C.find? (fun c => decide (c.2.2 = e.2.1)) = some c) : d_get C sd e = c := by
  unfold d_get
  rw [if_neg he, hc]
  rfl
theorem d_L_at (h : es[k]? = some x) : (d_L C sd es)[k]? = some (d_get C sd x) := by
  unfold d_L
  rw [List.getElem?_map, h]
  rfl
theorem d_L_len : (d_L C sd es).length = es.length := List.length_map _
end
variable {I I0 J X : sr_V} {nn us fr : Nat} {K K' : Wt → Prop} {tl mk l : List Wt} {Q : Int → sr_V → Prop} {R : sr_V → Prop} {m mi : Nat} {P : Nat → Nat → Prop} {h sg cf tg : Wt} {G : w_G} {ms : List (List Wt)} {C : List w_Ch} {Lk : List (Wt × Nat)} {ep sd x2 : Int} {b e1 : Nat} {es : List p_E} {pt : Option p_P}
theorem r_fp_l (hm : m < 24) (nd : mk.Nodup) (hP : m_pp I mk ms m Lk) (hx : w_at mk x2 h) (q1 : ∀ (i k : Nat), Lk[i]? = some (h, k) → (∀ (j : Nat) (e : Wt × Nat), j < i → Lk[j]? = some e → e.1 ≠ h) → Q k I) (q0 : (∀ e ∈ Lk, e.1 ≠ h) → Q (-1) I) : ∀ (n k : Nat), k ≤ Lk.length → Lk.length - k < n → (∀ (j : Nat) (e : Wt × Nat), j < k → Lk[j]? = some e → e.1 ≠ h) → rl_322_2 Q n m x2 k I
  | 0, _, _, h, _ => by omega
  | n + 1, k, hk, hn, inv => by
    obtain ⟨p1, p2, p3⟩ := hP
    unfold rl_322_2
    refine ⟨by omega, by omega, ?_⟩
    intro v1 e1 _
    rw [Int.toNat_natCast, p1] at e1
    refine ⟨fun c => q0 (fun e he => ?_), fun c => ?_⟩
    · obtain ⟨i, hi⟩ := List.getElem?_of_mem he
      exact inv i e (by have := (List.getElem?_eq_some_iff.mp hi).1; omega) hi
    · have hkl : k < Lk.length := by omega
      obtain ⟨i1, i2⟩ := w_i8160 hm (show k < 340 by omega)
      rw [i1]
      clear i1
      refine ⟨by omega, i2, ?_⟩
      intro v28 e28 _
      rw [Int.toNat_natCast] at e28
      obtain ⟨⟨u, kk⟩, hu⟩ : ∃ e, Lk[k]? = some e := ⟨Lk[k]'hkl, List.getElem?_eq_getElem hkl⟩
      obtain ⟨k1, k2, k3⟩ := p3 k kk u hu
      refine ⟨fun c1 => ?_, fun c1 => ⟨by omega, i2, ?_⟩⟩
      · intro y31 e31
        rw [e31, sw_w_s (by omega) (by omega), show (k : Int) + 1 = ((k + 1 : Nat) : Int) by omega]
        refine r_fp_l hm nd ⟨p1, p2, p3⟩ hx q1 q0 n (k + 1) (by omega) (by omega) (fun i e hi he => ?_)
        by_cases ci : i = k
        · subst ci
          rw [hu] at he
          have he := Option.some.inj he
          rw [← he]
          intro c2
          have c2 : u = h := c2
          rw [c2] at k1
          exact c1 (by rw [e28]; exact w_at_inj nd k1 hx)
        · exact inv i e (by omega) he
      · intro v11 e11 _
        rw [Int.toNat_natCast, k2] at e11
        have eu : u = h := by
          rw [← e28, c1] at k1
          rw [← w_at_d k1, w_at_d hx]
        rw [eu] at hu
        rw [e11]
        exact q1 k kk hu inv
theorem r_findProposal (hm : m < 24) (nd : mk.Nodup) (hP : m_pp I mk ms m Lk) (hx : w_at mk x2 h) (q1 : ∀ (i k : Nat), Lk[i]? = some (h, k) → (∀ (j : Nat) (e : Wt × Nat), j < i → Lk[j]? = some e → e.1 ≠ h) → Q k I) (q0 : (∀ e ∈ Lk, e.1 ≠ h) → Q (-1) I) : rm_322 m x2 I Q := by
  unfold rm_322
  exact ⟨Lk.length + 1, r_fp_l hm nd hP hx q1 q0 _ 0 (by omega) (by omega) (fun j e hj => by omega)⟩
end
