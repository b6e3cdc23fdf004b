/-! ===== a method's whole table, checked by computing ===== -/
noncomputable def sxOwn (j : Nat) : String := sx_lg "" sxOw (sxM j).2.1
noncomputable def sxL (o : Nat) : List (List (List (Nat × Nat × Nat × Nat × Nat))) := sx_lg [] sxLL o
noncomputable def sxK (j : Nat) : Nat → Nat → Nat → Nat → Bool := sx_K (sxL (sxM j).2.1)
def sx_rkB (rk : Nat) (rt : Option FieldType) : Bool := match rt with
  | none => Nat.beq rk 0
  | some .int => Nat.beq rk 1
  | some .boolean => Nat.beq rk 2
  | some (.object _) => Nat.beq rk 3
  | some (.array _) => Nat.beq rk 3
  | _ => false
theorem sx_rkB_ok {rk : Nat} {rt : Option FieldType} (h : sx_rkB rk rt = true) : sx_rk rk rt := by
  unfold sx_rkB at h
  split at h
  · have := sx_pq h; subst this; exact ⟨fun _ => rfl, fun h9 => (by cases h9), fun h9 => (by cases h9), fun h9 => (by cases h9)⟩
  · have := sx_pq h; subst this; exact ⟨fun h9 => (by cases h9), fun _ => rfl, fun h9 => (by cases h9), fun h9 => (by cases h9)⟩
  · have := sx_pq h; subst this; exact ⟨fun h9 => (by cases h9), fun h9 => (by cases h9), fun _ => rfl, fun h9 => (by cases h9)⟩
  · next n => have := sx_pq h; subst this; exact ⟨fun h9 => (by cases h9), fun h9 => (by cases h9), fun h9 => (by cases h9), fun _ => ⟨_, rfl, Or.inl ⟨n, rfl⟩⟩⟩
  · next n => have := sx_pq h; subst this; exact ⟨fun h9 => (by cases h9), fun h9 => (by cases h9), fun h9 => (by cases h9), fun _ => ⟨_, rfl, Or.inr ⟨n, rfl⟩⟩⟩
  · cases h
noncomputable def sx_hB (K : Nat → Nat → Nat → Nat → Bool) (cd : List (List sx_N)) : List (Nat × Nat × Nat × Nat) → List (Nat × Nat × Nat × Nat) → Bool
  | [], [] => true
  | q :: hs, u :: hm => (Nat.beq u.1 q.1 && Nat.beq u.2.1 q.2.1 && (match sx_at cd q.2.2.1 with
    | some en => Nat.beq en.2.2.2.1 u.2.2.1
    | none => false) && !(Nat.beq u.2.2.2 0) && K 70 u.2.2.2 q.2.2.2 0 && (Nat.ble 13 q.2.2.2 && Nat.ble q.2.2.2 15)) && sx_hB K cd hs hm
  | _, _ => false
theorem sx_hB_ok {K : Nat → Nat → Nat → Nat → Bool} {cd : List (List sx_N)} {own : String} (hK : ∀ idx a, K 70 idx a 0 = true → ∃ z, sxCl[a]? = some z ∧ Cond.classLink own idx z.1 ∈ sxTs) : ∀ hs hm, sx_hB K cd hs hm = true → sx_hOK sxTs sxCl cd own hs hm ∧ ∀ q ∈ hs, 13 ≤ q.2.2.2 ∧ q.2.2.2 ≤ 15 := by
  intro hs
  induction hs with
  | nil =>
    intro hm h
    cases hm with
    | nil => exact ⟨⟨rfl, fun k q u h9 => by cases h9⟩, fun q hq => by cases hq⟩
    | cons => cases h
  | cons q hs ih =>
    intro hm h
    cases hm with
    | nil => cases h
    | cons u hm =>
      unfold sx_hB at h
      simp only [Bool.and_eq_true] at h
      obtain ⟨⟨⟨⟨⟨⟨h1, h2⟩, h3⟩, h4⟩, h5⟩, h6, h7⟩, h8⟩ := h
      obtain ⟨⟨g1, g2⟩, g3⟩ := ih hm h8
      refine ⟨⟨by rw [List.length_cons, List.length_cons, g1], fun k q' u' hq hu => ?_⟩, fun q' hq => ?_⟩
      · cases k with
        | zero =>
          cases hq
          cases hu
          refine ⟨sx_pq h1, sx_pq h2, ?_, ?_, hK _ _ h5⟩
          · split at h3
            · next en he => exact ⟨en, he, sx_pq h3⟩
            · cases h3
          · intro h9
            rw [h9] at h4
            exact absurd h4 (by decide)
        | succ k => exact g2 k q' u' hq hu
      · rcases List.mem_cons.mp hq with rfl | hq
        · exact ⟨Nat.le_of_ble_eq_true h6, Nat.le_of_ble_eq_true h7⟩
        · exact g3 q' hq
noncomputable def sx_mE (j : Nat) (M : sx_Mt) (i : Nat) (en : sx_N) : Bool := sx_ck (sxK j) sxP sxfr sxlo (Nat.beq (sxM j).2.2.1 1) (sxfr j) (sxlo j) M i en && (bif sx_isw en.2.2.2.2.2 then sxSw.any (fun q => Nat.beq q.1 j && decide (q.2 = en)) else true)
noncomputable def sx_mB (j : Nat) (M : sx_Mt) : Bool := sx_wc M.2.2.2.2 (sxI j).2.1.data.toList 0 && sx_ev2 (sx_mE j M) M.2.2.2.2 0 && (decide ((sxI j).1.cls = sxOwn j) && sx_rkB M.2.2.1 (sxI j).2.2.1 && (bif Nat.beq (sxM j).2.2.1 1 then decide ((sxI j).1.name = "<init>") else true) && sx_hB (sxK j) M.2.2.2.2 M.2.2.2.1 (sxI j).2.2.2)
theorem sx_at_mem {cd : List (List sx_N)} {i : Nat} {en : sx_N} (h : sx_at cd i = some en) : ∃ r ∈ cd, en ∈ r := by
  unfold sx_at at h
  have hne : sx_lg [] cd (i / 16) ≠ [] := by intro h9; rw [h9] at h; cases h
  have h1 := sx_lg_lo hne
  rw [sx_lo_eq] at h1 h
  exact ⟨_, List.mem_of_getElem? h1, List.mem_of_getElem? h⟩
/-- the exceptions are no one another's -/
def sx_ncs : Prop := ∀ a b, 13 ≤ a → a ≤ 15 → 13 ≤ b → b ≤ 15 → a ≠ b → ∃ y z : vw_C, sxCl[a]? = some y ∧ sxCl[b]? = some z ∧ Cond.not (.castable y.1 z.1) ∈ sxTs
theorem sx_mB_ok (hall : sx_all) (hcal : ∀ a N, sxP a = some N → sx_cal a N (sxM a).2.2.2.1 (sxM a).2.2.2.2.1) (hthr : ∀ a z, 13 ≤ a → a ≤ 15 → sxCl[a]? = some z → sx_thr z.1) (hnc : sx_ncs) (hL : ∀ o, sx_ev2 (sx_l2 (sx_lg "" sxOw o)) (sxL o) 0 = true) (hSw : ∀ q ∈ sxSw, decode (sxI q.1).2.1 q.2.2.2.2.1 = .ok (q.2.2.2.2.2.2, q.2.2.2.2.2.1))
    {j : Nat} {M : sx_Mt} (h : sx_mB j M = true) : sx_mok sxg sxP j M := by
  unfold sx_mB at h
  simp only [Bool.and_eq_true, decide_eq_true_eq] at h
  obtain ⟨⟨h1, h2⟩, ⟨⟨h3, h4⟩, h5⟩, h6⟩ := h
  have hK : ∀ tag idx a b, sxK j tag idx a b = true → sx_ln sxg sxP (sxI j).1.cls tag idx a b ∧ (tag = 70 → ∃ z, sxCl[a]? = some z ∧ Cond.classLink (sxI j).1.cls idx z.1 ∈ sxTs) := fun tag idx a b hk => by
    rw [h3]
    exact sx_K_ok hall hcal hthr (hL (sxM j).2.1) hk
  obtain ⟨g1, g2⟩ := sx_hB_ok (own := (sxI j).1.cls) (fun idx a h9 => (hK 70 idx a 0 h9).2 rfl) _ _ h6
  have hdec : ∀ i en, sx_at M.2.2.2.2 i = some en → decode (sxI j).2.1 en.2.2.2.1 = .ok (en.2.2.2.2.2, en.2.2.2.2.1) := fun i en hi => by
    cases hw : sx_isw en.2.2.2.2.2 with
    | false =>
      obtain ⟨r, r1, r2⟩ := sx_at_mem hi
      exact sx_wc_ok _ _ 0 rfl h1 r r1 en r2 hw
    | true =>
      have h9 := sx_ev2_ok h2 hi
      unfold sx_mE at h9
      rw [hw] at h9
      dsimp only [cond] at h9
      rw [Bool.and_eq_true, List.any_eq_true] at h9
      obtain ⟨q, q1, q2⟩ := h9.2
      rw [Bool.and_eq_true, decide_eq_true_eq] at q2
      have h8 := hSw q q1
      rw [sx_pq q2.1, q2.2] at h8
      exact h8
  refine ⟨sx_ev2_len _ _ h2, g1, fun q hq q' hq' hne => hnc _ _ (g2 q hq).1 (g2 q hq).2 (g2 q' hq').1 (g2 q' hq').2 (fun h9 => hne h9.symm), fun i en hi => ?_⟩
  have h9 := sx_ev2_ok h2 hi
  unfold sx_mE at h9
  rw [Bool.and_eq_true] at h9
  refine sx_ck_ok (g := sxg) (K := sxK j) (fun tag idx a b hk => (hK tag idx a b hk).1) (fun hi9 => ?_) (sx_rkB_ok h4) (fun h0 => ?_) hdec hall.2.2 hi h9.1
  · rw [hi9] at h5
    exact of_decide_eq_true h5
  · have h7 := g1.1
    rw [h0] at h7
    exact List.length_eq_zero_iff.mp h7.symm
theorem sx_rows {α : Type} {f : Nat → α → Bool} {l : List (List α)} {n : Nat} (h : ∀ k, k < n → sx_ev1 f (sx_lg [] l k) (16 * k) = true) (hn : l.length ≤ n) {i : Nat} {a : α} (hi : sx_lo (sx_lg [] l (i / 16)) (i % 16) = some a) : f i a = true := by
  have hne : sx_lg [] l (i / 16) ≠ [] := by intro h9; rw [h9] at hi; cases hi
  have h1 := sx_lg_lo hne
  rw [sx_lo_eq] at h1
  have h2 : i / 16 < l.length := (List.getElem?_eq_some_iff.mp h1).1
  have h3 := sx_ev1_ok _ _ (h (i / 16) (by omega)) (i % 16) a hi
  rw [show 16 * (i / 16) + i % 16 = i from by omega] at h3
  exact h3
