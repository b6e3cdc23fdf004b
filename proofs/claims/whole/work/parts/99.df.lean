/-! ===== a WELCOME read: what is read ===== -/
noncomputable section
/-- a node of a tree as it was read: kind, LEAF, key, parent hash, unmerged leaves -/
abbrev p_V : Type := Int × p_L × Wt × Wt × Int
def p_V0 : p_V := (0, p_L0, [], [], 0)
/-- numbers of leaves, rising -/
def p_us (l : List Wt) : Nat → Int → Int → p_S → Option (Int × Nat × Nat)
  | _, _, _, none => none
  | 0, _, u, some (i, e) => if i < e then none else some (u, i, e)
  | n + 1, la, u, some (i, e) => if i < e then (p_16 l (some (i, e))).bind (fun a => if a.1 ≤ la ∨ 16 ≤ a.1 then none else p_us l n a.1 (u + ((2 ^ a.1.toNat : Nat) : Int)) (some a.2)) else some (u, i, e)
def p_ua (l : List Wt) : p_S → Option (Int × Nat × Nat)
  | none => none
  | some (i, e) => p_us l (e - i) (-1) 0 (some (i, e))
def p_no (K : Wt → Prop) (l : List Wt) (x : Nat) (st : p_S) : Option (p_V × Nat × Nat) := (p_8 l st).bind (fun a => if a.1 = 0 then some (p_V0, a.2) else if a.1 = 1 ∧ x % 2 = 0 then (p_lf K 0 l (some a.2)).map (fun f => (((1 : Int), f.1, f.1.2.1, f.1.2.2.2.2.1, (0 : Int)), f.2)) else if a.1 = 2 ∧ x % 2 = 1 then (p_t K 5 l (some a.2)).bind (fun k => (p_h K l (some k.2)).bind (fun h => (p_row (p_ua l) l (some h.2)).map (fun u => (((2 : Int), p_L0, k.1, h.1, u.1.2), u.2)))) else none)
def p_nos (K : Wt → Prop) (l : List Wt) : Nat → Nat → p_S → Option (List p_V × Nat × Nat)
  | _, _, none => none
  | 0, _, some (i, e) => if i < e then none else some ([], i, e)
  | n + 1, x, some (i, e) => if i < e then (p_no K l x (some (i, e))).bind (fun a => (p_nos K l n (x + 1) (some a.2)).map (fun r => (a.1 :: r.1, r.2))) else some ([], i, e)
/-- as many nodes as a tree can have -/
abbrev w_nn (n : Nat) : Prop := n = 1 ∨ n = 3 ∨ n = 7 ∨ n = 15 ∨ n = 31
def p_tr (K : Wt → Prop) (l : List Wt) (st : p_S) : Option (List p_V × Nat × Nat) := (p_row (p_nos K l 31 0) l st).bind (fun r => if w_nn r.1.2.length then some (r.1.2, r.2) else none)
/-- a HASH and a SEALED -/
def p_hs (K : Wt → Prop) (l : List Wt) (st : p_S) : Option ((Wt × Wt) × Nat × Nat) := (p_t K 1 l st).bind (fun h => (p_t K 6 l (some h.2)).map (fun s => ((h.1, s.1), s.2)))
section
variable {K : Wt → Prop} {l : List Wt} {st : p_S} {z : Int} {i e x n : Nat} {s : Nat × Nat} {v : p_V}
theorem p_us_0 (n : Nat) (la u : Int) : p_us l n la u none = none := by cases n <;> rfl
theorem p_us_e {la u : Int} (h : e ≤ i) : p_us l n la u (some (i, e)) = some (u, i, e) := by
  cases n with
  | zero => exact if_neg (by omega)
  | succ n => exact if_neg (by omega)
theorem p_us_s {la u : Int} (h : i < e) : p_us l (n + 1) la u (some (i, e)) = (p_16 l (some (i, e))).bind (fun a => if a.1 ≤ la ∨ 16 ≤ a.1 then none else p_us l n a.1 (u + ((2 ^ a.1.toNat : Nat) : Int)) (some a.2)) := if_pos h
theorem p_us_in : ∀ {n : Nat} {la u w : Int} {i e : Nat} {s : Nat × Nat}, i ≤ e → p_us l n la u (some (i, e)) = some (w, s) → s = (e, e)
  | 0, la, u, w, i, e, s, hi, h => by
    by_cases c : i < e
    · rw [show p_us l 0 la u (some (i, e)) = none from if_pos c] at h
      exact absurd h (by simp)
    · rw [p_us_e (by omega)] at h
      have h := (Prod.mk.inj (Option.some.inj h)).2
      have : i = e := by omega
      rw [← h, this]
  | n + 1, la, u, w, i, e, s, hi, h => by
    by_cases c : i < e
    · rw [p_us_s c, Option.bind_eq_some_iff] at h
      obtain ⟨⟨a, i', e'⟩, h1, h⟩ := h
      obtain ⟨b1, b2, b3⟩ := p_16_le h1
      subst b1; subst b2
      have h : (if a ≤ la ∨ 16 ≤ a then none else p_us l n a (u + ((2 ^ a.toNat : Nat) : Int)) (some (i + 2, e'))) = some (w, s) := h
      by_cases c2 : a ≤ la ∨ 16 ≤ a
      · rw [if_pos c2] at h
        exact absurd h (by simp)
      · rw [if_neg c2] at h
        exact p_us_in (by omega) h
    · rw [p_us_e (by omega)] at h
      have h := (Prod.mk.inj (Option.some.inj h)).2
      have : i = e := by omega
      rw [← h, this]
theorem p_ua_in : p_in (p_ua l) := ⟨rfl, fun i e a s hi h => by
  have := p_us_in hi h
  rw [this]
  exact ⟨hi, Nat.le_refl _, rfl⟩⟩
/-- the bits stay below -/
theorem p_us_b : ∀ {n : Nat} {la u w : Int} {i e : Nat} {s : Nat × Nat}, -1 ≤ la → la < 16 → 0 ≤ u → u < ((2 ^ (la + 1).toNat : Nat) : Int) → p_us l n la u (some (i, e)) = some (w, s) → 0 ≤ w ∧ w < 65536
  | 0, la, u, w, i, e, s, h1, h2, h3, h4, h => by
    have p16 : (2 : Nat) ^ (la + 1).toNat ≤ 2 ^ 16 := Nat.pow_le_pow_right (by decide) (by omega)
    by_cases c : i < e
    · rw [show p_us l 0 la u (some (i, e)) = none from if_pos c] at h
      exact absurd h (by simp)
    · rw [p_us_e (by omega)] at h
      have h := (Prod.mk.inj (Option.some.inj h)).1
      omega
  | n + 1, la, u, w, i, e, s, h1, h2, h3, h4, h => by
    have p16 : (2 : Nat) ^ (la + 1).toNat ≤ 2 ^ 16 := Nat.pow_le_pow_right (by decide) (by omega)
    by_cases c : i < e
    · rw [p_us_s c, Option.bind_eq_some_iff] at h
      obtain ⟨⟨a, i', e'⟩, h5, h⟩ := h
      have h : (if a ≤ la ∨ 16 ≤ a then none else p_us l n a (u + ((2 ^ a.toNat : Nat) : Int)) (some (i', e'))) = some (w, s) := h
      by_cases c2 : a ≤ la ∨ 16 ≤ a
      · rw [if_pos c2] at h
        exact absurd h (by simp)
      · rw [if_neg c2] at h
        have p1 : (2 : Nat) ^ (la + 1).toNat ≤ 2 ^ a.toNat := Nat.pow_le_pow_right (by decide) (by omega)
        have p2 : (2 : Nat) ^ (a + 1).toNat = 2 * 2 ^ a.toNat := by
          have : (a + 1).toNat = a.toNat + 1 := by omega
          rw [this, Nat.pow_succ]; omega
        exact p_us_b (by omega) (by omega) (by omega) (by omega) h
    · rw [p_us_e (by omega)] at h
      have h := (Prod.mk.inj (Option.some.inj h)).1
      omega
theorem p_nos_0 (n x : Nat) : p_nos K l n x none = none := by cases n <;> rfl
theorem p_nos_e (h : e ≤ i) : p_nos K l n x (some (i, e)) = some ([], i, e) := by
  cases n with
  | zero => exact if_neg (by omega)
  | succ n => exact if_neg (by omega)
theorem p_nos_s (h : i < e) : p_nos K l (n + 1) x (some (i, e)) = (p_no K l x (some (i, e))).bind (fun a => (p_nos K l n (x + 1) (some a.2)).map (fun r => (a.1 :: r.1, r.2))) := if_pos h
/-- step by step: a node -/
theorem p_no_st (hz : ∀ b s, p_8 l st = some (b, s) → z = b) : (z = 0 → p_no K l x st = (p_8 l st).map (fun a => (p_V0, a.2))) ∧ (z = 1 → x % 2 = 0 → p_no K l x st = (p_lf K 0 l (p_to (p_8 l st))).map (fun f => (((1 : Int), f.1, f.1.2.1, f.1.2.2.2.2.1, (0 : Int)), f.2))) ∧ (z = 2 → x % 2 = 1 → p_no K l x st = (p_t K 5 l (p_to (p_8 l st))).bind (fun k => (p_h K l (some k.2)).bind (fun h => (p_row (p_ua l) l (some h.2)).map (fun u => (((2 : Int), p_L0, k.1, h.1, u.1.2), u.2))))) ∧ (z ≠ 0 → ¬ (z = 1 ∧ x % 2 = 0) → ¬ (z = 2 ∧ x % 2 = 1) → p_no K l x st = none) := by
  unfold p_no
  obtain ⟨o, eo⟩ : ∃ o, p_8 l st = o := ⟨_, rfl⟩
  rw [eo] at hz ⊢
  cases o with
  | none => exact ⟨fun _ => rfl, fun _ _ => rfl, fun _ _ => rfl, fun _ _ _ => rfl⟩
  | some a =>
    obtain ⟨b, s⟩ := a
    have ez := hz b s rfl
    subst ez
    rw [p_to_s]
    refine ⟨fun c => ?_, fun c c2 => ?_, fun c c2 => ?_, fun c1 c2 c3 => ?_⟩
    · show (if z = 0 then some (p_V0, s) else _) = _
      rw [if_pos c]; rfl
    · show (if z = 0 then _ else if z = 1 ∧ x % 2 = 0 then _ else _) = _
      rw [if_neg (by omega), if_pos ⟨c, c2⟩]
    · show (if z = 0 then _ else if z = 1 ∧ x % 2 = 0 then _ else if z = 2 ∧ x % 2 = 1 then _ else none) = _
      rw [if_neg (by omega), if_neg (by omega), if_pos ⟨c, c2⟩]
    · show (if z = 0 then _ else if z = 1 ∧ x % 2 = 0 then _ else if z = 2 ∧ x % 2 = 1 then _ else none) = none
      rw [if_neg c1, if_neg c2, if_neg c3]
/-- what a node that was read is -/
def w_vok (K : Wt → Prop) (x : Nat) (v : p_V) : Prop := v = p_V0 ∨ (x % 2 = 0 ∧ ∃ m k p so ph g, v = (1, (m, k, p, so, ph, g), k, ph, 0) ∧ 0 ≤ m ∧ m < 65536 ∧ 1 ≤ so ∧ so ≤ 3 ∧ (so ≠ 3 → ph = []) ∧ (k.head? = some 5 ∧ K k) ∧ (p.head? = some 5 ∧ K p) ∧ (g.head? = some 7 ∧ K g) ∧ (ph = [] ∨ (ph.head? = some 1 ∧ K ph))) ∨ (x % 2 = 1 ∧ ∃ k ph um, v = (2, p_L0, k, ph, um) ∧ 0 ≤ um ∧ um < 65536 ∧ (k.head? = some 5 ∧ K k) ∧ (ph = [] ∨ (ph.head? = some 1 ∧ K ph)))
theorem p_no_ix (hvl : w_vl l) (he : e ≤ l.length) (h : p_no K l x (some (i, e)) = some (v, s)) : i < s.1 ∧ s.1 ≤ e ∧ s.2 = e ∧ w_vok K x v := by
  obtain ⟨o, eo⟩ : ∃ o, p_8 l (some (i, e)) = o := ⟨_, rfl⟩
  cases o with
  | none =>
    unfold p_no at h
    rw [eo] at h
    exact absurd h (by simp)
  | some a =>
    obtain ⟨z, i1, e1⟩ := a
    obtain ⟨a1, a2, a3⟩ := p_8_le eo
    subst a1; subst a2
    obtain ⟨p0, p1, p2, p3⟩ := p_no_st (K := K) (x := x) (z := z) (st := some (i, e1)) (fun b s hb => by rw [eo] at hb; exact (Prod.mk.inj (Option.some.inj hb)).1)
    rw [eo] at p0 p1 p2
    rw [p_to_s] at p1 p2
    by_cases c0 : z = 0
    · rw [p0 c0] at h
      have h := Option.some.inj h
      have h : (p_V0, i + 1, e1) = (v, s) := h
      simp only [Prod.mk.injEq] at h
      rw [← h.1, ← h.2]
      exact ⟨by show i < i + 1; omega, by show i + 1 ≤ e1; omega, rfl, Or.inl rfl⟩
    by_cases c1 : z = 1 ∧ x % 2 = 0
    · rw [p1 c1.1 c1.2, Option.map_eq_some_iff] at h
      obtain ⟨⟨⟨m, k, p, so, ph, g⟩, s'⟩, hl, h⟩ := h
      simp only [Prod.mk.injEq] at h
      obtain ⟨hv, hs⟩ := h
      subst hs
      obtain ⟨q1, q2, q3⟩ := p_lf_in.2 _ _ _ _ hl
      obtain ⟨x1, x2, x3, x4, x5, x6, y1, y2, y3, y4, y5, y6⟩ := p_lf_ix hl
      obtain ⟨_, _, m0, m1⟩ := p_lf_sl hvl he hl
      obtain ⟨_, _, _, k5, kK⟩ := p_t_in y2
      obtain ⟨_, _, _, p5, pK⟩ := p_t_in y3
      obtain ⟨_, _, _, g7, gK⟩ := p_t_in y6
      refine ⟨by omega, q2, q3, Or.inr (Or.inl ⟨c1.2, m, k, p, so, ph, g, by rw [← hv], m0, m1, x3, x4, x5, ⟨k5, kK⟩, ⟨p5, pK⟩, ⟨g7, gK⟩, ?_⟩)⟩
      by_cases c3 : so = 3
      · obtain ⟨_, _, hh | hh⟩ := p_h_in (y5 c3)
        · exact Or.inl hh.1
        · exact Or.inr hh.2
      · exact Or.inl (x5 c3)
    by_cases c2 : z = 2 ∧ x % 2 = 1
    · rw [p2 c2.1 c2.2, Option.bind_eq_some_iff] at h
      obtain ⟨⟨k, sk⟩, h1, h⟩ := h
      obtain ⟨b1, b2, _, k5, kK⟩ := p_t_in h1
      subst b1
      rw [Option.bind_eq_some_iff] at h
      obtain ⟨⟨ph, sh⟩, h2, h⟩ := h
      obtain ⟨b3, b4, hh⟩ := p_h_in h2
      subst b3
      rw [Option.map_eq_some_iff] at h
      obtain ⟨⟨⟨b, u⟩, su⟩, h3, h⟩ := h
      simp only [Prod.mk.injEq] at h
      obtain ⟨hv, hs⟩ := h
      subst hs
      obtain ⟨q1, q2, q3⟩ := (p_row_fw2 (l := l) (p_ua_in (l := l))).2 _ _ _ _ h3
      unfold p_row at h3
      rw [Option.bind_eq_some_iff] at h3
      obtain ⟨⟨en, i1, e1'⟩, hr, h3⟩ := h3
      rw [Option.bind_eq_some_iff] at h3
      obtain ⟨⟨tt, i2, e2⟩, h4, h3⟩ := h3
      have h3 : (if i2 = en then some ((i1, tt), i2, e1') else none) = some ((b, u), su) := h3
      have eu : tt = u := by
        by_cases c : i2 = en
        · rw [if_pos c] at h3
          have h3 := Option.some.inj h3
          simp only [Prod.mk.injEq] at h3
          exact h3.1.2
        · rw [if_neg c] at h3
          exact absurd h3 (by simp)
      subst eu
      have h4 : p_us l (en - i1) (-1) 0 (some (i1, en)) = some (tt, i2, e2) := h4
      obtain ⟨u0, u1⟩ := p_us_b (by decide) (by decide) (by decide) (by decide) h4
      refine ⟨by omega, q2, q3, Or.inr (Or.inr ⟨c2.2, k, ph, tt, hv.symm, u0, u1, ⟨k5, kK⟩, ?_⟩)⟩
      rcases hh with hh | hh
      · exact Or.inl hh.1
      · exact Or.inr hh.2
    · rw [p3 c0 c1 c2] at h
      exact absurd h (by simp)
theorem p_nos_in (hvl : w_vl l) : ∀ {n x i e : Nat} {r : List p_V} {s : Nat × Nat}, i ≤ e → e ≤ l.length → p_nos K l n x (some (i, e)) = some (r, s) → s = (e, e) ∧ r.length ≤ n ∧ ∀ (j : Nat) v, r[j]? = some v → w_vok K (x + j) v
  | 0, x, i, e, r, s, hi, he, h => by
    by_cases c : i < e
    · rw [show p_nos K l 0 x (some (i, e)) = none from if_pos c] at h
      exact absurd h (by simp)
    · rw [p_nos_e (by omega)] at h
      have h := Prod.mk.inj (Option.some.inj h)
      have : i = e := by omega
      rw [← h.1, ← h.2, this]
      exact ⟨rfl, Nat.le_refl _, fun j v hj => by simp at hj⟩
  | n + 1, x, i, e, r, s, hi, he, h => by
    by_cases c : i < e
    · rw [p_nos_s c, Option.bind_eq_some_iff] at h
      obtain ⟨⟨a, i', e'⟩, h1, h⟩ := h
      obtain ⟨b1, b2, b3, b4⟩ := p_no_ix hvl he h1
      have b1 : i < i' := b1
      have b3 : e' = e := b3
      subst b3
      rw [Option.map_eq_some_iff] at h
      obtain ⟨⟨r', s'⟩, h2, h⟩ := h
      have h := Prod.mk.inj h
      have hr : a :: r' = r := h.1
      have hs : s' = s := h.2
      obtain ⟨c1, c2, c3⟩ := p_nos_in hvl b2 he h2
      rw [← hr, ← hs]
      refine ⟨c1, by rw [List.length_cons]; omega, fun j v hj => ?_⟩
      cases j with
      | zero =>
        have hj : a = v := by simpa using hj
        rw [← hj]; exact b4
      | succ j =>
        have hj : r'[j]? = some v := by simpa using hj
        have := c3 j v hj
        rw [show x + (j + 1) = x + 1 + j by omega]
        exact this
    · rw [p_nos_e (by omega)] at h
      have h := Prod.mk.inj (Option.some.inj h)
      have : i = e := by omega
      rw [← h.1, ← h.2, this]
      exact ⟨rfl, Nat.zero_le _, fun j v hj => by simp at hj⟩
theorem p_hs_fw : p_fw (p_hs K l) := ⟨rfl, fun i e a s h => by
  unfold p_hs at h
  rw [Option.bind_eq_some_iff] at h
  obtain ⟨⟨k, sk⟩, h1, h⟩ := h
  obtain ⟨b1, b2, _⟩ := p_t_in h1
  subst b1
  rw [Option.map_eq_some_iff] at h
  obtain ⟨⟨x, s'⟩, h2, h⟩ := h
  have h : s' = s := (Prod.mk.inj h).2
  obtain ⟨c1, c2, _⟩ := p_t_in h2
  rw [← h, c1]
  exact ⟨by show i < i + 1 + 1; omega, by show i + 1 + 1 ≤ e; omega, rfl⟩⟩
theorem p_hs_to : p_to (p_hs K l st) = p_to (p_t K 6 l (p_to (p_t K 1 l st))) := by
  unfold p_hs
  cases p_t K 1 l st with
  | none => rfl
  | some k =>
    obtain ⟨k, s⟩ := k
    rw [p_to_s]
    show p_to ((p_t K 6 l (some s)).map (fun s => ((k, s.1), s.2))) = _
    cases p_t K 6 l (some s) with
    | none => rfl
    | some r => rfl
end
/-- the tree of nodes that were read -/
def p_nv (ns : List p_V) (x : Nat) : p_V := (ns[x]?).getD p_V0
def w_dpt (n : Nat) : Nat := if n = 1 then 0 else if n = 3 then 1 else if n = 7 then 2 else if n = 15 then 3 else 4
def t_of (ns : List p_V) : w_T := (w_dpt ns.length, fun x => (p_nv ns x).2.2.1, fun x => (p_nv ns x).2.2.2.1, fun x => (p_nv ns x).2.2.2.2, fun k => (p_nv ns (2 * k)).2.1.1, fun k => (p_nv ns (2 * k)).2.1.2.2.1, fun k => (p_nv ns (2 * k)).2.1.2.2.2.1, fun k => (p_nv ns (2 * k)).2.1.2.2.2.2.2)
theorem t_of_w {ns : List p_V} (h : w_nn ns.length) : t_w (t_of ns) = ns.length ∧ t_dp (t_of ns) ≤ 4 := by
  unfold t_w
  have : t_dp (t_of ns) = w_dpt ns.length := rfl
  rw [this]
  unfold w_dpt
  rcases h with h | h | h | h | h <;> rw [h] <;> decide
theorem t_of_ok {K : Wt → Prop} {ns : List p_V} (h : w_nn ns.length) (hv : ∀ (j : Nat) v, ns[j]? = some v → w_vok K j v) : t_ok (t_of ns) := by
  obtain ⟨hw, hd⟩ := t_of_w h
  have nv : ∀ x, x < t_w (t_of ns) → w_vok K x (p_nv ns x) := fun x hx => by
    rw [hw] at hx
    have := List.getElem?_eq_getElem hx
    unfold p_nv
    rw [this]
    exact hv x _ this
  refine ⟨hd, fun x hx => ?_, fun k hk hne => ?_⟩
  · have h0 := nv x hx
    show 0 ≤ (p_nv ns x).2.2.2.2 ∧ (p_nv ns x).2.2.2.2 < 65536 ∧ (x % 2 = 0 → (p_nv ns x).2.2.2.2 = 0) ∧ ((p_nv ns x).2.2.1 = [] → (p_nv ns x).2.2.2.1 = [] ∧ (p_nv ns x).2.2.2.2 = 0)
    rcases h0 with e | ⟨e0, m, k, p, so, ph, g, e, _, _, _, _, _, hk, _⟩ | ⟨e0, k, ph, um, e, u0, u1, hk, _⟩
    · rw [e]; exact ⟨by decide, by decide, fun _ => rfl, fun _ => ⟨rfl, rfl⟩⟩
    · rw [e]
      refine ⟨Int.le_refl _, by show (0 : Int) < 65536; decide, fun _ => rfl, fun c => ?_⟩
      have c : k = [] := c
      rw [c] at hk
      exact absurd hk.1 (by simp)
    · rw [e]
      refine ⟨u0, u1, fun c => by omega, fun c => ?_⟩
      have c : k = [] := c
      rw [c] at hk
      exact absurd hk.1 (by simp)
  · have h0 := nv (2 * k) hk
    have hne : (p_nv ns (2 * k)).2.2.1 ≠ [] := hne
    show 0 ≤ (p_nv ns (2 * k)).2.1.1 ∧ (p_nv ns (2 * k)).2.1.1 < 65536 ∧ 1 ≤ (p_nv ns (2 * k)).2.1.2.2.2.1 ∧ (p_nv ns (2 * k)).2.1.2.2.2.1 ≤ 3 ∧ ((p_nv ns (2 * k)).2.1.2.2.2.1 ≠ 3 → (p_nv ns (2 * k)).2.2.2.1 = [])
    rcases h0 with e | ⟨e0, m, k', p, so, ph, g, e, m0, m1, s0, s1, hp, _⟩ | ⟨e0, _⟩
    · rw [e] at hne; exact absurd rfl hne
    · rw [e]; exact ⟨m0, m1, s0, s1, hp⟩
    · omega
end
