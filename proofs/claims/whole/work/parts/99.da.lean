/-! ===== a COMMIT read: what is read ===== -/
noncomputable section
section
variable {A : Type} {f : p_S → Option (A × Nat × Nat)} {l : List Wt} {K : Wt → Prop}
/-- one behind the other, to the end -/
def p_many (f : p_S → Option (A × Nat × Nat)) : Nat → p_S → Option (List A × Nat × Nat)
  | _, none => none
  | 0, some (i, e) => if i < e then none else some ([], i, e)
  | n + 1, some (i, e) => if i < e then (f (some (i, e))).bind (fun a => (p_many f n (some a.2)).map (fun r => (a.1 :: r.1, r.2))) else some ([], i, e)
def p_all (f : p_S → Option (A × Nat × Nat)) : p_S → Option (List A × Nat × Nat)
  | none => none
  | some (i, e) => p_many f (e - i) (some (i, e))
/-- what stands in a ROW, read to its end: where it begins, and it -/
def p_row (f : p_S → Option (A × Nat × Nat)) (l : List Wt) (s : p_S) : Option ((Nat × A) × Nat × Nat) := (p_r l s).bind (fun ro => (f (some (ro.2.1, ro.1))).bind (fun a => if a.2.1 = ro.1 then some ((ro.2.1, a.1), a.2.1, ro.2.2) else none))
/-- a reader that goes on, in what is there -/
def p_fw (f : p_S → Option (A × Nat × Nat)) : Prop := f none = none ∧ ∀ i e a s, f (some (i, e)) = some (a, s) → i < s.1 ∧ s.1 ≤ e ∧ s.2 = e
theorem p_many_0 (n : Nat) : p_many f n none = none := by cases n <;> rfl
theorem p_many_e {n i e : Nat} (h : e ≤ i) : p_many f n (some (i, e)) = some ([], i, e) := by
  cases n with
  | zero => exact if_neg (by omega)
  | succ n => exact if_neg (by omega)
theorem p_many_s {n i e : Nat} (h : i < e) : p_many f (n + 1) (some (i, e)) = (f (some (i, e))).bind (fun a => (p_many f n (some a.2)).map (fun r => (a.1 :: r.1, r.2))) := if_pos h
theorem p_many_to {n i e : Nat} (h : i < e) : p_to (p_many f (n + 1) (some (i, e))) = p_to (p_many f n (p_to (f (some (i, e))))) := by
  rw [p_many_s h]
  obtain ⟨o, eo⟩ : ∃ o, f (some (i, e)) = o := ⟨_, rfl⟩
  rw [eo]
  cases o with
  | none => rw [p_to_0, p_many_0]; rfl
  | some a =>
    obtain ⟨a, s⟩ := a
    rw [p_to_s]
    show p_to ((p_many f n (some s)).map (fun r => (a :: r.1, r.2))) = _
    cases p_many f n (some s) with
    | none => rfl
    | some r => rfl
/-- fuel that is enough is enough -/
theorem p_many_f (hf : p_fw f) : ∀ (n m i e : Nat), e - i ≤ n → e - i ≤ m → p_many f n (some (i, e)) = p_many f m (some (i, e))
  | 0, m, i, e, h1, h2 => by rw [p_many_e (by omega), p_many_e (by omega)]
  | n + 1, 0, i, e, h1, h2 => by rw [p_many_e (by omega), p_many_e (by omega)]
  | n + 1, m + 1, i, e, h1, h2 => by
    by_cases c : i < e
    · rw [p_many_s c, p_many_s c]
      obtain ⟨o, eo⟩ : ∃ o, f (some (i, e)) = o := ⟨_, rfl⟩
      rw [eo]
      cases o with
      | none => rfl
      | some a =>
        obtain ⟨a, i', e'⟩ := a
        obtain ⟨b1, b2, b3⟩ := hf.2 i e a _ eo
        have b1 : i < i' := b1
        have b3 : e' = e := b3
        show (p_many f n (some (i', e'))).map _ = (p_many f m (some (i', e'))).map _
        rw [p_many_f hf n m i' e' (by omega) (by omega)]
    · rw [p_many_e (by omega), p_many_e (by omega)]
theorem p_many_end (hf : p_fw f) : ∀ {n i e : Nat} {r : List A} {s : Nat × Nat}, i ≤ e → p_many f n (some (i, e)) = some (r, s) → s = (e, e)
  | 0, i, e, r, s, hi, h => by
    by_cases c : i < e
    · rw [show p_many f 0 (some (i, e)) = none from if_pos c] at h
      exact absurd h (by simp)
    · rw [p_many_e (by omega)] at h
      have h := (Prod.mk.inj (Option.some.inj h)).2
      have : i = e := by omega
      rw [← h, this]
  | n + 1, i, e, r, s, hi, h => by
    by_cases c : i < e
    · rw [p_many_s c, Option.bind_eq_some_iff] at h
      obtain ⟨⟨a, i', e'⟩, h1, h⟩ := h
      obtain ⟨b1, b2, b3⟩ := hf.2 i e a _ h1
      have b3 : e' = e := b3
      subst b3
      rw [Option.map_eq_some_iff] at h
      obtain ⟨⟨r', s'⟩, h2, h⟩ := h
      have h := (Prod.mk.inj h).2
      have h : s' = s := h
      rw [← h]
      exact p_many_end hf b2 h2
    · rw [p_many_e (by omega)] at h
      have h := (Prod.mk.inj (Option.some.inj h)).2
      have : i = e := by omega
      rw [← h, this]
theorem p_many_len (hf : p_fw f) : ∀ {n i e : Nat} {r : List A} {s : Nat × Nat}, i ≤ e → p_many f n (some (i, e)) = some (r, s) → i + r.length ≤ e
  | 0, i, e, r, s, hi, h => by
    by_cases c : i < e
    · rw [show p_many f 0 (some (i, e)) = none from if_pos c] at h
      exact absurd h (by simp)
    · rw [p_many_e (by omega)] at h
      have h := (Prod.mk.inj (Option.some.inj h)).1
      rw [← h]
      simpa using hi
  | n + 1, i, e, r, s, hi, h => by
    by_cases c : i < e
    · rw [p_many_s c, Option.bind_eq_some_iff] at h
      obtain ⟨⟨a, i', e'⟩, h1, h⟩ := h
      obtain ⟨b1, b2, b3⟩ := hf.2 i e a _ h1
      have b1 : i < i' := b1
      have b3 : e' = e := b3
      subst b3
      rw [Option.map_eq_some_iff] at h
      obtain ⟨⟨r', s'⟩, h2, h⟩ := h
      have h := (Prod.mk.inj h).1
      have h : a :: r' = r := h
      have := p_many_len hf b2 h2
      rw [← h, List.length_cons]
      omega
    · rw [p_many_e (by omega)] at h
      have h := (Prod.mk.inj (Option.some.inj h)).1
      rw [← h]
      simpa using hi
theorem p_r_ix {i e en i1 e1 : Nat} (h : p_r l (some (i, e)) = some (en, i1, e1)) : i1 = i + 2 ∧ e1 = e ∧ en ≤ e ∧ i1 ≤ en ∧ p_16 l (some (i, e)) = some (((en - (i + 2) : Nat) : Int), i + 2, e) := by
  have h0 := p_r_le h
  unfold p_r at h
  rw [Option.bind_eq_some_iff] at h
  obtain ⟨⟨z, i3, e3⟩, h16, hr⟩ := h
  obtain ⟨b1, b2, b3⟩ := p_16_le h16
  subst b1; subst b2
  have hr : (if ((i + 2 : Nat) : Int) + z ≤ ((e3 : Nat) : Int) then some ((i + 2) + z.toNat, i + 2, e3) else none) = some (en, i1, e1) := hr
  by_cases cr : ((i + 2 : Nat) : Int) + z ≤ ((e3 : Nat) : Int)
  · rw [if_pos cr] at hr
    have hr := Option.some.inj hr
    simp only [Prod.mk.injEq] at hr
    obtain ⟨r1, r2, r3⟩ := hr
    have z0 : 0 ≤ z := by
      unfold p_16 at h16
      rw [Option.bind_eq_some_iff] at h16
      obtain ⟨⟨u, su⟩, hu, h16⟩ := h16
      rw [Option.map_eq_some_iff] at h16
      obtain ⟨⟨v, sv⟩, hv, h16⟩ := h16
      have h16 := (Prod.mk.inj h16).1
      obtain ⟨_, _, _, q1⟩ := p_8_in hu
      obtain ⟨su1, su2⟩ := su
      obtain ⟨_, _, _, q2⟩ := p_8_in hv
      have h16 : 256 * u + v = z := h16
      unfold w_bv at q1 q2
      omega
    refine ⟨r2.symm, h0.1, h0.2.1, h0.2.2, ?_⟩
    have ez : z = ((en - (i + 2) : Nat) : Int) := by omega
    rw [h16, ez]
  · rw [if_neg cr] at hr
    exact absurd hr (by simp)
theorem p_row_fw (hf : p_fw f) : p_fw (p_row f l) := by
  refine ⟨?_, fun i e a s h => ?_⟩
  · unfold p_row p_r p_16 p_8
    rfl
  · unfold p_row at h
    rw [Option.bind_eq_some_iff] at h
    obtain ⟨⟨en, i1, e1⟩, hr, h⟩ := h
    obtain ⟨r1, r2, r3, r4, r5⟩ := p_r_ix hr
    rw [Option.bind_eq_some_iff] at h
    obtain ⟨⟨x, i2, e2⟩, h1, h⟩ := h
    have h1 : f (some (i1, en)) = some (x, i2, e2) := h1
    obtain ⟨b1, b2, b3⟩ := hf.2 _ _ _ _ h1
    have h : (if i2 = en then some ((i1, x), i2, e1) else none) = some (a, s) := h
    by_cases c : i2 = en
    · rw [if_pos c] at h
      have h := (Prod.mk.inj (Option.some.inj h)).2
      rw [← h]
      have b1 : i1 < i2 := b1
      exact ⟨by show i < i2; omega, by show i2 ≤ e; omega, r2⟩
    · rw [if_neg c] at h
      exact absurd h (by simp)
/-- a reader that stays in what is there -/
def p_in (f : p_S → Option (A × Nat × Nat)) : Prop := f none = none ∧ ∀ i e a s, i ≤ e → f (some (i, e)) = some (a, s) → i ≤ s.1 ∧ s.1 ≤ e ∧ s.2 = e
theorem p_fw_in (h : p_fw f) : p_in f := ⟨h.1, fun i e a s _ hs => by
  obtain ⟨b1, b2, b3⟩ := h.2 i e a s hs
  exact ⟨by omega, b2, b3⟩⟩
theorem p_all_in (hf : p_fw f) : p_in (p_all f) := ⟨rfl, fun i e a s hi h => by
  have := p_many_end hf hi h
  rw [this]
  exact ⟨hi, Nat.le_refl _, rfl⟩⟩
/-- the same for rows, the row's length counts -/
theorem p_row_fw2 (hf : p_in f) : p_fw (p_row f l) := by
  refine ⟨?_, fun i e a s h => ?_⟩
  · unfold p_row p_r p_16 p_8
    rfl
  · unfold p_row at h
    rw [Option.bind_eq_some_iff] at h
    obtain ⟨⟨en, i1, e1⟩, hr, h⟩ := h
    obtain ⟨r1, r2, r3, r4, r5⟩ := p_r_ix hr
    rw [Option.bind_eq_some_iff] at h
    obtain ⟨⟨x, i2, e2⟩, h1, h⟩ := h
    have h1 : f (some (i1, en)) = some (x, i2, e2) := h1
    obtain ⟨b1, b2, b3⟩ := hf.2 _ _ _ _ r4 h1
    have h : (if i2 = en then some ((i1, x), i2, e1) else none) = some (a, s) := h
    by_cases c : i2 = en
    · rw [if_pos c] at h
      have h := (Prod.mk.inj (Option.some.inj h)).2
      rw [← h]
      exact ⟨by show i < i2; omega, by show i2 ≤ e; omega, r2⟩
    · rw [if_neg c] at h
      exact absurd h (by simp)
/-- a ROW as the class sees it -/
theorem p_row_st (hf : p_in f) (S : p_S) : (∀ i e, S = some (i, e) → p_to (p_row f l S) = p_c e (p_to (f (p_o l S)))) ∧ (S = none → p_to (p_row f l S) = none) := by
  refine ⟨fun i e hS => ?_, fun hS => ?_⟩
  · subst hS
    unfold p_row p_o
    obtain ⟨o, eo⟩ : ∃ o, p_r l (some (i, e)) = o := ⟨_, rfl⟩
    rw [eo]
    cases o with
    | none =>
      show p_to none = p_c e (p_to (f none))
      rw [hf.1]
      rfl
    | some ro =>
      obtain ⟨en, i1, e1⟩ := ro
      obtain ⟨r1, r2, r3, r4, r5⟩ := p_r_ix eo
      subst r2
      show p_to ((f (some (i1, en))).bind (fun a => if a.2.1 = en then some ((i1, a.1), a.2.1, e1) else none)) = p_c e1 (p_to (f (some (i1, en))))
      obtain ⟨o2, eo2⟩ : ∃ o, f (some (i1, en)) = o := ⟨_, rfl⟩
      rw [eo2]
      cases o2 with
      | none => rfl
      | some a =>
        obtain ⟨x, i2, e2⟩ := a
        obtain ⟨b1, b2, b3⟩ := hf.2 _ _ _ _ r4 eo2
        have b3 : e2 = en := b3
        subst b3
        show p_to (if i2 = e2 then some ((i1, x), i2, e1) else none) = if i2 = e2 then some (i2, e1) else none
        by_cases c : i2 = e2
        · rw [if_pos c, if_pos c]; rfl
        · rw [if_neg c, if_neg c]; rfl
  · subst hS
    rfl
end
/-- an entry of a COMMIT: where it stands, its HASH, or its CONTENT -/
abbrev p_E : Type := Nat × Wt × p_C
def p_C0 : p_C := (0, ([], p_L0, []), 0)
def p_en (K : Wt → Prop) (l : List Wt) (st : p_S) : Option (p_E × Nat × Nat) := (p_8 l st).bind (fun a => if a.1 = 1 then (p_t K 1 l (some a.2)).map (fun h => ((a.2.1, h.1, p_C0), h.2)) else if a.1 = 2 then (p_ct K l (some a.2)).map (fun c => ((a.2.1, ([] : Wt), c.1), c.2)) else none)
/-- a node of a PATH: its key, where its SEALED begin, these -/
abbrev p_N : Type := Wt × Nat × List Wt
def p_nd (K : Wt → Prop) (l : List Wt) (st : p_S) : Option (p_N × Nat × Nat) := (p_t K 5 l st).bind (fun k => (p_row (p_all (p_t K 6 l)) l (some k.2)).map (fun s => ((k.1, s.1), s.2)))
abbrev p_P : Type := p_L × List p_N
def p_pa (K : Wt → Prop) (l : List Wt) (st : p_S) : Option (p_P × Nat × Nat) := (p_lf K 3 l st).bind (fun f => (p_row (p_all (p_nd K l)) l (some f.2)).map (fun s => ((f.1, s.1.2), s.2)))
def p_wp (K : Wt → Prop) (l : List Wt) (st : p_S) : Option (Option p_P × Nat × Nat) := (p_8 l st).bind (fun a => if a.1 = 1 then (p_pa K l (some a.2)).map (fun p => (some p.1, p.2)) else if a.1 = 0 then some (none, a.2) else none)
section
variable {K : Wt → Prop} {l : List Wt} {st : p_S} {z : Int} {i e : Nat} {s : Nat × Nat}
theorem p_t_fw (so : Nat) : p_fw (p_t K so l) := ⟨rfl, fun i e a s h => by
  obtain ⟨b1, b2, _⟩ := p_t_in h
  rw [b1]
  exact ⟨by show i < i + 1; omega, by show i + 1 ≤ e; omega, rfl⟩⟩
theorem p_en_st (hz : ∀ b s, p_8 l st = some (b, s) → z = b) : (z = 1 → p_to (p_en K l st) = p_to (p_t K 1 l (p_to (p_8 l st)))) ∧ (z = 2 → p_to (p_en K l st) = p_to (p_ct K l (p_to (p_8 l st)))) ∧ (z ≠ 1 → z ≠ 2 → p_en K l st = none) := by
  unfold p_en
  obtain ⟨o, eo⟩ : ∃ o, p_8 l st = o := ⟨_, rfl⟩
  rw [eo] at hz ⊢
  cases o with
  | none => exact ⟨fun _ => rfl, fun _ => rfl, fun _ _ => rfl⟩
  | some a =>
    obtain ⟨b, s⟩ := a
    have ez := hz b s rfl
    subst ez
    rw [p_to_s]
    refine ⟨fun c => ?_, fun c => ?_, fun c1 c2 => ?_⟩
    · show p_to (if z = 1 then (p_t K 1 l (some s)).map (fun h => ((s.1, h.1, p_C0), h.2)) else _) = _
      rw [if_pos c]
      cases p_t K 1 l (some s) with
      | none => rfl
      | some r => rfl
    · show p_to (if z = 1 then _ else if z = 2 then (p_ct K l (some s)).map (fun c => ((s.1, ([] : Wt), c.1), c.2)) else none) = _
      rw [if_neg (by omega), if_pos c]
      cases p_ct K l (some s) with
      | none => rfl
      | some r => rfl
    · show (if z = 1 then _ else if z = 2 then _ else none) = none
      rw [if_neg c1, if_neg c2]
theorem p_wp_st (hz : ∀ b s, p_8 l st = some (b, s) → z = b) : (z = 1 → p_wp K l st = (p_pa K l (p_to (p_8 l st))).map (fun p => (some p.1, p.2))) ∧ (z = 0 → p_wp K l st = (p_8 l st).map (fun a => (none, a.2))) ∧ (z ≠ 1 → z ≠ 0 → p_wp K l st = none) := by
  unfold p_wp
  obtain ⟨o, eo⟩ : ∃ o, p_8 l st = o := ⟨_, rfl⟩
  rw [eo] at hz ⊢
  cases o with
  | none => exact ⟨fun _ => rfl, fun _ => rfl, fun _ _ => rfl⟩
  | some a =>
    obtain ⟨b, s⟩ := a
    have ez := hz b s rfl
    subst ez
    rw [p_to_s]
    refine ⟨fun c => if_pos c, fun c => ?_, fun c1 c2 => ?_⟩
    · show (if z = 1 then _ else if z = 0 then some (none, s) else none) = _
      rw [if_neg (by omega), if_pos c]
      rfl
    · show (if z = 1 then _ else if z = 0 then _ else none) = none
      rw [if_neg c1, if_neg c2]
theorem p_ct_fw : p_fw (p_ct K l) := ⟨rfl, fun i e a s h => by
  obtain ⟨kd, ⟨ik, lf, g⟩, n⟩ := a
  obtain ⟨_, b2, h | h | h⟩ := p_ct_ix h
  · rw [h.2.1] at b2 ⊢; exact ⟨by show i < i + 12; omega, b2, rfl⟩
  · rw [h.2.1] at b2 ⊢; exact ⟨by show i < i + 7; omega, b2, rfl⟩
  · rw [h.2.1] at b2 ⊢; exact ⟨by show i < i + 3; omega, b2, rfl⟩⟩
/-- where an entry is -/
theorem p_en_ix {h : Wt} {pl : Nat} {c : p_C} (hx : p_en K l (some (i, e)) = some ((pl, h, c), s)) : pl = i + 1 ∧ i + 2 ≤ s.1 ∧ s.1 ≤ e ∧ s.2 = e ∧ ((p_8 l (some (i, e)) = some (1, i + 1, e) ∧ p_t K 1 l (some (i + 1, e)) = some (h, s) ∧ c = p_C0) ∨ (p_8 l (some (i, e)) = some (2, i + 1, e) ∧ h = [] ∧ p_ct K l (some (i + 1, e)) = some (c, s))) := by
  unfold p_en at hx
  rw [Option.bind_eq_some_iff] at hx
  obtain ⟨⟨b, i1, e1⟩, h1, hx⟩ := hx
  obtain ⟨a1, a2, a3⟩ := p_8_le h1
  subst a1; subst a2
  have hx : (if b = 1 then (p_t K 1 l (some (i + 1, e1))).map (fun h => ((i + 1, h.1, p_C0), h.2)) else if b = 2 then (p_ct K l (some (i + 1, e1))).map (fun c => ((i + 1, ([] : Wt), c.1), c.2)) else none) = some ((pl, h, c), s) := hx
  by_cases c1 : b = 1
  · rw [if_pos c1, Option.map_eq_some_iff] at hx
    obtain ⟨⟨h', s'⟩, h2, hx⟩ := hx
    simp only [Prod.mk.injEq] at hx
    obtain ⟨⟨x1, x2, x3⟩, x4⟩ := hx
    subst x1; subst x2; subst x3; subst x4; subst c1
    obtain ⟨y1, y2, _⟩ := p_t_in h2
    refine ⟨rfl, ?_, ?_, ?_, Or.inl ⟨h1, h2, rfl⟩⟩
    · rw [y1]; show i + 2 ≤ i + 1 + 1; omega
    · rw [y1]; show i + 1 + 1 ≤ e1; omega
    · rw [y1]
  · rw [if_neg c1] at hx
    by_cases c2 : b = 2
    · rw [if_pos c2, Option.map_eq_some_iff] at hx
      obtain ⟨⟨c', s'⟩, h2, hx⟩ := hx
      simp only [Prod.mk.injEq] at hx
      obtain ⟨⟨x1, x2, x3⟩, x4⟩ := hx
      subst x1; subst x2; subst x3; subst x4; subst c2
      obtain ⟨y1, y2, y3⟩ := p_ct_fw.2 _ _ _ _ h2
      exact ⟨rfl, by omega, y2, y3, Or.inr ⟨h1, rfl, h2⟩⟩
    · rw [if_neg c2] at hx
      exact absurd hx (by simp)
theorem p_en_fw : p_fw (p_en K l) := ⟨rfl, fun i e a s h => by
  obtain ⟨pl, w, c⟩ := a
  obtain ⟨_, b1, b2, b3, _⟩ := p_en_ix h
  exact ⟨by omega, b2, b3⟩⟩
theorem p_nd_fw : p_fw (p_nd K l) := ⟨rfl, fun i e a s h => by
  unfold p_nd at h
  rw [Option.bind_eq_some_iff] at h
  obtain ⟨⟨k, sk⟩, h1, h⟩ := h
  obtain ⟨b1, b2, _⟩ := p_t_in h1
  subst b1
  rw [Option.map_eq_some_iff] at h
  obtain ⟨⟨x, s'⟩, h2, h⟩ := h
  have h : s' = s := (Prod.mk.inj h).2
  obtain ⟨c1, c2, c3⟩ := (p_row_fw2 (p_all_in (p_t_fw (K := K) (l := l) 6))).2 _ _ _ _ h2
  rw [← h]
  exact ⟨by omega, c2, c3⟩⟩
theorem p_nd_to : p_to (p_nd K l st) = p_to (p_row (p_all (p_t K 6 l)) l (p_to (p_t K 5 l st))) := by
  unfold p_nd
  cases p_t K 5 l st with
  | none => rfl
  | some k =>
    obtain ⟨k, s⟩ := k
    rw [p_to_s]
    show p_to ((p_row (p_all (p_t K 6 l)) l (some s)).map (fun s => ((k, s.1), s.2))) = _
    cases p_row (p_all (p_t K 6 l)) l (some s) with
    | none => rfl
    | some r => rfl
theorem p_pa_to : p_to (p_pa K l st) = p_to (p_row (p_all (p_nd K l)) l (p_to (p_lf K 3 l st))) := by
  unfold p_pa
  cases p_lf K 3 l st with
  | none => rfl
  | some k =>
    obtain ⟨k, s⟩ := k
    rw [p_to_s]
    show p_to ((p_row (p_all (p_nd K l)) l (some s)).map (fun s => ((k, s.1.2), s.2))) = _
    cases p_row (p_all (p_nd K l)) l (some s) with
    | none => rfl
    | some r => rfl
end
end
