/-! ===== the heap at the law's loop ===== -/
noncomputable section
def g_32 (n : Nat) : Int := if n < 2147483648 then (n : Int) else (n : Int) - 4294967296
/-- a cell that was computed, as it is read -/
def g_ty (c : sy_C) : Nat := match c with
  | .inl o => 8 * o.1 + 8
  | .inr (.inl a) => a.1 + 1
  | .inr (.inr (.inl (.inr (.inr (.inl _))))) => 4
  | .inr (.inr (.inl (.inr (.inr (.inr a))))) => 8 * a.1 + 9
  | _ => 0
def g_ln (c : sy_C) : Nat := match c with
  | .inl o => o.2.flatten.length
  | .inr (.inl a) => a.2.1
  | .inr (.inr (.inl (.inr (.inr (.inl a))))) => a.1
  | .inr (.inr (.inl (.inr (.inr (.inr a))))) => a.2.1
  | _ => 0
def g_vi (v : Option Value) : Int := match v with
  | some (.int x) => x.toInt
  | _ => 0
def g_vr (v : Option Value) : Nat := match v with
  | some (.ref r) => r + 1
  | _ => 0
def g_on (v : Option Nat) : Nat := match v with
  | some r => r + 1
  | none => 0
def gz_iv (c : sy_C) (f : Nat) : Int := match c with
  | .inl o => g_vi (o.2.flatten[f]?)
  | .inr (.inl a) => g_32 (sy_pg a.2.2 f)
  | .inr (.inr (.inl (.inr (.inr (.inl a))))) => (sx_ag 0 a.2 f).toInt
  | _ => 0
def g_rv (c : sy_C) (f : Nat) : Nat := match c with
  | .inl o => g_vr (o.2.flatten[f]?)
  | .inr (.inr (.inl (.inr (.inr (.inr a))))) => g_on (sx_ag none a.2.2 f)
  | _ => 0
/-- rows of eight -/
def g_pk : List (List Value) → Bool
  | [] => true
  | r :: t => (match t with
    | [] => Nat.ble r.length 8
    | _ :: _ => Nat.beq r.length 8) && g_pk t
def g_kd (D : List Value) (f : Nat) (v : Option Value) : Bool := match v with
  | some v => Nat.blt (sw_kd v) 2 && Nat.beq (sw_kd v) (sw_kd (sx_lg .null D f))
  | none => false
def gz_ok (c : sy_C) : Bool := match c with
  | .inl o => g_pk o.2 && (Nat.beq o.2.flatten.length (sxD o.1).length && (List.range o.2.flatten.length).all (fun f => g_kd (sxD o.1) f (o.2.flatten[f]?)))
  | .inr (.inl a) => Nat.blt a.1 3 && Nat.blt a.2.1 134217729
  | .inr (.inr (.inl (.inr (.inr (.inl a))))) => Nat.blt a.1 134217729
  | .inr (.inr (.inl (.inr (.inr (.inr a))))) => Nat.blt a.2.1 134217729
  | _ => false
section
theorem g_lo {α : Type} (l : List α) (n : Nat) : sx_lo l n = l[n]? := sx_lo_eq l n
theorem g_fd : ∀ (R : List (List Value)), g_pk R = true → ∀ b, sy_fd R b = R.flatten[b]?
  | [], _, b => by
    have e : sy_fd [] b = sx_lo [] (Nat.mod b 8) := rfl
    rw [e, g_lo]
    simp
  | r :: t, h, b => by
    have hh : ((t = [] → r.length ≤ 8) ∧ (t ≠ [] → r.length = 8)) ∧ g_pk t = true := by
      cases t with
      | nil =>
        have h : (Nat.ble r.length 8 && g_pk []) = true := h
        rw [Bool.and_eq_true] at h
        exact ⟨⟨fun _ => Nat.ble_eq.mp h.1, fun c => absurd rfl c⟩, h.2⟩
      | cons a t' =>
        have h : (Nat.beq r.length 8 && g_pk (a :: t')) = true := h
        rw [Bool.and_eq_true] at h
        exact ⟨⟨fun c => (by cases c), fun _ => Nat.eq_of_beq_eq_true h.1⟩, h.2⟩
    obtain ⟨⟨h1, h3⟩, h2⟩ := hh
    have e0 : sy_fd (r :: t) b = sx_lo (sx_lg [] (r :: t) (b / 8)) (b % 8) := rfl
    rw [e0, List.flatten_cons]
    by_cases c : b < 8
    · rw [show b / 8 = 0 by omega, show b % 8 = b by omega]
      have e1 : sx_lg [] (r :: t) 0 = r := rfl
      rw [e1, g_lo]
      by_cases c1 : b < r.length
      · rw [List.getElem?_append_left c1]
      · cases t with
        | nil => simp
        | cons a t' =>
          have := h3 (by simp)
          omega
    · rw [show b / 8 = (b - 8) / 8 + 1 by omega, show b % 8 = (b - 8) % 8 by omega]
      have e1 : sx_lg [] (r :: t) ((b - 8) / 8 + 1) = sx_lg [] t ((b - 8) / 8) := rfl
      have e2 : sx_lo (sx_lg [] t ((b - 8) / 8)) ((b - 8) % 8) = sy_fd t (b - 8) := rfl
      rw [e1, e2, g_fd t h2]
      cases t with
      | nil =>
        have h1 := h1 rfl
        rw [List.flatten_nil, List.append_nil, List.getElem?_eq_none (by simp), List.getElem?_eq_none (by omega)]
      | cons a t' =>
        have h1 := h3 (by simp)
        rw [List.getElem?_append_right (by omega), h1]
theorem g_32_ok (x : Int32) : g_32 x.toBitVec.toNat = x.toInt := by
  have h := x.toBitVec.isLt
  have h1 : x.toInt = x.toBitVec.toInt := rfl
  rw [h1, BitVec.toInt_eq_toNat_cond]
  unfold g_32
  split <;> split <;> omega
theorem g_rc {c : sy_C} {q : Option sx_C} (h : gz_ok c = true) (e : sy_ce c q) : ∃ x, q = some x ∧ sw_rc (g_ty c) (g_ln c) (gz_iv c) (g_rv c) x := by
  match c, h, e with
  | .inl o, h, e =>
    obtain ⟨fs, e1, e2⟩ := e
    have h : (g_pk o.2 && (Nat.beq o.2.flatten.length (sxD o.1).length && (List.range o.2.flatten.length).all (fun f => g_kd (sxD o.1) f (o.2.flatten[f]?)))) = true := h
    rw [Bool.and_eq_true, Bool.and_eq_true] at h
    obtain ⟨h1, h2, h3⟩ := h
    have h2 := Nat.eq_of_beq_eq_true h2
    have ef : fs = o.2.flatten := List.ext_getElem? (fun b => by rw [← g_lo, e2, g_fd _ h1])
    subst ef
    refine ⟨_, e1, rfl, rfl, fun _ => h2, fun f v hf => ?_⟩
    have fl := (List.getElem?_eq_some_iff.mp hf).1
    have k := List.all_eq_true.mp h3 f (List.mem_range.mpr fl)
    rw [hf] at k
    have k : (Nat.blt (sw_kd v) 2 && Nat.beq (sw_kd v) (sw_kd (sx_lg .null (sxD o.1) f))) = true := k
    rw [Bool.and_eq_true] at k
    obtain ⟨k1, k2⟩ := k
    have k1 := Nat.blt_eq.mp k1
    refine ⟨?_, Nat.eq_of_beq_eq_true k2⟩
    show sw_fv v (g_vi (o.2.flatten[f]?)) (g_vr (o.2.flatten[f]?))
    rw [hf]
    cases v with
    | int x => rfl
    | ref r => rfl
    | null => rfl
    | _ => exact absurd k1 (by show ¬ ((2 : Nat) < 2); decide)
  | .inr (.inl a), h, e =>
    obtain ⟨l, e1, e2⟩ := e
    have h : (Nat.blt a.1 3 && Nat.blt a.2.1 134217729) = true := h
    rw [Bool.and_eq_true] at h
    refine ⟨_, e1, rfl, Nat.blt_eq.mp h.1, rfl, Nat.blt_eq.mp h.2, fun f _ => ?_⟩
    show g_32 (sy_pg a.2.2 f) = _
    rw [← e2 f, g_32_ok]
  | .inr (.inr (.inl (.inr (.inr (.inl a))))), h, e =>
    have h : Nat.blt a.1 134217729 = true := h
    exact ⟨_, e, rfl, rfl, Nat.blt_eq.mp h, fun f _ => rfl⟩
  | .inr (.inr (.inl (.inr (.inr (.inr a))))), h, e =>
    have h : Nat.blt a.2.1 134217729 = true := h
    refine ⟨_, e, rfl, rfl, Nat.blt_eq.mp h, fun f _ => ?_⟩
    show g_on (sx_ag none a.2.2 f) = _
    unfold g_on
    rfl
end
def g_c (a : Nat) : Option sy_C := if a < 2 then none else sy_get sxT0 (a - 2)
def g_oc {α : Type} (d : α) (f : sy_C → α) (c : Option sy_C) : α := match c with
  | some c => f c
  | none => d
def g_tya (a : Nat) : Nat := if a = 1 then 6 else g_oc 0 g_ty (g_c a)
def g_lna (a : Nat) : Nat := g_oc 0 g_ln (g_c a)
def g_iva (a f : Nat) : Int := g_oc 0 (fun c => gz_iv c f) (g_c a)
def g_rva (a f : Nat) : Nat := g_oc 0 (fun c => g_rv c f) (g_c a)
/-- the heap there: the script has n numbers, which are s -/
def g_H (n : Nat) (s : Nat → Int) : sw_H := (1490, 2290948, g_tya, fun a => if a = 1 then n else g_lna a, fun a f => if a = 1 then s f else g_iva a f, g_rva)
section
theorem g_all : (List.range 1490).all (fun k => g_oc false gz_ok (sy_get sxT0 k)) = true := by decide +kernel
theorem g_past : (List.range 558).all (fun k => (sy_get sxT0 (1490 + k)).isNone) = true := by decide +kernel
theorem g_T0 : sxT0.1 = 1490 ∧ sxT0.2.1 = 2290948 := by decide +kernel
theorem g_none {k : Nat} (h : 1490 ≤ k) : sy_get sxT0 k = none := by
  by_cases c : k < 2048
  · have := List.all_eq_true.mp g_past (k - 1490) (List.mem_range.mpr (by omega))
    rw [show 1490 + (k - 1490) = k by omega, Option.isNone_iff_eq_none] at this
    exact this
  · unfold sy_get
    rw [Nat.ble_eq.mpr (by omega)]
    rfl
theorem g_F {a : Nat} (h : 1492 ≤ a) : g_tya a = 0 := by
  unfold g_tya g_c
  rw [if_neg (by omega), if_neg (by omega), g_none (by omega)]
  rfl
theorem g_rel {S : List Int32} {h : sx_H} (hS : S.length ≤ 3072) (hh : sy_h sxT0 h) : sw_rel S (g_H S.length (fun f => (sx_lg 0 S f).toInt)) h := by
  obtain ⟨h1, h2, h3, h4⟩ := hh
  obtain ⟨t1, t2⟩ := g_T0
  refine ⟨by rw [← h2, t1]; rfl, by rw [← h3, t2]; rfl, by rw [← h2, t1]; decide +kernel, by rw [← h3, t2]; decide +kernel, h1, by show g_tya 0 = 0; decide +kernel, rfl, rfl, hS, fun f _ => rfl, fun a ha => g_F ha, fun k hk => ?_⟩
  rw [← h2, t1] at hk
  have a := List.all_eq_true.mp g_all k (List.mem_range.mpr hk)
  obtain ⟨c, ec⟩ : ∃ c, sy_get sxT0 k = some c := by
    cases e : sy_get sxT0 k with
    | none => rw [e] at a; cases a
    | some c => exact ⟨c, rfl⟩
  rw [ec] at a
  have a : gz_ok c = true := a
  obtain ⟨x, x1, x2⟩ := g_rc a (h4 k c ec)
  refine ⟨x, x1, ?_⟩
  have gc : g_c (k + 2) = some c := by
    unfold g_c
    rw [if_neg (by omega), Nat.add_sub_cancel, ec]
  have e1 : sw_ty (g_H S.length (fun f => (sx_lg 0 S f).toInt)) (k + 2) = g_ty c := by
    show g_tya (k + 2) = _
    unfold g_tya
    rw [if_neg (by omega), gc]
    rfl
  have e2 : sw_ln (g_H S.length (fun f => (sx_lg 0 S f).toInt)) (k + 2) = g_ln c := by
    show (if k + 2 = 1 then S.length else g_lna (k + 2)) = _
    unfold g_lna
    rw [if_neg (by omega), gc]
    rfl
  have e3 : sw_iv (g_H S.length (fun f => (sx_lg 0 S f).toInt)) (k + 2) = gz_iv c := funext (fun f => by
    show (if k + 2 = 1 then (sx_lg 0 S f).toInt else g_iva (k + 2) f) = _
    unfold g_iva
    rw [if_neg (by omega), gc]
    rfl)
  have e4 : sw_rv (g_H S.length (fun f => (sx_lg 0 S f).toInt)) (k + 2) = g_rv c := funext (fun f => by
    show g_rva (k + 2) f = _
    unfold g_rva
    rw [gc]
    rfl)
  rw [e1, e2, e3, e4]
  exact x2
end
end
