/-! ===== SW: what must hold at a place so that the run ends well, said over a heap of functions. Addresses: 0 null, 1 the script, k + 2 the cell k. A heap: cells, slots, types (0: nothing there; 1, 2, 3, 4: ints, booleans, bytes, longs; 6: the script; 8 c + 8: an object of class c; 8 c + 9: references to such), lengths, ints, references. ===== -/
abbrev sw_H : Type := Nat × Nat × (Nat → Nat) × (Nat → Nat) × (Nat → Nat → Int) × (Nat → Nat → Nat)
def sw_n (H : sw_H) : Nat := H.1
def sw_s (H : sw_H) : Nat := H.2.1
def sw_ty (H : sw_H) (a : Nat) : Nat := H.2.2.1 a
def sw_ln (H : sw_H) (a : Nat) : Nat := H.2.2.2.1 a
def sw_iv (H : sw_H) (a f : Nat) : Int := H.2.2.2.2.1 a f
def sw_rv (H : sw_H) (a f : Nat) : Nat := H.2.2.2.2.2 a f
def sw_si (H : sw_H) (a f : Nat) (z : Int) : sw_H := (H.1, H.2.1, H.2.2.1, H.2.2.2.1, fun b g => if b = a ∧ g = f then z else H.2.2.2.2.1 b g, H.2.2.2.2.2)
def sw_sr (H : sw_H) (a f q : Nat) : sw_H := (H.1, H.2.1, H.2.2.1, H.2.2.2.1, H.2.2.2.2.1, fun b g => if b = a ∧ g = f then q else H.2.2.2.2.2 b g)
def sw_nw (H : sw_H) (t n m : Nat) : sw_H := (H.1 + 1, H.2.1 + m, fun b => if b = H.1 + 2 then t else H.2.2.1 b, fun b => if b = H.1 + 2 then n else H.2.2.2.1 b, fun b g => if b = H.1 + 2 then 0 else H.2.2.2.2.1 b g, fun b g => if b = H.1 + 2 then 0 else H.2.2.2.2.2 b g)
def sw_cp (H : sw_H) (a sp b dp m : Nat) : sw_H := (H.1, H.2.1, H.2.2.1, H.2.2.2.1, fun c g => if c = b ∧ dp ≤ g ∧ g < dp + m then H.2.2.2.2.1 a (sp + (g - dp)) else H.2.2.2.2.1 c g, H.2.2.2.2.2)
/-- an int's word -/
def sw_w (z : Int) : Int := (z + 2147483648) % 4294967296 - 2147483648
def sw_c (z : Int) : Prop := -2147483648 ≤ z ∧ z ≤ 2147483647
def sw_i (z : Int) : Value := .int (Int32.ofInt z)
def sw_p (a : Nat) : Value := .ref (a - 1)
def sw_kd (v : Value) : Nat := match v with
  | .int _ => 0
  | .ref _ => 1
  | .null => 1
  | _ => 2
def sw_fv (v : Value) (z : Int) (q : Nat) : Prop := match v with
  | .int x => z = x.toInt
  | .ref r => q = r + 1
  | .null => q = 0
  | _ => False
def sw_rc (t n : Nat) (iv : Nat → Int) (rv : Nat → Nat) (c : sx_C) : Prop := match c with
  | .inl (ci, fs) => t = 8 * ci + 8 ∧ n = fs.length ∧ (ci < 13 → fs.length = (sxD ci).length) ∧ ∀ f v, fs[f]? = some v → sw_fv v (iv f) (rv f) ∧ sw_kd v = sw_kd (sx_lg .null (sxD ci) f)
  | .inr (.inl (u, m, l)) => t = u + 1 ∧ u < 3 ∧ n = m ∧ m < 134217729 ∧ ∀ f, f < m → iv f = (sx_ag 0 l f).toInt
  | .inr (.inr (.inl (m, l))) => t = 4 ∧ n = m ∧ m < 134217729 ∧ ∀ f, f < m → iv f = (sx_ag 0 l f).toInt
  | .inr (.inr (.inr (ci, m, l))) => t = 8 * ci + 9 ∧ n = m ∧ m < 134217729 ∧ ∀ f, f < m → rv f = (match sx_ag none l f with
    | some r => r + 1
    | none => 0)
def sw_rel (S : List Int32) (H : sw_H) (h : sx_H) : Prop := h.1 = sw_n H ∧ h.2.1 = sw_s H ∧ h.1 ≤ sxlim.1 ∧ h.2.1 ≤ sxlim.2 ∧ h.1 = h.2.2.length ∧ sw_ty H 0 = 0 ∧ sw_ty H 1 = 6 ∧ sw_ln H 1 = S.length ∧ S.length ≤ 3072 ∧ (∀ f, f < S.length → sw_iv H 1 f = (sx_lg 0 S f).toInt) ∧ (∀ a, sw_n H + 2 ≤ a → sw_ty H a = 0) ∧ ∀ k, k < h.1 → ∃ c, sx_get h k = some c ∧ sw_rc (sw_ty H (k + 2)) (sw_ln H (k + 2)) (sw_iv H (k + 2)) (sw_rv H (k + 2)) c
def sw_ext (H G : sw_H) : Prop := sw_n H ≤ sw_n G ∧ ∀ a, sw_ty H a ≠ 0 → sw_ty G a = sw_ty H a ∧ sw_ln G a = sw_ln H a
abbrev sw_Q : Type := Option Value ⊕ Nat → sw_H → Prop
def sw_ok (S : List Int32) (j i : Nat) (ls : sx_L) (st : List Value) (H : sw_H) (Q : sw_Q) : Prop := ∀ h, sw_rel S H h → ∃ n r h1 G, sx_exec sxlim sxP sxD S n j i ls st h = some (r, h1) ∧ sw_rel S G h1 ∧ sw_ext H G ∧ Q r G
/-- what is done with answers: of methods that answer nothing, an int, a reference; E: with what is thrown -/
def sw_q0 (Q : sw_H → Prop) (E : Nat → sw_H → Prop) : sw_Q := fun r G => match r with
  | .inl none => Q G
  | .inr x => E (x + 2) G
  | _ => False
def sw_q1 (Q : Int → sw_H → Prop) (E : Nat → sw_H → Prop) : sw_Q := fun r G => match r with
  | .inl (some (.int x)) => Q x.toInt G
  | .inr x => E (x + 2) G
  | _ => False
def sw_q2 (Q : Nat → sw_H → Prop) (E : Nat → sw_H → Prop) : sw_Q := fun r G => match r with
  | .inl (some (.ref x)) => Q (x + 1) G
  | .inr x => E (x + 2) G
  | _ => False
theorem sw_ext_refl (H : sw_H) : sw_ext H H := ⟨Nat.le_refl _, fun _ _ => ⟨rfl, rfl⟩⟩
theorem sw_ext_trans {H G K : sw_H} (a : sw_ext H G) (b : sw_ext G K) : sw_ext H K := ⟨Nat.le_trans a.1 b.1, fun x hx => by
  have h1 := a.2 x hx
  have h2 := b.2 x (by rw [h1.1]; exact hx)
  exact ⟨h2.1.trans h1.1, h2.2.trans h1.2⟩⟩
theorem sw_ext_ty {H G : sw_H} (e : sw_ext H G) {a d : Nat} (h : sw_ty H a = d + 1) : sw_ty G a = d + 1 := by
  rw [(e.2 a (by rw [h]; exact Nat.succ_ne_zero d)).1, h]
/-! words -/
theorem sw_ofInt_w (z : Int) : Int32.ofInt (sw_w z) = Int32.ofInt z := by
  rw [← Int32.toInt_inj, Int32.toInt_ofInt, Int32.toInt_ofInt]
  unfold sw_w
  simp only [Int.bmod_def, show ((Int32.size : Nat) : Int) = 4294967296 from rfl]
  omega
theorem sw_toInt (z : Int) : (Int32.ofInt z).toInt = sw_w z := by
  rw [Int32.toInt_ofInt]
  unfold sw_w
  simp only [Int.bmod_def, show ((Int32.size : Nat) : Int) = 4294967296 from rfl]
  omega
theorem sw_w_c (z : Int) : sw_c (sw_w z) := by unfold sw_c sw_w; omega
theorem sw_w_id {z : Int} (h : sw_c z) : sw_w z = z := by unfold sw_c at h; unfold sw_w; omega
theorem sw_c_id {z : Int} (h : sw_c z) : (Int32.ofInt z).toInt = z := by rw [sw_toInt, sw_w_id h]
theorem sw_c_to (x : Int32) : sw_c x.toInt := by
  have h1 := Int32.le_toInt x
  have h2 := Int32.toInt_lt x
  unfold sw_c
  omega
theorem sw_of_to (x : Int32) : Int32.ofInt x.toInt = x := by simp
theorem sw_c_nat {z : Int} (h : sw_c z) (h0 : 0 ≤ z) : (Int32.ofInt z).toBitVec.toNat = z.toNat := by
  have h1 := sw_c_id h
  have h2 : (Int32.ofInt z).toBitVec.toInt = z := h1
  rw [BitVec.toInt_eq_toNat_cond] at h2
  have h3 := (Int32.ofInt z).toBitVec.isLt
  unfold sw_c at h
  split at h2 <;> omega
theorem sw_ix {z : Int} {n : Nat} (hc : sw_c z) (h0 : 0 ≤ z) (h : z < n) : sx_ix (Int32.ofInt z) n = some z.toNat := by
  unfold sx_ix
  rw [sw_c_nat hc h0]
  unfold sw_c at hc
  have h1 : Nat.blt z.toNat n = true := by rw [Nat.blt_eq]; omega
  have h2 : Nat.blt z.toNat 2147483648 = true := by rw [Nat.blt_eq]; omega
  rw [h1, h2]
  rfl
theorem sw_cn (n : Nat) (h : Nat.ble n 2147483647 = true) : sw_c (n : Int) := by
  have := Nat.ble_eq.mp h
  unfold sw_c
  omega
theorem sw_tyv {H : sw_H} {v w d : Nat} (e : v = w) (h : sw_ty H w = d) : sw_ty H v = d := by rw [e]; exact h
theorem sw_ty_nw (H : sw_H) (t n m : Nat) : sw_ty (sw_nw H t n m) (sw_n H + 2) = t := if_pos rfl
