/-! ===== messages read: what is read; the reference's u8, u16, u32, readTerm, readPerhaps, readRow ===== -/
noncomputable section
/-- where a reader stands: place and end, or nothing any more -/
abbrev p_S : Type := Option (Nat × Nat)
/-- the value of a byte's sign -/
def w_bv (w : Wt) : Int := ((w.getD 1 0 : Nat) : Int)
/-- a byte -/
def p_8 (l : List Wt) : p_S → Option (Int × Nat × Nat)
  | none => none
  | some (i, e) => if i < e ∧ ((l[i]?).getD []).head? = some 1000 then some (w_bv ((l[i]?).getD []), i + 1, e) else none
/-- where one stands behind it -/
def p_to {A : Type} (r : Option (A × Nat × Nat)) : p_S := r.map (fun x => x.2)
def p_16 (l : List Wt) (s : p_S) : Option (Int × Nat × Nat) := (p_8 l s).bind (fun a => (p_8 l (some a.2)).map (fun b => (256 * a.1 + b.1, b.2)))
def p_32 (l : List Wt) (s : p_S) : Option (Int × Nat × Nat) := (p_16 l s).bind (fun a => (p_16 l (some a.2)).map (fun b => (sw_w (65536 * a.1 + b.1), b.2)))
/-- a term of a sort that is known -/
def p_t (K : Wt → Prop) (so : Nat) (l : List Wt) : p_S → Option (Wt × Nat × Nat)
  | none => none
  | some (i, e) => @ite _ (i < e ∧ ((l[i]?).getD []).head? = some so ∧ K ((l[i]?).getD [])) (Classical.propDecidable _) (some ((l[i]?).getD [], i + 1, e)) none
/-- a HASH or the byte 0 -/
def p_h (K : Wt → Prop) (l : List Wt) : p_S → Option (Wt × Nat × Nat)
  | none => none
  | some (i, e) => if i < e ∧ (l[i]?).getD [] = w_by 0 then some ([], i + 1, e) else p_t K 1 l (some (i, e))
theorem sw_or_16 {a b : Int} (ha : 0 ≤ a) (ha2 : a < 256) (hb : 0 ≤ b) (hb2 : b < 256) : sw_or (sw_shl a 8) b = 256 * a + b := by
  have e : sw_shl a 8 = a * ((2 ^ 8 : Nat) : Int) := by
    rw [sw_shl_k (k := 8) (by decide) (by decide)]
    exact sw_w_s (by omega) (by omega)
  rw [e, sw_or_d (k := 8) ha (by omega) hb (by omega)]
  omega
theorem sw_or_32 {a b : Int} (ha : 0 ≤ a) (ha2 : a < 65536) (hb : 0 ≤ b) (hb2 : b < 65536) : sw_or (sw_shl a 16) b = sw_w (65536 * a + b) := by
  have e : sw_shl a 16 = sw_w (a * ((2 ^ 16 : Nat) : Int)) := sw_shl_k (k := 16) (by decide) (by decide)
  rw [e]
  unfold sw_or
  have h1 : (Int32.ofInt (sw_w (a * ((2 ^ 16 : Nat) : Int))) ||| Int32.ofInt b).toInt = ((Int32.ofInt (sw_w (a * ((2 ^ 16 : Nat) : Int)))).toBitVec ||| (Int32.ofInt b).toBitVec).toInt := rfl
  have h2 : ((Int32.ofInt (sw_w (a * ((2 ^ 16 : Nat) : Int)))).toBitVec ||| (Int32.ofInt b).toBitVec).toNat = a.toNat * 2 ^ 16 + b.toNat := by
    rw [BitVec.toNat_or, sw_nat, sw_nat]
    have e1 : (sw_w (a * ((2 ^ 16 : Nat) : Int)) % 4294967296).toNat = 2 ^ 16 * a.toNat := by
      unfold sw_w
      omega
    have e2 : (b % 4294967296).toNat = b.toNat := by omega
    rw [e1, e2, ← Nat.two_pow_add_eq_or_of_lt (by omega : b.toNat < 2 ^ 16), Nat.mul_comm]
  rw [h1, BitVec.toInt_eq_toNat_cond, h2]
  unfold sw_w
  split <;> omega
section
variable {I J : sr_V} {nn fr : Nat} {K : Wt → Prop} {tl mk mm l : List Wt} {a b c x y n : Int} {Q : Int → sr_V → Prop} {R : sr_V → Prop} {st : p_S} {w : Wt}
/-- the reference reads the text l that begins at fr -/
def m_rd (I : sr_V) (fr : Nat) (l : List Wt) : p_S → Prop
  | some (i, e) => I 1000 57 = ((fr + i : Nat) : Int) ∧ I 1000 58 = ((fr + e : Nat) : Int) ∧ I 1000 59 = 0 ∧ i ≤ e ∧ e ≤ l.length
  | none => (fr : Int) ≤ I 1000 57 ∧ I 1000 57 ≤ ((fr + l.length : Nat) : Int) ∧ (fr : Int) ≤ I 1000 58 ∧ I 1000 58 ≤ ((fr + l.length : Nat) : Int) ∧ I 1000 59 = 1
/-- the text, and what is known of its terms -/
def m_tk (I : sr_V) (mk : List Wt) (K : Wt → Prop) (fr : Nat) (l : List Wt) : Prop := m_at mk.length (w_d mk) (I 26) fr l ∧ fr + l.length ≤ 362000 ∧ mk.length ≤ 44999 ∧ (∀ t : Nat, 1 ≤ t → t ≤ mk.length → (w_d mk t).head? = some (I 6 t).toNat ∧ 0 ≤ I 6 t ∧ I 6 t ≤ 8) ∧ ∀ i, i < l.length → 256 ≤ I 26 (fr + i) → (I 16 (I 26 (fr + i) - 256).toNat = 0 ∨ I 16 (I 26 (fr + i) - 256).toNat = 1) ∧ (I 16 (I 26 (fr + i) - 256).toNat = 1 ↔ K ((l[i]?).getD []))
theorem m_tk_fr (h : m_tk I mk K fr l) (f : m_fr [] [57, 58, 59] I J) : m_tk J mk K fr l := by
  have e : ∀ g, g ≠ 1000 → J g = I g := fun g hg => f.1 g (by simp) hg
  unfold m_tk at h ⊢
  rw [e 26 (by decide), e 6 (by decide), e 16 (by decide)]
  exact h
/-- the sign at i -/
theorem m_tk_at (h : m_tk I mk K fr l) {i : Nat} (hi : i < l.length) : m_vs mk.length (I 26 (fr + i)) ∧ w_sg (w_d mk) (I 26 (fr + i)) = (l[i]?).getD [] := by
  obtain ⟨w, ew⟩ : ∃ w, l[i]? = some w := ⟨l[i], List.getElem?_eq_getElem hi⟩
  rw [ew]
  exact h.1 i w ew
theorem m_tk_8 (h : m_tk I mk K fr l) {i : Nat} (hi : i < l.length) : (I 26 (fr + i) < 256 ↔ ((l[i]?).getD []).head? = some 1000) ∧ (I 26 (fr + i) < 256 → w_bv ((l[i]?).getD []) = I 26 (fr + i) ∧ 0 ≤ I 26 (fr + i)) := by
  obtain ⟨h1, h2⟩ := m_tk_at h hi
  have b0 := h1.1
  refine ⟨⟨fun c => by rw [← h2]; exact w_by_head _ _ c, fun c => ?_⟩, fun c => ⟨?_, b0⟩⟩
  · rcases Int.lt_or_le (I 26 (fr + i)) 256 with g | g
    · exact g
    · exfalso
      unfold w_sg at h2
      rw [if_neg (by omega)] at h2
      unfold m_vs at h1
      have := (h.2.2.2.1 (I 26 (fr + i) - 256).toNat (by omega) (by omega))
      rw [h2, c] at this
      have e := Option.some.inj this.1
      have := this.2.2
      omega
  · rw [← h2]
    unfold w_sg
    rw [if_pos c]
    unfold w_bv
    show ((I 26 (fr + i)).toNat : Int) = _
    omega
theorem r_u8 (hx : m_tk I mk K fr l) (h : m_rd I fr l st) (q : ∀ z J, m_rd J fr l (p_to (p_8 l st)) → (∀ b s, p_8 l st = some (b, s) → z = b) → 0 ≤ z → z < 256 → m_fr [] [57, 58, 59] I J → Q z J) : rm_211 I Q := by
  have bad : ∀ Z, m_fr [] [57, 58, 59] I Z → p_8 l st = none → (fr : Int) ≤ Z 1000 57 → Z 1000 57 ≤ ((fr + l.length : Nat) : Int) → (fr : Int) ≤ Z 1000 58 → Z 1000 58 ≤ ((fr + l.length : Nat) : Int) → Z 1000 59 = 1 → rb_211_15 Q Z := by
    intro Z fZ e z1 z2 z3 z4 z5
    unfold rb_211_15
    intro v1 e1 _
    rw [z5] at e1
    refine ⟨fun c => by omega, fun _ => q 0 Z ?_ (fun b s hb => by rw [e] at hb; exact absurd hb (by simp)) (by omega) (by omega) fZ⟩
    rw [e]
    exact ⟨z1, z2, z3, z4, z5⟩
  have bad2 : p_8 l st = none → (fr : Int) ≤ I 1000 57 → I 1000 57 ≤ ((fr + l.length : Nat) : Int) → (fr : Int) ≤ I 1000 58 → I 1000 58 ≤ ((fr + l.length : Nat) : Int) → rb_211_12 Q I := by
    intro e z1 z2 z3 z4
    unfold rb_211_12
    intro I20 e20
    refine bad I20 ⟨fun g _ h2 => by rw [e20, su_f h2], fun f hf => by rw [e20, su_k (by simp at hf; omega)]⟩ e ?_ ?_ ?_ ?_ (by rw [e20, su_eq])
    · rw [e20, su_k (by decide)]; exact z1
    · rw [e20, su_k (by decide)]; exact z2
    · rw [e20, su_k (by decide)]; exact z3
    · rw [e20, su_k (by decide)]; exact z4
  unfold rm_211
  intro v24 e24 _ v27 e27 _
  cases st with
  | none =>
    obtain ⟨z1, z2, z3, z4, z5⟩ := h
    have hb := hx.2.1
    refine ⟨fun c => bad2 rfl z1 z2 z3 z4, fun c => ?_⟩
    intro v30 e30 _
    refine ⟨by omega, by omega, ?_⟩
    intro v33 e33 _
    exact ⟨fun c2 => bad I (m_fr_refl _ _ _) rfl z1 z2 z3 z4 z5, fun c2 => bad2 rfl z1 z2 z3 z4⟩
  | some s =>
    obtain ⟨i, e⟩ := s
    obtain ⟨h1, h2, h3, h4, h5⟩ := h
    have hb := hx.2.1
    refine ⟨fun c => bad2 ?_ (by omega) (by omega) (by omega) (by omega), fun c => ?_⟩
    · show (if i < e ∧ _ then _ else none) = none
      exact if_neg (fun g => by omega)
    · have hi : i < e := by omega
      intro v30 e30 _
      refine ⟨by omega, by omega, ?_⟩
      intro v33 e33 _
      rw [e30, h1, Int.toNat_natCast] at e33
      obtain ⟨k1, k2⟩ := m_tk_8 hx (i := i) (by omega)
      refine ⟨fun c2 => ?_, fun c2 => bad2 ?_ (by omega) (by omega) (by omega) (by omega)⟩
      · rw [e33] at c2
        have ep : p_8 l (some (i, e)) = some (w_bv ((l[i]?).getD []), i + 1, e) := if_pos ⟨hi, k1.mp c2⟩
        obtain ⟨k3, k4⟩ := k2 c2
        unfold rb_211_15
        intro v1 e1 _
        refine ⟨fun _ => ?_, fun c3 => by omega⟩
        intro v4 e4 _ I8 e8 v12 e12 _
        rw [e4, h1, sw_w_s (by omega) (by omega)] at e8
        have e12 : v12 = ((fr + i : Nat) : Int) + 1 := by rw [e12, e8, su_eq]
        rw [e12, sw_w_s (by omega) (by omega), show ((fr + i : Nat) : Int) + 1 - 1 = ((fr + i : Nat) : Int) by omega]
        refine ⟨by omega, by omega, ?_⟩
        intro v15 e15 _
        rw [Int.toNat_natCast, e8, su_f (by decide)] at e15
        refine q v15 I8 ?_ (fun b s hbs => ?_) (by omega) (by omega) ⟨fun g _ g2 => by rw [e8, su_f g2], fun f hf => by rw [e8, su_k (by simp at hf; omega)]⟩
        · rw [ep]
          refine ⟨?_, ?_, ?_, by omega, h5⟩
          · rw [e8, su_eq]; omega
          · rw [e8, su_k (by decide)]; exact h2
          · rw [e8, su_k (by decide)]; exact h3
        · rw [ep] at hbs
          have := (Prod.mk.inj (Option.some.inj hbs)).1
          rw [← this, k3, e15]
      · show (if i < e ∧ _ then _ else none) = none
        refine if_neg (fun g => ?_)
        have := k1.mpr g.2
        omega
theorem r_u16 (hx : m_tk I mk K fr l) (h : m_rd I fr l st) (q : ∀ z J, m_rd J fr l (p_to (p_16 l st)) → (∀ b s, p_16 l st = some (b, s) → z = b) → 0 ≤ z → z < 65536 → m_fr [] [57, 58, 59] I J → Q z J) : rm_213 I Q := by
  unfold rm_213
  refine r_u8 hx h (fun a J1 r1 v1 a0 a1 f1 _ => ?_)
  refine r_u8 (m_tk_fr hx f1) r1 (fun b J2 r2 v2 b0 b1 f2 _ => ?_)
  rw [sw_or_16 a0 a1 b0 b1]
  refine q _ J2 ?_ (fun z s hz => ?_) (by omega) (by omega) (m_fr_trans f1 f2)
  · unfold p_16
    cases e1 : p_8 l st with
    | none => rw [e1] at r2; exact r2
    | some p1 =>
      rw [e1] at r2
      show m_rd J2 fr l (p_to ((p_8 l (some p1.2)).map (fun b => (256 * p1.1 + b.1, b.2))))
      have r2 : m_rd J2 fr l (p_to (p_8 l (some p1.2))) := r2
      cases e2 : p_8 l (some p1.2) with
      | none => rw [e2] at r2; exact r2
      | some p2 => rw [e2] at r2; exact r2
  · unfold p_16 at hz
    cases e1 : p_8 l st with
    | none => rw [e1] at hz; exact absurd hz (by simp)
    | some p1 =>
      rw [e1] at hz
      have hz : (p_8 l (some p1.2)).map (fun b => (256 * p1.1 + b.1, b.2)) = some (z, s) := hz
      cases e2 : p_8 l (some p1.2) with
      | none => rw [e2] at hz; exact absurd hz (by simp)
      | some p2 =>
        rw [e2] at hz
        have hz := (Prod.mk.inj (Option.some.inj hz)).1
        have q1 := v1 p1.1 p1.2 e1
        have q2 := v2 p2.1 p2.2 (by rw [e1]; exact e2)
        rw [← hz, q1, q2]
theorem r_u32 (hx : m_tk I mk K fr l) (h : m_rd I fr l st) (q : ∀ z J, m_rd J fr l (p_to (p_32 l st)) → (∀ b s, p_32 l st = some (b, s) → z = b) → sw_c z → m_fr [] [57, 58, 59] I J → Q z J) : rm_212 I Q := by
  unfold rm_212
  refine r_u16 hx h (fun a J1 r1 v1 a0 a1 f1 _ => ?_)
  refine r_u16 (m_tk_fr hx f1) r1 (fun b J2 r2 v2 b0 b1 f2 _ => ?_)
  rw [sw_or_32 a0 a1 b0 b1]
  refine q _ J2 ?_ (fun z s hz => ?_) (sw_w_c _) (m_fr_trans f1 f2)
  · unfold p_32
    cases e1 : p_16 l st with
    | none => rw [e1] at r2; exact r2
    | some p1 =>
      rw [e1] at r2
      show m_rd J2 fr l (p_to ((p_16 l (some p1.2)).map (fun b => (sw_w (65536 * p1.1 + b.1), b.2))))
      have r2 : m_rd J2 fr l (p_to (p_16 l (some p1.2))) := r2
      cases e2 : p_16 l (some p1.2) with
      | none => rw [e2] at r2; exact r2
      | some p2 => rw [e2] at r2; exact r2
  · unfold p_32 at hz
    cases e1 : p_16 l st with
    | none => rw [e1] at hz; exact absurd hz (by simp)
    | some p1 =>
      rw [e1] at hz
      have hz : (p_16 l (some p1.2)).map (fun b => (sw_w (65536 * p1.1 + b.1), b.2)) = some (z, s) := hz
      cases e2 : p_16 l (some p1.2) with
      | none => rw [e2] at hz; exact absurd hz (by simp)
      | some p2 =>
        rw [e2] at hz
        have hz := (Prod.mk.inj (Option.some.inj hz)).1
        have q1 := v1 p1.1 p1.2 e1
        have q2 := v2 p2.1 p2.2 (by rw [e1]; exact e2)
        rw [← hz, q1, q2]
end
end
