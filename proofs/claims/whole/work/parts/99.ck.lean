/-! ===== slices of what was read; signatures that are right ===== -/
noncomputable section
/-- signs that look like bytes are bytes -/
def w_vl (l : List Wt) : Prop := ∀ (i : Nat) (w : Wt), l[i]? = some w → w.head? = some 1000 → ∃ b : Int, 0 ≤ b ∧ b < 256 ∧ w = w_by b
def w_sli (l : List Wt) (i j : Nat) : List Wt := (l.drop i).take (j - i)
theorem w_sli_app {l : List Wt} {i j k : Nat} (h1 : i ≤ j) (h2 : j ≤ k) : w_sli l i k = w_sli l i j ++ w_sli l j k := by
  unfold w_sli
  have e : k - i = (j - i) + (k - j) := by omega
  rw [e, List.take_add, List.drop_drop]
  have e2 : i + (j - i) = j := by omega
  rw [e2]
theorem w_sli_1 {l : List Wt} {i : Nat} {w : Wt} (h : l[i]? = some w) : w_sli l i (i + 1) = [w] := by
  unfold w_sli
  have e : i + 1 - i = 1 := by omega
  obtain ⟨hi, hw⟩ := List.getElem?_eq_some_iff.mp h
  rw [e, List.drop_eq_getElem_cons hi, hw]
  rfl
theorem w_sli_len {l : List Wt} {i j : Nat} (h : j ≤ l.length) : (w_sli l i j).length = j - i := by
  unfold w_sli
  rw [List.length_take, List.length_drop]
  omega
theorem w_sli_at {l : List Wt} {i j k : Nat} (h : i + k < j) : (w_sli l i j)[k]? = l[i + k]? := by
  unfold w_sli
  rw [List.getElem?_take, if_pos (by omega), List.getElem?_drop]
theorem w_get {l : List Wt} {i : Nat} (h : i < l.length) : l[i]? = some ((l[i]?).getD []) := by
  rw [List.getElem?_eq_getElem h]
  rfl
theorem w_bv_by {b : Int} (h : 0 ≤ b) : w_bv (w_by b) = b := by
  unfold w_bv w_by
  show ((b.toNat : Nat) : Int) = b
  omega
section
variable {K : Wt → Prop} {src : Int} {l : List Wt} {i e : Nat} {s : Nat × Nat} {m so n kd z : Int} {k p ph g ik w : Wt} {lf : p_L}
theorem p_8_sl (hl : w_vl l) (he : e ≤ l.length) (h : p_8 l (some (i, e)) = some (z, s)) : l[i]? = some (w_by z) ∧ 0 ≤ z ∧ z < 256 := by
  obtain ⟨h1, h2, h3, h4⟩ := p_8_in h
  have g := w_get (l := l) (i := i) (by omega)
  obtain ⟨b, b0, b1, eb⟩ := hl i _ g h3
  rw [eb, w_bv_by b0] at h4
  rw [g, eb, h4]
  exact ⟨rfl, b0, b1⟩
theorem p_t_sl {st : Nat} (he : e ≤ l.length) (h : p_t K st l (some (i, e)) = some (w, s)) : l[i]? = some w := by
  obtain ⟨h1, h2, h3, _⟩ := p_t_in h
  rw [h3]
  exact w_get (by omega)
theorem p_h_sl (he : e ≤ l.length) (h : p_h K l (some (i, e)) = some (w, s)) : l[i]? = some (w_pb w) := by
  obtain ⟨h1, h2, h3⟩ := p_h_in h
  have g := w_get (l := l) (i := i) (by omega)
  rcases h3 with ⟨e1, e2⟩ | ⟨e1, e2, _⟩
  · rw [g, e2, e1]; rfl
  · rw [g, ← e1]
    unfold w_pb
    rw [if_neg (fun c => by rw [c] at e2; simp at e2)]
theorem p_16_sl (hl : w_vl l) (he : e ≤ l.length) (h : p_16 l (some (i, e)) = some (z, s)) : w_sli l i (i + 2) = w_b16 z ∧ 0 ≤ z ∧ z < 65536 ∧ s = (i + 2, e) ∧ i + 2 ≤ e := by
  unfold p_16 at h
  rw [Option.bind_eq_some_iff] at h
  obtain ⟨⟨a, sa⟩, h1, h⟩ := h
  rw [Option.map_eq_some_iff] at h
  obtain ⟨⟨b, sb⟩, h2, h⟩ := h
  have h : (256 * a + b, sb) = (z, s) := h
  simp only [Prod.mk.injEq] at h
  obtain ⟨ez, es⟩ := h
  obtain ⟨x1, x2, _⟩ := p_8_in h1
  subst x1
  obtain ⟨a1, a2, a3⟩ := p_8_sl hl he h1
  have h2 : p_8 l (some (i + 1, e)) = some (b, sb) := h2
  obtain ⟨y1, y2, _⟩ := p_8_in h2
  obtain ⟨b1, b2, b3⟩ := p_8_sl hl he h2
  refine ⟨?_, by omega, by omega, by rw [← es, y1], by omega⟩
  rw [w_sli_app (j := i + 1) (by omega) (by omega), w_sli_1 a1, w_sli_1 b1]
  unfold w_b16
  have q1 : z / 256 % 256 = a := by omega
  have q2 : z % 256 = b := by omega
  rw [q1, q2]
  rfl
/-- a LEAF that was read stands there as it is written -/
theorem p_lf_sl (hl : w_vl l) (he : e ≤ l.length) (h : p_lf K src l (some (i, e)) = some ((m, k, p, so, ph, g), s)) : w_sli l i (i + (if so = 3 then 6 else 5)) = w_lh m k p so ph ∧ l[i + (if so = 3 then 6 else 5)]? = some g ∧ 0 ≤ m ∧ m < 65536 := by
  obtain ⟨x1, x2, x3, x4, x5, x6, y1, y2, y3, y4, y5, y6⟩ := p_lf_ix h
  obtain ⟨a1, a2, a3, _⟩ := p_16_sl hl he y1
  have b2 := p_t_sl he y2
  have b3 := p_t_sl he y3
  obtain ⟨b4, _⟩ := p_8_sl hl he y4
  have b6 := p_t_sl he y6
  refine ⟨?_, b6, a2, a3⟩
  have e5 : w_sli l i (i + 5) = w_b16 m ++ [k, p, w_by so] := by
    rw [w_sli_app (j := i + 2) (by omega) (by omega), a1, w_sli_app (i := i + 2) (j := i + 3) (by omega) (by omega), w_sli_1 b2, w_sli_app (i := i + 3) (j := i + 4) (by omega) (by omega), w_sli_1 b3, w_sli_1 b4]
    rfl
  unfold w_lh
  by_cases c : so = 3
  · rw [if_pos c, if_pos c, w_sli_app (j := i + 5) (by omega) (by omega), e5, w_sli_1 (p_h_sl he (y5 c))]
  · rw [if_neg c, if_neg c, e5, List.append_nil]
/-- a LEAF, with its signature -/
def w_lfw (f : p_L) : List Wt := w_lh f.1 f.2.1 f.2.2.1 f.2.2.2.1 f.2.2.2.2.1 ++ [f.2.2.2.2.2]
theorem p_pk_sl (hl : w_vl l) (he : e ≤ l.length) (h : p_pk K l (some (i, e)) = some ((ik, lf, g), s)) : w_sli l i (i + 8) = w_by 1 :: ik :: w_lfw lf ∧ l[i + 8]? = some g ∧ l[i + 1]? = some ik ∧ w_sli l (i + 2) (i + 8) = w_lfw lf := by
  obtain ⟨x1, x2, x3, x4, x5, x6⟩ := p_pk_ix h
  obtain ⟨a1, _⟩ := p_8_sl hl he x3
  have a2 := p_t_sl he x4
  have a4 := p_t_sl he x6
  obtain ⟨m, k, p, so, ph, g0⟩ := lf
  obtain ⟨y1, y2, y3, y4, y5, y6, _⟩ := p_lf_ix x5
  have y6 := y6 (by decide)
  subst y6
  obtain ⟨b1, b2, b3, b4⟩ := p_lf_sl hl he x5
  rw [if_neg (by decide)] at b1 b2
  have e2 : w_sli l (i + 2) (i + 8) = w_lfw (m, k, p, 1, ph, g0) := by
    rw [w_sli_app (j := i + 2 + 5) (by omega) (by omega), b1, w_sli_1 b2]
    rfl
  refine ⟨?_, a4, a2, e2⟩
  rw [w_sli_app (j := i + 1) (by omega) (by omega), w_sli_1 a1, w_sli_app (i := i + 1) (j := i + 2) (by omega) (by omega), w_sli_1 a2, e2]
  rfl
end
/-- g is member m's signature of L; p is m's key -/
def w_sok (m : Int) (p g : Wt) (L : List Wt) : Prop := 0 ≤ m ∧ m < 24 ∧ p = w_pub m.toNat ∧ g = w_t 7 (w_nm m.toNat) [] [] L
/-- a LEAF is signed, at leaf n -/
def w_lfs (f : p_L) (n : Int) : Prop := w_sok f.1 f.2.2.1 f.2.2.2.2.2 (w_lh f.1 f.2.1 f.2.2.1 f.2.2.2.1 f.2.2.2.2.1 ++ (if 1 < f.2.2.2.1 then w_b16 n else []))
/-- a PACKAGE is signed -/
def w_pks (v : Wt × p_L × Wt) : Prop := w_lfs v.2.1 0 ∧ w_sok v.2.1.1 v.2.1.2.2.1 v.2.2 (w_by 1 :: v.1 :: w_lfw v.2.1)
theorem w_vl_of {n : Int} {d : Nat → Wt} {f : Nat → Int} {a : Nat} {l : List Wt} (h : m_at n d f a l) (hd : ∀ t : Nat, 1 ≤ t → (t : Int) ≤ n → (d t).head? ≠ some 1000) : w_vl l := by
  intro i w hi hw
  obtain ⟨v, e⟩ := h i w hi
  unfold m_vs at v
  by_cases c : f (a + i) < 256
  · refine ⟨f (a + i), v.1, c, ?_⟩
    rw [← e]
    unfold w_sg
    rw [if_pos c]
    rfl
  · exfalso
    unfold w_sg at e
    rw [if_neg c] at e
    rw [← e] at hw
    exact hd _ (by omega) (by omega) hw
end
