/-! ===== the class: rows ===== -/
noncomputable section
/-- what is the same but for the ints of some cells -/
def c_fr (A : List Nat) (H G : sw_H) : Prop := sw_n G = sw_n H ∧ sw_s G = sw_s H ∧ (∀ a, sw_ty G a = sw_ty H a) ∧ (∀ a, sw_ln G a = sw_ln H a) ∧ (∀ a f, sw_rv G a f = sw_rv H a f) ∧ ∀ a, a ∉ A → sw_iv G a = sw_iv H a
theorem c_fr_refl (A : List Nat) (H : sw_H) : c_fr A H H := ⟨rfl, rfl, fun _ => rfl, fun _ => rfl, fun _ _ => rfl, fun _ _ => rfl⟩
theorem c_fr_trans {A B : List Nat} {H G K : sw_H} (h : c_fr A H G) (k : c_fr B G K) : c_fr (A ++ B) H K := by
  obtain ⟨h1, h2, h3, h4, h5, h6⟩ := h
  obtain ⟨k1, k2, k3, k4, k5, k6⟩ := k
  refine ⟨k1.trans h1, k2.trans h2, fun a => (k3 a).trans (h3 a), fun a => (k4 a).trans (h4 a), fun a f => (k5 a f).trans (h5 a f), fun a ha => ?_⟩
  rw [List.mem_append] at ha
  rw [k6 a (fun h => ha (Or.inr h)), h6 a (fun h => ha (Or.inl h))]
theorem c_fr_sub {A B : List Nat} {H G : sw_H} (h : c_fr A H G) (hs : ∀ a ∈ A, a ∈ B) : c_fr B H G := ⟨h.1, h.2.1, h.2.2.1, h.2.2.2.1, h.2.2.2.2.1, fun a ha => h.2.2.2.2.2 a (fun hm => ha (hs a hm))⟩
theorem c_fr_t {A : List Nat} {H G K : sw_H} (h : c_fr A H G) (k : c_fr A G K) : c_fr A H K := c_fr_sub (c_fr_trans h k) (fun a ha => by
  rw [List.mem_append] at ha
  rcases ha with ha | ha <;> exact ha)
theorem c_fr_si (H : sw_H) (q f : Nat) (z : Int) : c_fr [q] H (sw_si H q f z) := ⟨rfl, rfl, fun _ => rfl, fun _ => rfl, fun _ _ => rfl, fun a ha => by
  simp at ha
  funext g
  rw [sw_iv_si, if_neg (fun e => ha e.1)]⟩
theorem c_fr_cp (H : sw_H) (a sp b dp m : Nat) : c_fr [b] H (sw_cp H a sp b dp m) := ⟨rfl, rfl, fun _ => rfl, fun _ => rfl, fun _ _ => rfl, fun c ha => by
  simp at ha
  funext g
  rw [sw_iv_cp, if_neg (fun e => ha e.1)]⟩
theorem c_si_eq (H : sw_H) (q f : Nat) (z : Int) : sw_iv (sw_si H q f z) q f = z := if_pos ⟨rfl, rfl⟩
theorem c_si_f {H : sw_H} {q f : Nat} {z : Int} {g : Nat} (h : g ≠ f) : sw_iv (sw_si H q f z) q g = sw_iv H q g := if_neg (fun e => h e.2)
theorem c_si_q {H : sw_H} {q f : Nat} {z : Int} {a g : Nat} (h : a ≠ q) : sw_iv (sw_si H q f z) a g = sw_iv H a g := if_neg (fun e => h e.1)
theorem m_sl_snoc (f : Nat → Int) (a n : Nat) : m_sl f a (n + 1) = m_sl f a n ++ [f (a + n)] := by
  unfold m_sl
  rw [List.range_succ, List.map_append]
  rfl
theorem m_sl_cg {f g : Nat → Int} {a n : Nat} (h : ∀ k, k < n → g (a + k) = f (a + k)) : m_sl g a n = m_sl f a n := by
  unfold m_sl
  apply List.map_congr_left
  intro k hk
  rw [List.mem_range] at hk
  exact h k hk
theorem m_sl_len (f : Nat → Int) (a n : Nat) : (m_sl f a n).length = n := by unfold m_sl; simp
theorem m_sl_at {f : Nat → Int} {a n k : Nat} (h : k < n) : (m_sl f a n)[k]? = some (f (a + k)) := by
  unfold m_sl
  rw [List.getElem?_map, List.getElem?_range h]
  rfl
/-- the Row at r, whose array is a, has the signs l -/
def c_row (H : sw_H) (r a : Nat) (l : List Int) : Prop := sw_ty H r = 80 ∧ sw_rv H r 0 = a ∧ sw_ty H a = 1 ∧ sw_iv H r 1 = l.length ∧ l.length ≤ sw_ln H a ∧ sw_ln H a ≤ 134217728 ∧ m_sl (sw_iv H a) 0 l.length = l
section
variable {H G : sw_H} {r a b : Nat} {l l2 : List Int} {x : Int} {Q : sw_H → Prop} {P : Int → sw_H → Prop}
theorem c_row_ne (h : c_row H r a l) : r ≠ a := fun e => by
  have h1 := h.1
  rw [e, h.2.2.1] at h1
  cases h1
theorem c_row_at (h : c_row H r a l) {k : Nat} (hk : k < l.length) : l[k]? = some (sw_iv H a k) := by
  obtain ⟨_, _, _, _, _, _, h7⟩ := h
  have := m_sl_at (f := sw_iv H a) (a := 0) hk
  rw [h7, Nat.zero_add] at this
  exact this
theorem c_row_fr {A : List Nat} (h : c_row H r a l) (fr : c_fr A H G) (hr : r ∉ A) (ha : a ∉ A) : c_row G r a l := by
  obtain ⟨h1, h2, h3, h4, h5, h6, h7⟩ := h
  obtain ⟨_, _, k3, k4, k5, k6⟩ := fr
  refine ⟨by rw [k3]; exact h1, by rw [k5]; exact h2, by rw [k3]; exact h3, by rw [k6 r hr]; exact h4, by rw [k4]; exact h5, by rw [k4]; exact h6, by rw [k6 a ha]; exact h7⟩
theorem c_clear (h : c_row H r a l) (k : ∀ G, c_row G r a [] → c_fr [r] H G → Q G) : wm_160 r H Q := by
  unfold wm_160
  intro H1 e
  subst e
  have ne := c_row_ne h
  obtain ⟨h1, h2, h3, h4, h5, h6, h7⟩ := h
  exact k _ ⟨h1, h2, h3, c_si_eq _ _ _ _, by simp, h6, rfl⟩ (c_fr_si H r 1 0)
theorem c_put (h : c_row H r a l) (hc : l.length < sw_ln H a) (k : ∀ G, c_row G r a (l ++ [x]) → c_fr [r, a] H G → Q G) : wm_58 r x H Q := by
  have ne := c_row_ne h
  obtain ⟨h1, h2, h3, h4, h5, h6, h7⟩ := h
  unfold wm_58
  intro v1 e1 _
  rw [h4] at e1
  subst e1
  refine ⟨by rw [h2]; exact h3, ?_⟩
  intro q e
  rw [h2] at e
  subst e
  intro v7 e7 _
  subst e7
  refine ⟨fun c => by omega, fun c => ⟨by rw [h2]; exact h3, ?_⟩⟩
  intro q e
  rw [h2] at e
  subst e
  intro v13 e13 _
  rw [h4] at e13
  subst e13
  refine ⟨by omega, by omega, ?_⟩
  intro H16 e16 v19 e19 _ H22 e22
  rw [e16, c_si_q ne, h4] at e19
  subst e19
  rw [sw_w_s (by omega) (by omega)] at e22
  have fr : c_fr [r, q] H H22 := by
    rw [e22, e16]
    exact c_fr_sub (c_fr_trans (c_fr_si H q _ x) (c_fr_si _ r 1 _)) (by simp)
  refine k H22 ⟨?_, ?_, ?_, ?_, ?_, ?_, ?_⟩ fr
  · rw [fr.2.2.1]; exact h1
  · rw [fr.2.2.2.2.1]; exact h2
  · rw [fr.2.2.1]; exact h3
  · rw [e22, c_si_eq]; simp
  · rw [fr.2.2.2.1]; simp; omega
  · rw [fr.2.2.2.1]; exact h6
  · have e : ∀ g, sw_iv H22 q g = sw_iv (sw_si H q l.length x) q g := fun g => by
      rw [e22, c_si_q (Ne.symm ne), e16, Int.toNat_natCast]
    rw [List.length_append, List.length_singleton, m_sl_snoc]
    congr 1
    · rw [m_sl_cg (f := sw_iv H q) (fun k hk => by rw [e, c_si_f (by omega)])]
      exact h7
    · rw [e, Nat.zero_add, c_si_eq]
/-- two bytes -/
def w_16 (x : Int) : List Int := [x / 256 % 256, x % 256]
theorem sw_hi (x : Int) : sw_and (sw_ush x 8) 255 = x / 256 % 256 := by
  rw [sw_and_255, sw_ush_k (k := 8) (by decide) (by decide) (by decide)]
  show x % 4294967296 / 256 % 256 = _
  omega
theorem c_putU16 (h : c_row H r a l) (hc : l.length + 2 ≤ sw_ln H a) (k : ∀ G, c_row G r a (l ++ w_16 x) → c_fr [r, a] H G → Q G) : wm_170 r x H Q := by
  have ne := c_row_ne h
  obtain ⟨h1, h2, h3, h4, h5, h6, h7⟩ := h
  unfold wm_170
  intro v1 e1 _
  rw [h4] at e1
  subst e1
  refine ⟨by rw [h2]; exact h3, ?_⟩
  intro q e
  rw [h2] at e
  subst e
  intro v7 e7 _
  subst e7
  rw [sw_w_s (by omega) (by omega)]
  refine ⟨fun c => by omega, fun c => ⟨by rw [h2]; exact h3, ?_⟩⟩
  intro q e
  rw [h2] at e
  subst e
  intro v13 e13 _
  rw [h4] at e13
  subst e13
  refine ⟨by omega, by omega, ?_⟩
  intro H16 e16
  have f16 : c_fr [q] H H16 := by rw [e16]; exact c_fr_si H q _ _
  refine ⟨by rw [f16.2.2.1, f16.2.2.2.2.1, h2]; exact h3, ?_⟩
  intro q2 e2
  rw [f16.2.2.2.2.1, h2] at e2
  subst e2
  intro v22 e22 _
  rw [e16, c_si_q ne, h4] at e22
  subst e22
  rw [sw_w_s (by omega) (by omega)]
  refine ⟨by omega, by rw [f16.2.2.2.1]; omega, ?_⟩
  intro H25 e25 v28 e28 _ H31 e31
  rw [e25, c_si_q ne, e16, c_si_q ne, h4] at e28
  subst e28
  rw [sw_w_s (by omega) (by omega)] at e31
  have fr : c_fr [r, q2] H H31 := by
    rw [e31, e25]
    exact c_fr_sub (c_fr_trans f16 (c_fr_trans (c_fr_si H16 q2 _ _) (c_fr_si _ r 1 _))) (by simp)
  refine k H31 ⟨?_, ?_, ?_, ?_, ?_, ?_, ?_⟩ fr
  · rw [fr.2.2.1]; exact h1
  · rw [fr.2.2.2.2.1]; exact h2
  · rw [fr.2.2.1]; exact h3
  · rw [e31, c_si_eq]; unfold w_16; simp
  · rw [fr.2.2.2.1]; unfold w_16; simp; omega
  · rw [fr.2.2.2.1]; exact h6
  · have e : ∀ g, sw_iv H31 q2 g = if g = l.length + 1 then x % 256 else if g = l.length then x / 256 % 256 else sw_iv H q2 g := fun g => by
      rw [e31, c_si_q (Ne.symm ne), e25, sw_iv_si, e16, sw_iv_si, sw_and_255, sw_hi, show ((l.length : Int) + 1).toNat = l.length + 1 by omega, Int.toNat_natCast]
      by_cases c1 : g = l.length + 1
      · rw [if_pos ⟨rfl, c1⟩, if_pos c1]
      · rw [if_neg (fun z => c1 z.2), if_neg c1]
        by_cases c2 : g = l.length
        · rw [if_pos ⟨rfl, c2⟩, if_pos c2]
        · rw [if_neg (fun z => c2 z.2), if_neg c2]
    have hl : (l ++ w_16 x).length = l.length + 1 + 1 := by unfold w_16; simp
    rw [hl, m_sl_snoc, m_sl_snoc, Nat.zero_add, Nat.zero_add, e, e, if_pos rfl, if_neg (by omega), if_pos rfl]
    rw [m_sl_cg (f := sw_iv H q2) (fun k hk => by rw [e, if_neg (by omega), if_neg (by omega)]), h7]
    unfold w_16
    simp
theorem c_putU32 (h : c_row H r a l) (hc : l.length + 4 ≤ sw_ln H a) (k : ∀ G, c_row G r a (l ++ w_16 (x / 65536 % 65536) ++ w_16 (x % 65536)) → c_fr [r, a] H G → Q G) : wm_169 r x H Q := by
  unfold wm_169
  have e1 : sw_ush x 16 = x / 65536 % 65536 := by
    rw [sw_ush_k (k := 16) (by decide) (by decide) (by decide)]
    show x % 4294967296 / 65536 = _
    omega
  have e2 : sw_and x 65535 = x % 65536 := sw_and_m x (n := 16) (by decide) (by decide)
  rw [e1, e2]
  refine c_putU16 h (by omega) (fun G g1 g2 _ => ?_)
  refine c_putU16 g1 (by rw [g2.2.2.2.1]; unfold w_16; simp; omega) (fun G2 k1 k2 _ => k G2 k1 (c_fr_t g2 k2))
theorem c_putHash (h : c_row H r a l) (hx0 : 0 ≤ x) (hx1 : x < 1000000000) (hc : l.length < sw_ln H a) (k : ∀ G, c_row G r a (l ++ [if x = 0 then 0 else 256 + x]) → c_fr [r, a] H G → Q G) : wm_263 r x H Q := by
  unfold wm_263
  refine ⟨fun c => ?_, fun c => ?_⟩
  · unfold wb_263_8
    rw [if_neg c] at k
    rw [sw_w_s (by omega) (by omega)]
    exact c_put h hc (fun G g1 g2 _ => k G g1 g2)
  · unfold wb_263_8
    rw [if_pos c] at k
    exact c_put h hc (fun G g1 g2 _ => k G g1 g2)
theorem c_putAll {r2 b : Nat} {s e : Int} (h : c_row H r a l) (h2 : c_row H r2 b l2) (ne : a ≠ b) (hs : 0 ≤ s) (hse : s ≤ e) (he : e ≤ l2.length) (hc : l.length + (e - s) ≤ sw_ln H a) (k : ∀ G, c_row G r a (l ++ (l2.drop s.toNat).take (e - s).toNat) → c_fr [r, a] H G → Q G) : wm_64 r r2 s e H Q := by
  have ner := c_row_ne h
  have h' := h
  have hh2 := h2
  obtain ⟨h1, h2', h3, h4, h5, h6, h7⟩ := h
  obtain ⟨j1, j2, j3, j4, j5, j6, j7⟩ := h2
  unfold wm_64
  intro y1 ey
  rw [sw_w_s (by omega) (by omega)] at ey
  subst ey
  have same : e - s ≤ 0 → Q H := fun c => by
    refine k H ?_ (c_fr_refl _ _)
    rw [show (e - s).toNat = 0 by omega, List.take_zero, List.append_nil]
    exact h'
  refine ⟨fun c => by omega, fun c => ⟨same, fun c1 => ?_⟩⟩
  intro v5 e5 _
  rw [j4] at e5
  subst e5
  refine ⟨fun c2 => by omega, fun c2 => ?_⟩
  intro v8 e8 _
  rw [h4] at e8
  subst e8
  refine ⟨by rw [h2']; exact h3, ?_⟩
  intro q11 e11
  rw [h2'] at e11
  subst e11
  intro v14 e14 _
  subst e14
  rw [sw_w_s (by omega) (by omega)]
  refine ⟨fun c3 => by omega, fun c3 => ⟨by rw [j2]; exact j3, ?_⟩⟩
  intro q17 e17
  rw [j2] at e17
  subst e17
  refine ⟨by rw [h2']; exact h3, ?_⟩
  intro q20 e20
  rw [h2'] at e20
  subst e20
  intro v23 e23 _
  rw [h4] at e23
  subst e23
  refine ⟨by omega, by omega, by omega, by omega, by omega, ?_⟩
  intro H26 e26 v29 e29 _ H32 e32
  have f26 : c_fr [q20] H H26 := by rw [e26]; exact c_fr_cp H _ _ _ _ _
  rw [f26.2.2.2.2.2 r (by simpa using ner), h4] at e29
  subst e29
  rw [sw_w_s (by omega) (by omega)] at e32
  have fr : c_fr [r, q20] H H32 := by
    rw [e32]
    exact c_fr_sub (c_fr_trans f26 (c_fr_si H26 r 1 _)) (by simp)
  have hlen : ((l2.drop s.toNat).take (e - s).toNat).length = (e - s).toNat := by
    rw [List.length_take, List.length_drop]
    omega
  refine k H32 ⟨?_, ?_, ?_, ?_, ?_, ?_, ?_⟩ fr
  · rw [fr.2.2.1]; exact h1
  · rw [fr.2.2.2.2.1]; exact h2'
  · rw [fr.2.2.1]; exact h3
  · rw [e32, c_si_eq, List.length_append, hlen]; omega
  · rw [fr.2.2.2.1, List.length_append, hlen]; omega
  · rw [fr.2.2.2.1]; exact h6
  · have ev : ∀ g, sw_iv H32 q20 g = if l.length ≤ g ∧ g < l.length + (e - s).toNat then sw_iv H q17 (s.toNat + (g - l.length)) else sw_iv H q20 g := fun g => by
      rw [e32, c_si_q (Ne.symm ner), e26, sw_iv_cp, Int.toNat_natCast]
      by_cases cg : l.length ≤ g ∧ g < l.length + (e - s).toNat
      · rw [if_pos ⟨rfl, cg⟩, if_pos cg]
      · rw [if_neg (fun z => cg z.2), if_neg cg]
    apply List.ext_getElem?
    intro k
    rw [List.length_append, hlen]
    by_cases c4 : k < l.length
    · rw [m_sl_at (by omega), List.getElem?_append_left c4, Nat.zero_add, ev, if_neg (by omega), c_row_at h' c4]
    · by_cases c5 : k < l.length + (e - s).toNat
      · rw [m_sl_at c5, List.getElem?_append_right (by omega), Nat.zero_add, ev, if_pos ⟨by omega, c5⟩, List.getElem?_take, if_pos (by omega), List.getElem?_drop, c_row_at hh2 (by omega)]
      · rw [List.getElem?_eq_none (by rw [m_sl_len]; omega), List.getElem?_eq_none (by rw [List.length_append, hlen]; omega)]
theorem c_termAt (h : c_row H r a l) (q0 : (∀ s, ¬ (0 ≤ x ∧ l[x.toNat]? = some s ∧ 256 ≤ s)) → P 0 H) (q1 : ∀ s, 0 ≤ x → l[x.toNat]? = some s → 256 ≤ s → sw_c s → P (s - 256) H) : wm_269 r x H P := by
  have h' := h
  obtain ⟨h1, h2, h3, h4, h5, h6, h7⟩ := h
  unfold wm_269
  refine ⟨fun c => q0 (fun s hh => by omega), fun c => ?_⟩
  intro v1 e1 _
  rw [h4] at e1
  subst e1
  refine ⟨fun c1 => q0 (fun s hh => ?_), fun c1 => ⟨by rw [h2]; exact h3, ?_⟩⟩
  · have := (List.getElem?_eq_some_iff.mp hh.2.1).1
    omega
  · intro q e
    rw [h2] at e
    subst e
    refine ⟨c, by omega, ?_⟩
    intro v7 e7 c7
    have hat := c_row_at h' (k := x.toNat) (by omega)
    rw [← e7] at hat
    refine ⟨fun c2 => q0 (fun s hh => ?_), fun c2 => ⟨by rw [h2]; exact h3, ?_⟩⟩
    · rw [hat] at hh
      have := Option.some.inj hh.2.1
      omega
    · intro q10 e10
      rw [h2] at e10
      subst e10
      refine ⟨c, by omega, ?_⟩
      intro v13 e13 _
      rw [← e7] at e13
      subst e13
      have c7' := c7
      unfold sw_c at c7'
      rw [sw_w_s (by omega) (by omega)]
      exact q1 v13 c hat c2 c7
end
end
