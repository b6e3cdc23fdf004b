/-! ===== reading when more is known; the reference: isBelow ===== -/
noncomputable section
section
variable {A B : Type} {a a' : Option A} {f f' : A → Option B} {g : A → B} {y : B}
theorem o_bind (h1 : ∀ x, a = some x → a' = some x) (h2 : ∀ x y, f x = some y → f' x = some y) (h : a.bind f = some y) : a'.bind f' = some y := by
  rw [Option.bind_eq_some_iff] at h ⊢
  obtain ⟨x, hx, hy⟩ := h
  exact ⟨x, h1 x hx, h2 x y hy⟩
theorem o_map (h1 : ∀ x, a = some x → a' = some x) (h : a.map g = some y) : a'.map g = some y := by
  rw [Option.map_eq_some_iff] at h ⊢
  obtain ⟨x, hx, hy⟩ := h
  exact ⟨x, h1 x hx, hy⟩
end
variable {K K2 : Wt → Prop} {l : List Wt} {st : p_S}
/-- more is known -/
def p_kn (K K2 : Wt → Prop) (l : List Wt) : Prop := ∀ i : Nat, K ((l[i]?).getD []) → K2 ((l[i]?).getD [])
theorem p_t_mo (hK : p_kn K K2 l) {so : Nat} {st : p_S} {r : Wt × Nat × Nat} (h : p_t K so l st = some r) : p_t K2 so l st = some r := by
  cases st with
  | none => exact h
  | some s =>
    obtain ⟨i, e⟩ := s
    obtain ⟨w, s⟩ := r
    obtain ⟨h1, h2, h3, h4, h5⟩ := p_t_in h
    have c : i < e ∧ ((l[i]?).getD []).head? = some so ∧ K2 ((l[i]?).getD []) := ⟨h2, by rw [← h3]; exact h4, hK i (by rw [← h3]; exact h5)⟩
    show (@ite _ (i < e ∧ ((l[i]?).getD []).head? = some so ∧ K2 ((l[i]?).getD [])) (Classical.propDecidable _) (some ((l[i]?).getD [], i + 1, e)) none) = some (w, s)
    rw [if_pos c, h1, h3]
theorem p_h_mo (hK : p_kn K K2 l) {st : p_S} {r : Wt × Nat × Nat} (h : p_h K l st = some r) : p_h K2 l st = some r := by
  cases st with
  | none => exact h
  | some s =>
    obtain ⟨i, e⟩ := s
    have h : (if i < e ∧ (l[i]?).getD [] = w_by 0 then some ([], i + 1, e) else p_t K 1 l (some (i, e))) = some r := h
    show (if i < e ∧ (l[i]?).getD [] = w_by 0 then some ([], i + 1, e) else p_t K2 1 l (some (i, e))) = some r
    by_cases c : i < e ∧ (l[i]?).getD [] = w_by 0
    · rw [if_pos c] at h ⊢; exact h
    · rw [if_neg c] at h ⊢; exact p_t_mo hK h
theorem p_lf_mo (hK : p_kn K K2 l) {src : Int} {st : p_S} {r : p_L × Nat × Nat} (h : p_lf K src l st = some r) : p_lf K2 src l st = some r := by
  unfold p_lf at h ⊢
  refine o_bind (fun _ h => h) (fun m y h => ?_) h
  refine o_bind (fun _ h => p_t_mo hK h) (fun k y h => ?_) h
  refine o_bind (fun _ h => p_t_mo hK h) (fun p y h => ?_) h
  refine o_bind (fun _ h => h) (fun so y h => ?_) h
  by_cases c : so.1 < 1 ∨ 3 < so.1 ∨ (0 < src ∧ so.1 ≠ src)
  · rw [if_pos c] at h; cases h
  · rw [if_neg c] at h ⊢
    refine o_bind (fun x hx => ?_) (fun ph y h => o_map (fun _ h => p_t_mo hK h) h) h
    by_cases c3 : so.1 = 3
    · rw [if_pos c3] at hx ⊢; exact p_h_mo hK hx
    · rw [if_neg c3] at hx ⊢; exact hx
theorem p_pk_mo (hK : p_kn K K2 l) {st : p_S} {r : (Wt × p_L × Wt) × Nat × Nat} (h : p_pk K l st = some r) : p_pk K2 l st = some r := by
  unfold p_pk at h ⊢
  refine o_bind (fun _ h => h) (fun a y h => ?_) h
  by_cases c : a.1 ≠ 1
  · rw [if_pos c] at h; cases h
  · rw [if_neg c] at h ⊢
    exact o_bind (fun _ h => p_t_mo hK h) (fun ik y h => o_bind (fun _ h => p_lf_mo hK h) (fun lf y h => o_map (fun _ h => p_t_mo hK h) h) h) h
theorem p_ct_mo (hK : p_kn K K2 l) {st : p_S} {r : p_C × Nat × Nat} (h : p_ct K l st = some r) : p_ct K2 l st = some r := by
  unfold p_ct at h ⊢
  refine o_bind (fun _ h => h) (fun a y h => ?_) h
  by_cases c1 : a.1 = 1
  · rw [if_pos c1] at h ⊢
    unfold p_add at h ⊢
    refine o_bind (fun _ h => h) (fun ro y h => ?_) h
    exact o_bind (fun _ h => p_pk_mo hK h) (fun pk y h => h) h
  · rw [if_neg c1] at h ⊢
    by_cases c2 : a.1 = 2
    · rw [if_pos c2] at h ⊢
      exact o_map (fun _ h => p_lf_mo hK h) h
    · rw [if_neg c2] at h ⊢
      exact h
section
variable {I J : sr_V} {nn nm us : Nat} {tl tl' mk mm : List Wt} {L : List w_Ch} {Kj : Wt → Prop}
/-- what reading finds known now -/
def m_kj (J : sr_V) (mm : List Wt) (w : Wt) : Prop := ∀ t, w_at mm t w → J 16 t.toNat = 1
/-- the list stays where a message is kept -/
theorem m_li_kn (h : m_li I mk K L) (hJ : m_L J mm nm Kj tl') (hl : w_le mk mm) (e26 : ∀ k : Nat, (k : Int) < I 1000 23 → J 26 k = I 26 k) (e23 : I 1000 23 ≤ J 1000 23 ∧ J 1000 23 ≤ 400000) (e76 : J 1000 76 = I 1000 76) (ef : ∀ f, 77 ≤ f → f ≤ 82 → J f = I f) (e16 : ∀ t, (J 16 t = 0 ∨ J 16 t = 1) ∧ (I 16 t = 1 → J 16 t = 1)) : m_li J mm (m_kj J mm) L := by
  unfold m_li at h ⊢
  rw [e76]
  refine ⟨h.1, h.2.1, by omega, fun k c hk => ?_⟩
  obtain ⟨⟨fr, l, i, e, s, t1, t2, t3, t4, t5⟩, r2, r3, r4, r5, r6, r7, r8⟩ := h.2.2.2 k c hk
  unfold m_le
  rw [ef 77 (by omega) (by omega), ef 78 (by omega) (by omega), ef 79 (by omega) (by omega), ef 80 (by omega) (by omega), ef 81 (by omega) (by omega), ef 82 (by omega) (by omega)]
  have nd := m_L_nd hJ
  have at26 : ∀ j, j < l.length → J 26 (fr + j) = I 26 (fr + j) := fun j hj => e26 _ (by omega)
  have ha : m_at mm.length (w_d mm) (J 26) fr l := m_at_cg (m_at_le t1.1 hl) (fun j hj => at26 j hj)
  have tw : ∀ j, j < l.length → 256 ≤ J 26 (fr + j) → w_at mm (J 26 (fr + j) - 256) ((l[j]?).getD []) := fun j hj h256 => by
    obtain ⟨v, ev⟩ := ha j _ (w_get hj)
    unfold m_vs at v
    have := w_at_of (mk := mm) (x := J 26 (fr + j) - 256) (by omega) (by omega)
    unfold w_sg at ev
    rw [if_neg (by omega)] at ev
    rw [ev] at this
    exact this
  have kn : p_kn K (m_kj J mm) l := fun j hK t ht => by
    by_cases hj : j < l.length
    · by_cases h256 : 256 ≤ J 26 (fr + j)
      · have a1 := tw j hj h256
        have et := w_at_inj nd ht a1
        rw [et]
        have k2 := (t1.2.2.2.2 j hj (by rw [← at26 j hj]; exact h256)).2.mpr hK
        rw [← at26 j hj] at k2
        exact (e16 _).2 k2
      · obtain ⟨v, ev⟩ := ha j _ (w_get hj)
        exfalso
        have h1 : ((l[j]?).getD []).head? = some 1000 := by rw [← ev]; exact w_by_head _ _ (by omega)
        have h2 := w_at_le ht
        obtain ⟨va, _, _, _, _, hd, hn⟩ := hJ.1.2.2.2.2.1 t.toNat (by omega) (by have := hJ.2.2.2.1; omega)
        have v1 := va.2.1
        have h3 := w_at_d ht
        rw [← h3] at h1
        by_cases c8 : J 6 t.toNat = 8
        · obtain ⟨i', _, hi'⟩ := hn c8
          rw [hi'] at h1
          cases h1
        · rw [hd c8] at h1
          have h1 : some (J 6 t.toNat).toNat = some 1000 := h1
          have := Option.some.inj h1
          omega
    · rw [List.getElem?_eq_none (by omega)] at ht
      have h2 := w_at_le ht
      obtain ⟨va, _, _, _, _, hd, hn⟩ := hJ.1.2.2.2.2.1 t.toNat (by omega) (by have := hJ.2.2.2.1; omega)
      have h3 := w_at_d ht
      exfalso
      by_cases c8 : J 6 t.toNat = 8
      · obtain ⟨i', _, hi'⟩ := hn c8
        rw [hi'] at h3
        cases h3
      · rw [hd c8] at h3
        cases h3
  have tk : m_tk J mm (m_kj J mm) fr l := by
    refine ⟨ha, t1.2.1, ?_, fun t h1 h2 => ?_, fun j hj h256 => ⟨(e16 _).1, ?_⟩⟩
    · have := hJ.1.2.1; have := hJ.2.2.2.1; omega
    · obtain ⟨va, _, _, _, _, hd, hn⟩ := hJ.1.2.2.2.2.1 t h1 (by have := hJ.2.2.2.1; omega)
      have v0 := va.1
      have v1 := va.2.1
      refine ⟨?_, v0, v1⟩
      by_cases c : J 6 t = 8
      · obtain ⟨i', _, hi'⟩ := hn c
        rw [hi', c]
        rfl
      · rw [hd c]
        rfl
    · have a1 := tw j hj h256
      constructor
      · intro h1 t ht
        rw [w_at_inj nd ht a1]
        exact h1
      · intro h1
        exact h1 _ a1
  exact ⟨⟨fr, l, i, e, s, tk, by omega, t3, p_ct_mo kn t4, t5⟩, r2, r3, r4, r5, r6, w_le_az hl r7, r8⟩
end
variable {I J : sr_V} {Q : Int → sr_V → Prop} {x k : Nat}
theorem w_h_ab : ∀ l : Fin 16, ∀ h : Fin 5, w_h (t_ab l.val h.val) = h.val ∧ t_ab l.val h.val < 32 := by decide +kernel
theorem r_ib_4 {p : Nat} (hx : x < 31) (hp : p < 16) (h4 : w_h x ≤ 4) (q1 : t_ab p (w_h x) = x → Q 1 I) (q0 : t_ab p (w_h x) ≠ x → Q 0 I) : ∀ (n h : Nat), h ≤ w_h x → w_h x - h < n → t_ab p h < 31 → (∀ j, j ≤ w_h x → t_ab p j < 31) → rl_205_4 Q n x ((t_ab p h : Nat) : Int) I
  | 0, _, _, hn, _, _ => by omega
  | n + 1, h, hh, hn, h31, hall => by
    have e1 : w_h (t_ab p h) = h := (w_h_ab ⟨p, hp⟩ ⟨h, by omega⟩).1
    unfold rl_205_4
    refine r_height h31 ?_
    intro _
    refine r_height hx ?_
    intro _
    rw [e1]
    refine ⟨fun c => ?_, fun c => ?_⟩
    · have eh : h = w_h x := by omega
      subst eh
      exact ⟨fun cc => q0 (fun e => cc (by rw [e])), fun cc => q1 (by omega)⟩
    · refine r_above hp (by omega) ?_
      intro _
      exact r_ib_4 hx hp h4 q1 q0 n (h + 1) (by omega) (by omega) (hall _ (by omega)) hall
theorem r_isBelow {p : Nat} (hx : x < 31) (hp : p < 16) (h4 : w_h x ≤ 4) (hall : ∀ j, j ≤ w_h x → t_ab p j < 31) (q1 : t_ab p (w_h x) = x → Q 1 I) (q0 : t_ab p (w_h x) ≠ x → Q 0 I) : rm_205 x p I Q := by
  unfold rm_205
  intro y e
  rw [sw_2k (by omega), ← t_ab_0] at e
  subst e
  exact ⟨w_h x + 1, r_ib_4 hx hp h4 q1 q0 _ 0 (by omega) (by omega) (hall 0 (by omega)) hall⟩
end
