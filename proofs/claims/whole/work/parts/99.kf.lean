/-! ===== PUBLIC terms have no signs; what is had of messages ===== -/
noncomputable section
section
variable {I : sr_V} {K : Wt → Prop} {l lm p tl tp mk mm : List Wt} {nn us m n i : Nat} {ms : List (List Wt)} {v w a b c : Wt} {C L : List w_Ch} {Pt : List (List Wt × Wt × Wt)} {G : w_G} {T : w_T} {kd of wp z : Int} {rd : Nat → Int} {B : Nat → v_M} {S : Wt → Prop}
def w_g5 (v : Wt) : Prop := v.head? = some 5 → w_i5 v
theorem w_g5_t {s : Nat} (h : s ≠ 5) : w_g5 (w_t s a b c l) := fun e => absurd (Option.some.inj e) h
theorem w_g5_p : w_g5 (w_p5 a) := fun _ => ⟨a, rfl⟩
theorem w_g5_n : w_g5 (w_nm i) := fun e => absurd (Option.some.inj (show some 8 = some 5 from e)) (by decide)
theorem w_g5_th {x : Nat} {wo : Int} : w_g5 (w_th T wo x) := by
  unfold w_th
  obtain ⟨h, e⟩ : ∃ h, w_h x = h := ⟨_, rfl⟩
  rw [e]
  cases h with
  | zero => exact w_g5_t (by decide)
  | succ h => exact w_g5_t (by decide)
theorem w_g5_ls {l : Nat} : ∀ k, w_g5 (t_ls T l (w_nm i) k)
  | 0 => fun e => by cases e
  | k + 1 => by
    have ih := w_g5_ls (l := l) k
    unfold t_ls
    split
    · exact ih
    · split
      · exact w_g5_n
      · exact w_g5_t (by decide)
theorem w_g5_mw {C : Nat → Int} {l : Nat} (h : t_mw C T l v) : w_g5 v := by
  obtain ⟨_, _, _, e | ⟨_, _, e⟩⟩ := h <;> subst e
  · exact w_g5_t (by decide)
  · exact w_g5_th
theorem w_g5_ordk {L : List Nat} {wo : Int} (h : ∃ y ∈ L, v = w_th T wo y) : w_g5 v := by
  obtain ⟨_, _, e⟩ := h
  subst e
  exact w_g5_th
theorem w_g5_lsg {k ph : Wt} {so le : Int} {m : Nat} : w_g5 (w_lsg m k so ph le) := w_g5_t (by decide)
theorem w_g5_cr (h : v ∈ w_crL m nn) : w_g5 v := by
  unfold w_crL at h
  simp only [List.mem_append, List.mem_cons, List.not_mem_nil, or_false, List.mem_map] at h
  rcases h with ((e | e | e | e) | ⟨y, _, e⟩) | e | e | e | e <;> subst e
  · exact w_g5_n
  · exact w_g5_p
  · exact w_g5_lsg
  · exact w_g5_n
  · exact w_g5_th
  · exact w_g5_t (by decide)
  · exact w_g5_t (by decide)
  · exact w_g5_t (by decide)
  · exact w_g5_t (by decide)
theorem w_g5_of (h : v ∈ w_ofL m nn) : w_g5 v := by
  unfold w_ofL at h
  simp only [List.mem_cons, List.not_mem_nil, or_false] at h
  rcases h with e | e | e | e | e | e <;> subst e
  · exact w_g5_n
  · exact w_g5_n
  · exact w_g5_p
  · exact w_g5_p
  · exact w_g5_lsg
  · exact w_g5_t (by decide)
theorem w_g5_pr (h : v ∈ w_prA m nn G kd of l) : w_g5 v := by
  unfold w_prA w_prE w_prP at h
  rw [List.mem_append] at h
  rcases h with h | h
  · split at h
    · simp only [List.mem_cons, List.not_mem_nil, or_false] at h
      rcases h with e | e | e <;> subst e
      · exact w_g5_n
      · exact w_g5_p
      · exact w_g5_lsg
    · cases h
  · simp only [List.mem_cons, List.not_mem_nil, or_false] at h
    rcases h with e | e | e | e <;> subst e
    · exact w_g5_t (by decide)
    · exact w_g5_t (by decide)
    · exact w_g5_t (by decide)
    · exact w_g5_t (by decide)
theorem w_g5_cm (h : k_S G m nn wp L v) : w_g5 v := by
  rcases h with ⟨_, h⟩ | h | ⟨p, j, c, _, _, h⟩ | e
  · rcases h with e | e | h | e | h | e | ⟨k, _, _, y, _, e⟩
    · subst e; exact w_g5_n
    · subst e; exact w_g5_p
    · obtain ⟨j, _, _, e | e | e⟩ := h <;> subst e
      · exact w_g5_ls _
      · exact w_g5_t (by decide)
      · exact w_g5_p
    · subst e; exact w_g5_t (by decide)
    · exact w_g5_mw h
    · subst e; exact w_g5_lsg
    · subst e; exact w_g5_t (by decide)
  · rcases h with e | e | e | e | e | e | e | e | e | e | h
    · subst e; exact w_g5_t (by decide)
    · subst e; exact w_g5_t (by decide)
    · subst e; exact w_g5_t (by decide)
    · subst e; exact w_g5_t (by decide)
    · subst e; exact w_g5_t (by decide)
    · subst e; exact w_g5_t (by decide)
    · subst e; exact w_g5_t (by decide)
    · subst e; exact w_g5_t (by decide)
    · subst e; exact w_g5_t (by decide)
    · subst e; exact w_g5_t (by decide)
    · exact w_g5_ordk h
  · unfold w_w1 at h
    simp only [List.mem_cons, List.not_mem_nil, or_false] at h
    rcases h with e | e <;> subst e
    · exact w_g5_t (by decide)
    · exact w_g5_t (by decide)
  · subst e; exact w_g5_t (by decide)
theorem w_g5_eS {cs : Wt} (h : d_eS G T cs lm v) : w_g5 v := by
  rcases h with e | e | e | e | e | e | e | h
  · subst e; exact w_g5_t (by decide)
  · subst e; exact w_g5_t (by decide)
  · subst e; exact w_g5_t (by decide)
  · subst e; exact w_g5_t (by decide)
  · subst e; exact w_g5_t (by decide)
  · subst e; exact w_g5_t (by decide)
  · subst e; exact w_g5_t (by decide)
  · exact w_g5_ordk h
theorem w_g5_dl {x : v_M} (h : v_dS K x C Pt lm v) : w_g5 v := by
  rcases h with ⟨_, e | e⟩ | ⟨_, _, e | ⟨ep, sd, b, e1, es, pt, sg, cf, tg, _, _, _, _, _, h⟩⟩ | ⟨_, ⟨e, _, h⟩ | ⟨ep, b, e1, prs, th, cf, sd, ns, cm, sg, _, h⟩⟩
  · subst e; exact w_g5_t (by decide)
  · subst e; exact w_g5_t (by decide)
  · subst e; exact w_g5_t (by decide)
  · cases pt with
    | none => exact w_g5_eS h
    | some pp =>
      obtain ⟨f, ns⟩ := pp
      rcases h with h | ⟨j, _, _, _, e | e | e⟩ | h
      · exact w_g5_mw h
      · subst e; exact w_g5_t (by decide)
      · subst e; exact w_g5_p
      · subst e; exact w_g5_t (by decide)
      · exact w_g5_eS h
  · subst h; exact w_g5_t (by decide)
  · rcases h with h | ⟨_, x, o, _, _, _, _, _, e | h⟩ | ⟨_, l, _, _, e⟩ | ⟨_, _, _, _, _, e | ⟨a, jn, sc, L, _, _, _, l, _, _, _, _, _, e | e | e | e | ⟨j, _, _, _, e | e | e⟩⟩⟩
    · exact w_g5_ordk h
    · subst e; exact w_g5_t (by decide)
    · exact w_g5_ordk h
    · subst e; exact w_g5_lsg
    · subst e; exact w_g5_p
    · subst e; exact w_g5_t (by decide)
    · subst e; exact w_g5_t (by decide)
    · subst e; exact w_g5_t (by decide)
    · subst e; exact w_g5_t (by decide)
    · subst e; exact w_g5_t (by decide)
    · subst e; exact w_g5_p
    · subst e; exact w_g5_t (by decide)
/-- all PUBLIC terms are such -/
def w_m5 (mk : List Wt) : Prop := ∀ w ∈ mk, w_g5 w
theorem w_m5_mo (h : w_m5 mk) (hm : w_mo S mk mm) (hS : ∀ v, S v → w_g5 v) : w_m5 mm := fun w hw => (hm.2 w hw).elim (h w) (hS w)
theorem w_m5_tls (h : w_m5 mk) (hL : ∀ v ∈ l, w_g5 v) : w_m5 (w_tls mk l) := w_m5_mo (S := w_g5) h (w_mo_tls l hL) (fun _ h => h)
theorem w_g5_mkt {s : Int} {wa wb : Wt} (h0 : 0 ≤ s) : w_g5 (w_mkt s (if 1 < s then wa else []) (if s = 3 then [z.toNat] else if s = 4 ∨ s = 6 then wb else []) tp) := fun e => by
  have e : s.toNat = 5 := Option.some.inj e
  have e : s = 5 := by omega
  subst e
  exact ⟨wa, rfl⟩
/-- signs of messages are bytes or terms -/
theorem m_ZZ_mem (h : m_ZZ I mk us nn K tl tp rd ms B) (hp : p ∈ ms) (hw : w ∈ p) : (∃ b : Int, 0 ≤ b ∧ b < 256 ∧ w = w_by b) ∨ ∃ t : Int, w_at mk t w := by
  obtain ⟨i, hi⟩ := List.mem_iff_getElem?.mp hp
  obtain ⟨k, hk⟩ := List.mem_iff_getElem?.mp hw
  obtain ⟨_, _, _, _, a5⟩ := h.1.2.2.1.2.2.2.2 i p hi
  obtain ⟨v1, v2⟩ := a5 k w hk
  have e4 := h.1.1.2.2.2.1
  unfold w_sg at v2
  split at v2
  · next c => exact Or.inl ⟨_, v1.1, c, v2.symm⟩
  · next c =>
    right
    refine ⟨I 26 ((I 24 i).toNat + k) - 256, ?_⟩
    rw [← v2]
    exact w_at_of (by have := v1.2; omega) (by have := v1.2; omega)
theorem m_ZZ_vl (h : m_ZZ I mk us nn K tl tp rd ms B) : ∀ p ∈ ms, w_vl p := fun p hp i w hi hw => by
  rcases m_ZZ_mem h hp (List.mem_of_getElem? hi) with h1 | ⟨t, ht⟩
  · exact h1
  · exfalso
    obtain ⟨t1, t2, t3, rw', eg, _⟩ := m_L_rw h.1.1 ht
    obtain ⟨va, f0, f1, f2, hsn, hd, hn⟩ := rw'
    by_cases c8 : I 6 t.toNat = 8
    · obtain ⟨i, _, hi⟩ := hn c8
      rw [eg] at hi
      rw [hi] at hw
      exact absurd (Option.some.inj (show some 8 = some 1000 from hw)) (by decide)
    · have hd := hd c8
      rw [eg] at hd
      rw [hd] at hw
      have hw : (I 6 t.toNat).toNat = 1000 := Option.some.inj hw
      have := va.1
      have := va.2.1
      omega
theorem m_ZZ_x5 (h : m_ZZ I mk us nn K tl tp rd ms B) (h5 : w_m5 mk) : w_x5 ms := fun p hp w hw hd => by
  rcases m_ZZ_mem h hp hw with ⟨b, _, _, e⟩ | ⟨t, ht⟩
  · rw [e] at hd
    exact absurd (Option.some.inj (show some 1000 = some 5 from hd)) (by decide)
  · exact h5 w (List.mem_of_getElem? ht.2) hd
theorem m_ZZ_x6 (h : m_ZZ I mk us nn K tl tp rd ms B) (h5 : w_m5 mk) : ∀ p ∈ ms, w_x6 p := fun p hp w hw a b c L e => by
  rcases m_ZZ_mem h hp hw with ⟨b, _, _, e'⟩ | ⟨t, ht⟩
  · rw [e'] at e
    exact absurd (congrArg List.head? e) (by
      intro q
      exact absurd (Option.some.inj (show some 1000 = some 6 from q)) (by decide))
  · obtain ⟨t1, t2, t3, rw', eg, _⟩ := m_L_rw h.1.1 ht
    obtain ⟨va, f0, f1, f2, hsn, hd, hn⟩ := rw'
    have e4 := h.1.1.2.2.2.1
    have c8 : I 6 t.toNat ≠ 8 := fun c => by
      obtain ⟨i, _, hi⟩ := hn c
      rw [eg, e] at hi
      exact absurd (w_mk_inj hi).1 (by decide)
    have hd := hd c8
    rw [eg, e] at hd
    clear hn hsn
    obtain ⟨v0, v1, v2, v3, v4, v5, v6, _, v7, _, _, _, _, v8⟩ := va
    obtain ⟨q1, q2⟩ := w_mk_inj hd
    have v8 := v8 (by omega)
    simp only [List.cons.injEq] at q2
    have z7 := w_at_of (mk := mk) (x := I 7 t.toNat) (by omega) (by omega)
    have d7 : w_dz (w_d mk) (I 7 t.toNat) = w_d mk (I 7 t.toNat).toNat := by unfold w_dz; rw [if_neg (by omega)]
    rw [q2.1, d7]
    have z7' := z7
    refine h5 _ (List.mem_of_getElem? z7.2) ?_
    obtain ⟨s1, s2, s3, rw2, eg2, _⟩ := m_L_rw h.1.1 z7'
    obtain ⟨_, _, _, _, _, hd2, _⟩ := rw2
    have hd2 := hd2 (by rw [v8.2.1]; decide)
    rw [hd2, v8.2.1]
    rfl
theorem m_ZZ_fresh (h : m_ZZ I mk us nn K tl tp rd ms B) (hp : p ∈ ms) : w_p5 (w_nm nn) ∉ p := fun hw => by
  rcases m_ZZ_mem h hp hw with ⟨b, _, _, e⟩ | ⟨t, ht⟩
  · have := congrArg List.head? e
    exact absurd (Option.some.inj (show some 5 = some 1000 from this)) (by decide)
  · obtain ⟨t1, t2, t3, rw', eg, _⟩ := m_L_rw h.1.1 ht
    obtain ⟨va, f0, f1, f2, hsn, hd, hn⟩ := rw'
    have e4 := h.1.1.2.2.2.1
    have c8 : I 6 t.toNat ≠ 8 := fun c => by
      obtain ⟨i, _, hi⟩ := hn c
      rw [eg] at hi
      exact absurd (w_mk_inj hi).1 (by decide)
    have hd := hd c8
    rw [eg] at hd
    clear hn hsn
    obtain ⟨v0, v1, v2, v3, v4, v5, v6, _, v7, _, v8, _⟩ := va
    obtain ⟨q1, q2⟩ := w_mk_inj hd
    have v8 := v8 (by omega)
    simp only [List.cons.injEq] at q2
    have z7 := w_at_of (mk := mk) (x := I 7 t.toNat) (by omega) (by omega)
    have d7 : w_dz (w_d mk) (I 7 t.toNat) = w_d mk (I 7 t.toNat).toNat := by unfold w_dz; rw [if_neg (by omega)]
    rw [d7] at q2
    obtain ⟨s1, s2, s3, rw2, eg2, _⟩ := m_L_rw h.1.1 z7
    obtain ⟨va2, _, _, _, _, hd2, hn2⟩ := rw2
    rw [← q2.1] at hd2 hn2
    by_cases c : I 6 (I 7 t.toNat).toNat = 8
    · obtain ⟨i, ⟨i1, _⟩, hi⟩ := hn2 c
      have := (w_mk_inj hi).2
      simp only [List.cons.injEq, and_true] at this
      omega
    · have hd2 := hd2 c
      have x := (w_mk_inj hd2).1
      have x1 := va2.1
      omega
end
end
