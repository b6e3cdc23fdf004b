/-! ===== SIGNED terms have few signs ===== -/
noncomputable section
section
variable {K : Wt → Prop} {l lm p tl tp mk mm : List Wt} {nn us m n i : Nat} {ms : List (List Wt)} {v w a b c : Wt} {C L : List w_Ch} {Pt : List (List Wt × Wt × Wt)} {G : w_G} {T : w_T} {kd of wp z : Int} {B : Nat → v_M} {S : Wt → Prop}
def b_7 (v : Wt) : Prop := v.head? = some 7 → w_sz v ≤ 350
theorem b_7_t {s : Nat} (h : s ≠ 7) : b_7 (w_t s a b c l) := fun e => absurd (Option.some.inj e) h
theorem b_7_l (h : l.length ≤ 350) : b_7 (w_t 7 a b c l) := fun _ => by rw [b_sz]; exact h
theorem b_7_n : b_7 (w_nm i) := fun e => absurd (Option.some.inj (show some 8 = some 7 from e)) (by decide)
theorem b_7_th {x : Nat} {wo : Int} : b_7 (w_th T wo x) := by
  unfold w_th
  obtain ⟨h, e⟩ : ∃ h, w_h x = h := ⟨_, rfl⟩
  rw [e]
  cases h with
  | zero => exact b_7_t (by decide)
  | succ h => exact b_7_t (by decide)
theorem b_7_ls {l : Nat} : ∀ k, b_7 (t_ls T l (w_nm i) k)
  | 0 => fun e => by cases e
  | k + 1 => by
    have ih := b_7_ls (l := l) k
    unfold t_ls
    split
    · exact ih
    · split
      · exact b_7_n
      · exact b_7_t (by decide)
theorem b_7_mw {C : Nat → Int} {l : Nat} (h : t_mw C T l v) : b_7 v := by
  obtain ⟨_, _, _, e | ⟨_, _, e⟩⟩ := h <;> subst e
  · exact b_7_t (by decide)
  · exact b_7_th
theorem b_7_or {L : List Nat} {wo : Int} (h : ∃ y ∈ L, v = w_th T wo y) : b_7 v := by
  obtain ⟨_, _, e⟩ := h
  subst e
  exact b_7_th
theorem b_lh (m : Int) (k p : Wt) (so : Int) (ph : Wt) : (w_lh m k p so ph).length ≤ 6 := by
  unfold w_lh
  split
  · exact Nat.le_refl _
  · exact (by decide : (5 : Nat) ≤ 6)
theorem b_lsgn {k ph : Wt} {so le : Int} {m : Nat} : w_sz (w_lsg m k so ph le) ≤ 8 := by
  unfold w_lsg
  rw [b_sz, List.length_append]
  have h1 := b_lh m k (w_pub m) so ph
  have h2 : ((if 1 < so then w_b16 le else []) : List Wt).length ≤ 2 := by
    split
    · exact Nat.le_refl _
    · exact Nat.zero_le _
  omega
theorem b_7_lsg {k ph : Wt} {so le : Int} {m : Nat} : b_7 (w_lsg m k so ph le) := fun _ => by
  have := b_lsgn (m := m) (k := k) (so := so) (ph := ph) (le := le)
  omega
theorem b_7_cr (h : v ∈ w_crL m nn) : b_7 v := by
  unfold w_crL at h
  simp only [List.mem_append, List.mem_cons, List.not_mem_nil, or_false, List.mem_map] at h
  rcases h with ((e | e | e | e) | ⟨y, _, e⟩) | e | e | e | e <;> subst e
  · exact b_7_n
  · exact b_7_t (by decide)
  · exact b_7_lsg
  · exact b_7_n
  · exact b_7_th
  · exact b_7_t (by decide)
  · exact b_7_t (by decide)
  · exact b_7_t (by decide)
  · exact b_7_t (by decide)
theorem b_pkbn {ik ky : Wt} : (w_pkb m ik ky).length = 8 := rfl
theorem b_7_of (h : v ∈ w_ofL m nn ++ w_ofC m nn) : b_7 v := by
  unfold w_ofL w_ofC at h
  simp only [List.mem_append, List.mem_cons, List.not_mem_nil, or_false] at h
  rcases h with (e | e | e | e | e | e) | e | e | e | e | e | e | e <;> subst e
  · exact b_7_n
  · exact b_7_n
  · exact b_7_t (by decide)
  · exact b_7_t (by decide)
  · exact b_7_lsg
  · exact b_7_l (by rw [b_pkbn]; decide)
  · exact b_7_n
  · exact b_7_n
  · exact b_7_t (by decide)
  · exact b_7_lsg
  · exact b_7_t (by decide)
  · exact b_7_l (by rw [b_pkbn]; decide)
  · exact b_7_t (by decide)
theorem b_prC (h : kd = 1 → l.length = 9) : (w_prC m nn G kd of l).length ≤ 11 := by
  unfold w_prC
  split
  · rename_i c
    rw [List.length_append, h c]
    exact Nat.le_refl _
  · split
    · exact (by decide : (6 : Nat) ≤ 11)
    · exact (by decide : (2 : Nat) ≤ 11)
theorem b_prB (h : kd = 1 → l.length = 9) : (w_prB G kd (w_prC m nn G kd of l)).length ≤ 19 := by
  have := b_prC (m := m) (nn := nn) (G := G) (of := of) h
  unfold w_prB
  rw [List.length_cons, List.length_append, List.length_append, List.length_cons]
  have e1 : (w_b32 (gg_ep G)).length = 4 := rfl
  have e2 : (w_b16 (gg_lf G)).length = 2 := rfl
  omega
theorem b_7_pr (hl : kd = 1 → l.length = 9) (h : v ∈ w_prA m nn G kd of l) : b_7 v := by
  have bl := b_prB (m := m) (nn := nn) (G := G) (of := of) hl
  unfold w_prA w_prE w_prP at h
  rw [List.mem_append] at h
  rcases h with h | h
  · split at h
    · simp only [List.mem_cons, List.not_mem_nil, or_false] at h
      rcases h with e | e | e <;> subst e
      · exact b_7_n
      · exact b_7_t (by decide)
      · exact b_7_lsg
    · cases h
  · simp only [List.mem_cons, List.not_mem_nil, or_false] at h
    rcases h with e | e | e | e <;> subst e
    · exact b_7_l (by rw [List.length_append, w_cx_len]; omega)
    · exact b_7_t (by decide)
    · exact b_7_t (by decide)
    · exact b_7_t (by decide)
theorem b_7_cm (hlt : (k_lt G m nn wp L).length ≤ 341) (hin : (w_inf (k_G G m nn wp L) (k_cm G m nn wp L)).length ≤ 342) (h : k_S G m nn wp L v) : b_7 v := by
  rcases h with ⟨_, h⟩ | h | ⟨p, j, c, _, _, h⟩ | e
  · rcases h with e | e | h | e | h | e | ⟨k, _, _, y, _, e⟩
    · subst e; exact b_7_n
    · subst e; exact b_7_t (by decide)
    · obtain ⟨j, _, _, e | e | e⟩ := h <;> subst e
      · exact b_7_ls _
      · exact b_7_t (by decide)
      · exact b_7_t (by decide)
    · subst e; exact b_7_t (by decide)
    · exact b_7_mw h
    · subst e; exact b_7_lsg
    · subst e; exact b_7_t (by decide)
  · rcases h with e | e | e | e | e | e | e | e | e | e | h
    · subst e; exact b_7_l (by rw [List.length_append, w_cx_len]; omega)
    · subst e; exact b_7_t (by decide)
    · subst e; exact b_7_t (by decide)
    · subst e; exact b_7_t (by decide)
    · subst e; exact b_7_t (by decide)
    · subst e; exact b_7_t (by decide)
    · subst e; exact b_7_t (by decide)
    · subst e; exact b_7_t (by decide)
    · subst e; exact b_7_t (by decide)
    · subst e; exact b_7_t (by decide)
    · exact b_7_or h
  · unfold w_w1 at h
    simp only [List.mem_cons, List.not_mem_nil, or_false] at h
    rcases h with e | e <;> subst e
    · exact b_7_t (by decide)
    · exact b_7_t (by decide)
  · subst e; exact b_7_l (by omega)
theorem b_7_eS {cs : Wt} (h : d_eS G T cs lm v) : b_7 v := by
  rcases h with e | e | e | e | e | e | e | h
  · subst e; exact b_7_t (by decide)
  · subst e; exact b_7_t (by decide)
  · subst e; exact b_7_t (by decide)
  · subst e; exact b_7_t (by decide)
  · subst e; exact b_7_t (by decide)
  · subst e; exact b_7_t (by decide)
  · subst e; exact b_7_t (by decide)
  · exact b_7_or h
theorem b_7_dl {x : v_M} (h : v_dS K x C Pt lm v) : b_7 v := by
  rcases h with ⟨_, e | e⟩ | ⟨_, _, e | ⟨ep, sd, b, e1, es, pt, sg, cf, tg, _, _, _, _, _, h⟩⟩ | ⟨_, ⟨e, _, h⟩ | ⟨ep, b, e1, prs, th, cf, sd, ns, cm, sg, _, h⟩⟩
  · subst e; exact b_7_t (by decide)
  · subst e; exact b_7_t (by decide)
  · subst e; exact b_7_t (by decide)
  · cases pt with
    | none => exact b_7_eS h
    | some pp =>
      obtain ⟨f, ns⟩ := pp
      rcases h with h | ⟨j, _, _, _, e | e | e⟩ | h
      · exact b_7_mw h
      · subst e; exact b_7_t (by decide)
      · subst e; exact b_7_t (by decide)
      · subst e; exact b_7_t (by decide)
      · exact b_7_eS h
  · subst h; exact b_7_t (by decide)
  · rcases h with h | ⟨_, x, o, _, _, _, _, _, e | h⟩ | ⟨_, l, _, _, e⟩ | ⟨_, _, _, _, _, e | ⟨a, jn, sc, L, _, _, _, l, _, _, _, _, _, e | e | e | e | ⟨j, _, _, _, e | e | e⟩⟩⟩
    · exact b_7_or h
    · subst e; exact b_7_t (by decide)
    · exact b_7_or h
    · subst e; exact b_7_lsg
    · subst e; exact b_7_t (by decide)
    · subst e; exact b_7_t (by decide)
    · subst e; exact b_7_t (by decide)
    · subst e; exact b_7_t (by decide)
    · subst e; exact b_7_t (by decide)
    · subst e; exact b_7_t (by decide)
    · subst e; exact b_7_t (by decide)
    · subst e; exact b_7_t (by decide)
/-- the small calls -/
theorem b_crL : (w_crL m nn).length ≤ 55 ∧ b_tot (w_crL m nn) ≤ 700 := by
  have e : (w_ordk (w_h (t_top (w_T0 m (w_ky nn)))) (t_top (w_T0 m (w_ky nn))) (w_h (t_top (w_T0 m (w_ky nn))) + 1) 0) = [0] := rfl
  unfold w_crL
  rw [e]
  refine ⟨(by show (9 : Nat) ≤ 55; decide), ?_⟩
  have h1 := b_th (w_T0 m (w_ky nn)) 0 0
  have h2 := b_lsgn (m := m) (k := w_ky nn) (so := 1) (ph := []) (le := 0)
  have h3 : w_sz (w_es0 m nn) = 6 := b_sz 3 _ _ _ _
  have h4 : w_sz (w_cfm (w_es0 m nn) []) = 1 := b_sz 2 _ _ _ _
  have h5 : w_sz (w_int [] (w_cfm (w_es0 m nn) [])) = 2 := b_sz 1 _ _ _ _
  have h6 : w_sz (w_ky nn) = 0 := b_sz 5 _ _ _ _
  have h7 : w_sz (w_t 3 (w_es0 m nn) [2] [] []) = 0 := b_sz 3 _ _ _ _
  have h8 := w_sz_nm nn
  have h9 := w_sz_nm (nn + 1)
  rw [if_pos rfl] at h1
  unfold b_tot
  simp only [List.map_cons, List.map_nil, List.map_append, List.sum_append, List.sum_cons, List.sum_nil]
  omega
theorem b_ofL : (w_ofL m nn ++ w_ofC m nn).length ≤ 13 ∧ b_tot (w_ofL m nn ++ w_ofC m nn) ≤ 100 := by
  refine ⟨(by show (13 : Nat) ≤ 13; decide), ?_⟩
  have h2 := b_lsgn (m := m) (k := w_ky (nn + 1)) (so := 1) (ph := []) (le := 0)
  have h3 : w_sz (w_t 7 (w_nm m) [] [] (w_pkb m (w_ky nn) (w_ky (nn + 1)))) = 8 := b_sz 7 _ _ _ _
  have h4 : w_sz (w_t 1 [] [] [] (w_pkg m (w_ky nn) (w_ky (nn + 1)))) = 9 := b_sz 1 _ _ _ _
  have h6 : w_sz (w_ky nn) = 0 := b_sz 5 _ _ _ _
  have h7 : w_sz (w_ky (nn + 1)) = 0 := b_sz 5 _ _ _ _
  have h8 := w_sz_nm nn
  have h9 := w_sz_nm (nn + 1)
  unfold w_ofL w_ofC b_tot
  simp only [List.map_cons, List.map_nil, List.map_append, List.sum_append, List.sum_cons, List.sum_nil]
  omega
theorem b_prA (x : Nat) (h : (w_prB G kd (w_prC m nn G kd of l)).length ≤ x) : (w_prA m nn G kd of l).length ≤ 7 ∧ b_tot (w_prA m nn G kd of l) ≤ 17 + 3 * x := by
  have h1 := w_sz_nm nn
  have h2 : w_sz (w_ky nn) = 0 := b_sz 5 _ _ _ _
  have h3 := b_lsgn (m := m) (k := w_ky nn) (so := 2) (ph := []) (le := (gg_lf G : Int))
  have h4 : w_sz (w_prS G m (w_prB G kd (w_prC m nn G kd of l))) ≤ x + 6 := by
    unfold w_prS
    rw [b_sz, List.length_append, w_cx_len]
    omega
  have h5 : w_sz (w_mem G) = 0 := b_sz 3 _ _ _ _
  have h6 : w_sz (w_prT G m (w_prB G kd (w_prC m nn G kd of l))) ≤ x + 1 := by
    unfold w_prT
    rw [b_sz, List.length_append, List.length_singleton]
    omega
  have h7 : w_sz (w_hs (w_prM G m (w_prB G kd (w_prC m nn G kd of l)))) ≤ x + 2 := by
    unfold w_hs w_prM
    rw [b_sz, List.length_append, List.length_append, List.length_singleton, List.length_singleton]
    omega
  unfold w_prA w_prE w_prP b_tot
  split
  · refine ⟨by rw [List.length_append]; exact Nat.le_refl _, ?_⟩
    simp only [List.map_cons, List.map_nil, List.map_append, List.sum_append, List.sum_cons, List.sum_nil]
    omega
  · refine ⟨(by show (4 : Nat) ≤ 7; decide), ?_⟩
    simp only [List.map_cons, List.map_nil, List.map_append, List.sum_append, List.sum_cons, List.sum_nil]
    omega
end
end
