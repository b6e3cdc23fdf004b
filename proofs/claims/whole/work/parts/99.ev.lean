/-! ===== what the class asks of changes is what the reference asks ===== -/
noncomputable section
variable {T T0 T' : w_T} {L P : List w_Ch} {c d : w_Ch} {k l m n : Nat} {com : Int} {R : Nat → Prop} {f : p_L}
theorem h_nd_iff : ∀ {ks : List Wt}, h_nd ks ↔ ks.Nodup
  | [] => ⟨fun _ => List.nodup_nil, fun _ a b _ h => by simp at h⟩
  | x :: xs => by
    rw [List.nodup_cons, ← h_nd_iff (ks := xs)]
    constructor
    · intro h
      refine ⟨fun hm => ?_, fun a b hb ha => ?_⟩
      · obtain ⟨i, hi⟩ := List.mem_iff_getElem?.mp hm
        have hl : i < xs.length := (List.getElem?_eq_some_iff.mp hi).1
        refine h (i + 1) 0 (by omega) (by rw [List.length_cons]; omega) ?_
        rw [List.getElem?_cons_succ, hi, List.getElem?_cons_zero]
      · have := h (a + 1) (b + 1) (by omega) (by rw [List.length_cons]; omega)
        rw [List.getElem?_cons_succ, List.getElem?_cons_succ] at this
        exact this
    · rintro ⟨h1, h2⟩ a b hb ha
      rw [List.length_cons] at ha
      obtain ⟨a', rfl⟩ : ∃ a', a = a' + 1 := ⟨a - 1, by omega⟩
      rw [List.getElem?_cons_succ]
      cases b with
      | zero =>
        rw [List.getElem?_cons_zero]
        intro c
        exact h1 (List.mem_of_getElem? c)
      | succ b =>
        rw [List.getElem?_cons_succ]
        exact h2 a' b (by omega) (by omega)
theorem t_bwn_ky (hk : k < 16) : ∀ n, n ≤ 4 → t_ky (t_bwn T k n) (2 * l) = t_ky T (2 * l)
  | 0, _ => rfl
  | n + 1, hn => by
    have := t_ab_o hk (h := n + 1) (by omega) hn
    show fu (t_ky (t_bwn T k n)) (t_ab k (n + 1)) [] (2 * l) = _
    rw [fu_ne (by omega)]
    exact t_bwn_ky hk n (by omega)
theorem t_bw_ky (hd : t_dp T ≤ 4) (hk : k < 16) : t_ky (t_bw T k) (2 * l) = t_ky T (2 * l) := t_bwn_ky hk _ hd
theorem h_hl_16 (hd : t_dp T ≤ 4) {g : Int} (h : h_hl T g) : g.toNat < 16 ∧ g = (g.toNat : Int) ∧ t_is T g.toNat := by
  have := t_d_16 hd
  obtain ⟨h1, h2, h3⟩ := h
  exact ⟨by omega, by omega, by omega, h3⟩
/-- UPDATEs, one behind another -/
theorem h_u_ky : ∀ (P : List w_Ch) {T : w_T}, t_dp T ≤ 4 → (∀ c ∈ P, c.1.1 = 2 → h_go c = ((h_go c).toNat : Int) ∧ (h_go c).toNat < 16) → P.Pairwise (fun a b => a.1.1 = 2 → b.1.1 = 2 → h_go a ≠ h_go b) → t_ky (P.foldl h_u1 T) (2 * l) = h_kb T P l
  | [], T, _, _, _ => rfl
  | c :: P, T, h4, hg, hp => by
    rw [List.pairwise_cons] at hp
    have ih := h_u_ky P (T := h_u1 T c) (by rw [h_u1_dp]; exact h4) (fun d hd2 => hg d (List.mem_cons_of_mem _ hd2)) hp.2
    rw [List.foldl_cons, ih]
    have same : ∀ (Q : List w_Ch) {A B : w_T}, (t_ky A (2 * l) = t_ky B (2 * l) ∨ ∃ q ∈ Q, q.1.1 = 2 ∧ h_go q = (l : Int)) → h_kb A Q l = h_kb B Q l := by
      intro Q
      induction Q with
      | nil =>
        intro A B h
        rcases h with h | ⟨q, hq, _⟩
        · exact h
        · cases hq
      | cons q Q ihq =>
        intro A B h
        unfold h_kb
        by_cases c2 : q.1.1 = 2 ∧ h_go q = (l : Int)
        · rw [if_pos c2, if_pos c2]
        · rw [if_neg c2, if_neg c2]
          refine ihq (h.elim Or.inl (fun ⟨q', hq, h2⟩ => ?_))
          rcases List.mem_cons.mp hq with e | e
          · subst e; exact absurd h2 c2
          · exact Or.inr ⟨q', e, h2⟩
    have none : ∀ (Q : List w_Ch) {A : w_T}, (∀ q ∈ Q, ¬ (q.1.1 = 2 ∧ h_go q = (l : Int))) → h_kb A Q l = t_ky A (2 * l) := by
      intro Q
      induction Q with
      | nil => intro A _; rfl
      | cons q Q ihq =>
        intro A h
        unfold h_kb
        rw [if_neg (h q (List.mem_cons_self ..))]
        exact ihq (fun q' hq => h q' (List.mem_cons_of_mem _ hq))
    show _ = if c.1.1 = 2 ∧ h_go c = (l : Int) then (h_lf c).2.1 else h_kb T P l
    by_cases c2 : c.1.1 = 2 ∧ h_go c = (l : Int)
    · rw [if_pos c2, none P (fun q hq hc => hp.1 q hq c2.1 hc.1 (by rw [c2.2, hc.2]))]
      have h16 := (hg c (List.mem_cons_self ..) c2.1).2
      unfold h_u1
      rw [if_pos c2.1, t_bw_ky (by exact h4) h16]
      show fu (t_ky T) (2 * (h_go c).toNat) (h_lf c).2.1 (2 * l) = _
      rw [show 2 * (h_go c).toNat = 2 * l by rw [c2.2, Int.toNat_natCast], fu_eq]
    · rw [if_neg c2]
      refine same P (Or.inl ?_)
      unfold h_u1
      by_cases c3 : c.1.1 = 2
      · obtain ⟨g1, g2⟩ := hg c (List.mem_cons_self ..) c3
        rw [if_pos c3, t_bw_ky (by exact h4) g2]
        show fu (t_ky T) (2 * (h_go c).toNat) (h_lf c).2.1 (2 * l) = _
        rw [fu_ne (fun e => c2 ⟨c3, by omega⟩)]
      · rw [if_neg c3]
/-- REMOVEs, one behind another -/
theorem h_r_ky : ∀ (P : List w_Ch) {T : w_T}, t_dp T ≤ 4 → (∀ c ∈ P, c.1.1 = 3 → h_go c = ((h_go c).toNat : Int) ∧ (h_go c).toNat < 16) → (h_rm P (l : Int) → t_ky (P.foldl h_r1 T) (2 * l) = []) ∧ (¬ h_rm P (l : Int) → t_ky (P.foldl h_r1 T) (2 * l) = t_ky T (2 * l))
  | [], T, _, _ => ⟨fun h => (by obtain ⟨c, hc, _⟩ := h; cases hc), fun _ => rfl⟩
  | c :: P, T, h4, hg => by
    obtain ⟨i1, i2⟩ := h_r_ky P (T := h_r1 T c) (by rw [h_r1_dp]; exact h4) (fun d hd2 => hg d (List.mem_cons_of_mem _ hd2))
    rw [List.foldl_cons]
    have e1 : c.1.1 = 3 ∧ h_go c = (l : Int) → t_ky (h_r1 T c) (2 * l) = [] := fun c2 => by
      have h16 := (hg c (List.mem_cons_self ..) c2.1).2
      unfold h_r1
      rw [if_pos c2.1, t_bw_ky (by exact h4) h16]
      show fu (t_ky T) (2 * (h_go c).toNat) [] (2 * l) = _
      rw [show 2 * (h_go c).toNat = 2 * l by rw [c2.2, Int.toNat_natCast], fu_eq]
    have e2 : ¬ (c.1.1 = 3 ∧ h_go c = (l : Int)) → t_ky (h_r1 T c) (2 * l) = t_ky T (2 * l) := fun c2 => by
      unfold h_r1
      by_cases c3 : c.1.1 = 3
      · obtain ⟨g1, g2⟩ := hg c (List.mem_cons_self ..) c3
        rw [if_pos c3, t_bw_ky (by exact h4) g2]
        show fu (t_ky T) (2 * (h_go c).toNat) [] (2 * l) = _
        rw [fu_ne (fun e => c2 ⟨c3, by omega⟩)]
      · rw [if_neg c3]
    by_cases hr : h_rm P (l : Int)
    · exact ⟨fun _ => i1 hr, fun h => absurd (by obtain ⟨q, hq, h2⟩ := hr; exact ⟨q, List.mem_cons_of_mem _ hq, h2⟩) h⟩
    · rw [i2 hr]
      refine ⟨fun h => ?_, fun h => e2 (fun c2 => h ⟨c, List.mem_cons_self .., c2⟩)⟩
      obtain ⟨q, hq, h2⟩ := h
      rcases List.mem_cons.mp hq with e | e
      · subst e; exact e1 h2
      · exact absurd ⟨q, e, h2⟩ hr
theorem t_shn_is : ∀ n {T : w_T}, t_is (t_shn n T) l ↔ t_is T l
  | 0, _ => Iff.rfl
  | n + 1, T => by
    unfold t_shn
    by_cases c : 0 < t_dp T ∧ t_rb T
    · rw [if_pos c, t_shn_is n]
      have ek : t_ky (t_lo T) = t_ky T := rfl
      have ed : t_dp (t_lo T) = t_dp T - 1 := rfl
      have e2 : 2 ^ t_dp T = 2 ^ (t_dp T - 1) * 2 := by rw [← Nat.pow_succ]; congr 1; omega
      constructor
      · rintro ⟨h1, h2⟩
        rw [ed] at h1
        exact ⟨by omega, h2⟩
      · rintro ⟨h1, h2⟩
        refine ⟨?_, h2⟩
        rw [ed]
        rcases Nat.lt_or_ge l (2 ^ (t_dp T - 1)) with g | g
        · exact g
        · exact absurd (c.2 l g h1) h2
    · rw [if_neg c]
theorem h_pw {q : w_Ch → Prop} (h : ∀ (j : Nat) (c : w_Ch), L[j]? = some c → q c → ∀ d ∈ L.take j, q d → h_go d ≠ h_go c) : L.Pairwise (fun a b => q a → q b → h_go a ≠ h_go b) := by
  rw [List.pairwise_iff_getElem]
  intro i j hi hj hij qa qb
  exact h j _ (List.getElem?_eq_getElem hj) qb _ (h_tk_mem.mpr ⟨i, hij, List.getElem?_eq_getElem hi⟩) qa
end
