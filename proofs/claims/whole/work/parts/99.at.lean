/-! ===== terms as one list: the term of number t is the t-th that was made ===== -/
noncomputable section
def w_d (mk : List Wt) (t : Nat) : Wt := if t = 0 then [] else (mk[t - 1]?).getD []
/-- the parts of a term -/
def w_pts (w : Wt) : List Wt := @dite (List Wt) (∃ s l, w = w_mk s l) (Classical.propDecidable _) (fun h => (Classical.choose_spec h).choose) (fun _ => [])
theorem w_pts_mk (s : Nat) (l : List Wt) : w_pts (w_mk s l) = l := by
  unfold w_pts
  have h : ∃ s' l', w_mk s l = w_mk s' l' := ⟨s, l, rfl⟩
  rw [dif_pos h]
  exact (w_mk_inj (Classical.choose_spec h).choose_spec).2.symm
/-- how many signs a term has -/
def w_sz (w : Wt) : Nat := (w_pts w).length - 3
def w_tot (mk : List Wt) : Nat := (mk.map w_sz).sum
theorem w_tot_snoc (mk : List Wt) (w : Wt) : w_tot (mk ++ [w]) = w_tot mk + w_sz w := by
  unfold w_tot
  rw [List.map_append, List.sum_append]
  simp
/-- x is the number of w -/
def w_at (mk : List Wt) (x : Int) (w : Wt) : Prop := 1 ≤ x ∧ mk[(x - 1).toNat]? = some w
/-- the same, 0 for none -/
def w_az (mk : List Wt) (x : Int) (w : Wt) : Prop := (x = 0 ∧ w = []) ∨ w_at mk x w
theorem w_at_app {mk l : List Wt} {x : Int} {w : Wt} (h : w_at mk x w) : w_at (mk ++ l) x w := by
  refine ⟨h.1, ?_⟩
  have := (List.getElem?_eq_some_iff.mp h.2).1
  rw [List.getElem?_append_left this]
  exact h.2
theorem w_az_app {mk l : List Wt} {x : Int} {w : Wt} (h : w_az mk x w) : w_az (mk ++ l) x w := by
  rcases h with h | h
  · exact Or.inl h
  · exact Or.inr (w_at_app h)
theorem w_at_le {mk : List Wt} {x : Int} {w : Wt} (h : w_at mk x w) : 1 ≤ x ∧ x ≤ mk.length := by
  have := (List.getElem?_eq_some_iff.mp h.2).1
  have := h.1
  omega
theorem w_at_d {mk : List Wt} {x : Int} {w : Wt} (h : w_at mk x w) : w_d mk x.toNat = w := by
  unfold w_d
  have h1 := h.1
  rw [if_neg (by omega), show x.toNat - 1 = (x - 1).toNat by omega, h.2]
  rfl
theorem w_at_of {mk : List Wt} {x : Int} (h1 : 1 ≤ x) (h2 : x ≤ mk.length) : w_at mk x (w_d mk x.toNat) := by
  refine ⟨h1, ?_⟩
  unfold w_d
  rw [if_neg (by omega), show x.toNat - 1 = (x - 1).toNat by omega]
  have h : (x - 1).toNat < mk.length := by omega
  rw [List.getElem?_eq_getElem h]
  rfl
theorem w_az_of {mk : List Wt} {x : Int} (h1 : 0 ≤ x) (h2 : x ≤ mk.length) : w_az mk x (w_dz (w_d mk) x) := by
  by_cases c : x = 0
  · exact Or.inl ⟨c, if_pos c⟩
  · refine Or.inr ?_
    rw [w_dz_pos (by omega)]
    exact w_at_of (by omega) h2
theorem w_az_le {mk : List Wt} {x : Int} {w : Wt} (h : w_az mk x w) : 0 ≤ x ∧ x ≤ mk.length := by
  rcases h with h | h
  · omega
  · have := w_at_le h
    omega
theorem w_az_dz {mk : List Wt} {x : Int} {w : Wt} (h : w_az mk x w) : w_dz (w_d mk) x = w := by
  rcases h with ⟨h1, h2⟩ | h
  · rw [h2]; exact if_pos h1
  · rw [w_dz_pos h.1]; exact w_at_d h
theorem w_at_inj {mk : List Wt} (nd : mk.Nodup) {x y : Int} {w : Wt} (h : w_at mk x w) (k : w_at mk y w) : x = y := by
  obtain ⟨h1, h2⟩ := h
  obtain ⟨k1, k2⟩ := k
  have a1 := (List.getElem?_eq_some_iff.mp h2).1
  have := (List.getElem?_inj a1 nd).mp (h2.trans k2.symm)
  omega
theorem w_tl_at {mk : List Wt} {w : Wt} : w ∈ w_tl mk w := by
  unfold w_tl
  split
  · assumption
  · simp
theorem w_tl_app (mk : List Wt) (w : Wt) : ∃ l, w_tl mk w = mk ++ l := by
  unfold w_tl
  split
  · exact ⟨[], by simp⟩
  · exact ⟨[w], rfl⟩
/-- a list that has grown -/
def w_le (mk mm : List Wt) : Prop := ∃ l, mm = mk ++ l
theorem w_le_refl (mk : List Wt) : w_le mk mk := ⟨[], by simp⟩
theorem w_le_trans {a b c : List Wt} (h : w_le a b) (k : w_le b c) : w_le a c := by
  obtain ⟨l, e⟩ := h
  obtain ⟨m, f⟩ := k
  exact ⟨l ++ m, by rw [f, e, List.append_assoc]⟩
theorem w_le_tl (mk : List Wt) (w : Wt) : w_le mk (w_tl mk w) := w_tl_app mk w
theorem w_le_at {mk mm : List Wt} (h : w_le mk mm) {x : Int} {w : Wt} (k : w_at mk x w) : w_at mm x w := by
  obtain ⟨l, e⟩ := h
  rw [e]; exact w_at_app k
theorem w_le_az {mk mm : List Wt} (h : w_le mk mm) {x : Int} {w : Wt} (k : w_az mk x w) : w_az mm x w := by
  obtain ⟨l, e⟩ := h
  rw [e]; exact w_az_app k
theorem w_le_len {mk mm : List Wt} (h : w_le mk mm) : mk.length ≤ mm.length ∧ w_tot mk ≤ w_tot mm := by
  obtain ⟨l, e⟩ := h
  rw [e]
  unfold w_tot
  rw [List.length_append, List.map_append, List.sum_append]
  omega
theorem w_le_d {mk mm : List Wt} (h : w_le mk mm) {u : Nat} (hu : u ≤ mk.length) : w_d mm u = w_d mk u := by
  obtain ⟨l, e⟩ := h
  unfold w_d
  by_cases c : u = 0
  · rw [if_pos c, if_pos c]
  · rw [if_neg c, if_neg c, e, List.getElem?_append_left (by omega)]
/-- what a row of signs stands for -/
def w_sgs (mk : List Wt) (l : List Int) (m : List Wt) : Prop := (∀ x ∈ l, m_vs mk.length x) ∧ l.map (w_sg (w_d mk)) = m
section
variable {I J : sr_V} {d f : Nat → Wt} {nn : Nat} {K : Wt → Prop} {tl mk mm : List Wt} {s a b c x : Int}
theorem w_tm_f {n : Int} (h : ∀ u : Nat, 1 ≤ u → (u : Int) ≤ n → f u = d u) {l : List Int} (v3 : 0 ≤ a) (v4 : a ≤ n) (v5 : 0 ≤ c) (v6 : c ≤ n) (v7 : 0 ≤ b) (v9 : s ≠ 3 → b ≤ n) (hl : ∀ x ∈ l, m_vs n x) : w_tm f s a b c l = w_tm d s a b c l := by
  have dz : ∀ y : Int, 0 ≤ y → y ≤ n → w_dz f y = w_dz d y := fun y y0 y1 => by
    unfold w_dz
    by_cases cy : y = 0
    · rw [if_pos cy, if_pos cy]
    · rw [if_neg cy, if_neg cy, h y.toNat (by omega) (by omega)]
  have sg : ∀ y, m_vs n y → w_sg f y = w_sg d y := fun y hy => by
    unfold m_vs at hy
    unfold w_sg
    by_cases cy : y < 256
    · rw [if_pos cy, if_pos cy]
    · rw [if_neg cy, if_neg cy, h (y - 256).toNat (by omega) (by omega)]
  unfold w_tm
  rw [dz a v3 v4, dz c v5 v6, show l.map (w_sg f) = l.map (w_sg d) from List.map_congr_left (fun y hy => sg y (hl y hy))]
  by_cases cs : s = 3
  · rw [if_pos cs, if_pos cs]
  · rw [if_neg cs, if_neg cs, dz b v7 (v9 cs)]
theorem m_T_d (T : m_T I d nn) (h : ∀ t : Nat, m_R I t → f t = d t) : m_T I f nn := by
  obtain ⟨t1, t2, t3, t4, t5, t6, t7⟩ := T
  refine ⟨t1, t2, t3, t4, fun t h1 h2 => ?_, fun t u h1 h2 k1 k2 e => ?_, t7⟩
  · obtain ⟨r1, r2, r3, r4, r5, r6, r7⟩ := t5 t h1 h2
    refine ⟨r1, r2, r3, r4, r5, fun c8 => ?_, fun c8 => ?_⟩
    · have v3 := r1.2.2.1
      have v4 := r1.2.2.2.1
      have v5 := r1.2.2.2.2.1
      have v6 := r1.2.2.2.2.2.1
      have v7 := r1.2.2.2.2.2.2.1
      have v9 := r1.2.2.2.2.2.2.2.2.1
      rw [h t ⟨h1, h2⟩, r6 c8]
      exact (w_tm_f (n := (t : Int) - 1) (fun u u1 u2 => h u ⟨u1, by omega⟩) v3 v4 v5 v6 v7 v9 r5).symm
    · rw [h t ⟨h1, h2⟩]
      exact r7 c8
  · rw [h t ⟨h1, h2⟩, h u ⟨k1, k2⟩] at e
    exact t6 t u h1 h2 k1 k2 e
theorem m_K_d (hK : m_K I d K) (h : ∀ t : Nat, m_R I t → f t = d t) : m_K I f K := by
  obtain ⟨k1, k2, k3, k4, k5⟩ := hK
  refine ⟨k1, k2, k3, k4, fun w => ?_⟩
  rw [k5]
  have e : m_B I f = m_B I d := by
    funext w
    refine propext ⟨fun ⟨u, u1, u2⟩ => ⟨u, u1, by rw [← h u (k2 u u1)]; exact u2⟩, fun ⟨u, u1, u2⟩ => ⟨u, u1, by rw [h u (k2 u u1)]; exact u2⟩⟩
  rw [e]
theorem m_N_d (hN : m_N I d tl) (h : ∀ t : Nat, m_R I t → f t = d t) : m_N I f tl := by
  obtain ⟨n1, n2, n3, n4, n5⟩ := hN
  refine ⟨n1, fun i w hw => ?_, fun t ht => ?_, n4, n5⟩
  · obtain ⟨t, t1, t2, t3⟩ := n2 i w hw
    exact ⟨t, t1, t2, by rw [h t t1]; exact t3⟩
  · rw [h t ht]
    exact n3 t ht
/-- the reference's terms, by the list of them -/
def m_L (I : sr_V) (mk : List Wt) (nn : Nat) (K : Wt → Prop) (tl : List Wt) : Prop := m_T I (w_d mk) nn ∧ m_K I (w_d mk) K ∧ m_N I (w_d mk) tl ∧ I 1000 4 = mk.length ∧ I 1000 5 = w_tot mk
theorem m_L_nd (h : m_L I mk nn K tl) : mk.Nodup := by
  obtain ⟨T, _, _, h4, _⟩ := h
  refine List.pairwise_iff_getElem.mpr (fun i j hi hj hij e => ?_)
  have := T.2.2.2.2.2.1 (i + 1) (j + 1) (by omega) (by omega) (by omega) (by omega) (by
    unfold w_d
    rw [if_neg (by omega), if_neg (by omega), Nat.add_sub_cancel, Nat.add_sub_cancel, List.getElem?_eq_getElem hi, List.getElem?_eq_getElem hj, e])
  omega
theorem m_L_row (h : m_L I mk nn K tl) {w : Wt} : (∃ t, m_R I t ∧ w_d mk t = w) ↔ w ∈ mk := by
  obtain ⟨T, _, _, h4, _⟩ := h
  constructor
  · rintro ⟨t, ht, e⟩
    have h1 := ht.1
    have h2 := ht.2
    have hlt : t - 1 < mk.length := by omega
    rw [← e]
    unfold w_d
    rw [if_neg (by omega), List.getElem?_eq_getElem hlt]
    exact List.getElem_mem hlt
  · intro hw
    obtain ⟨i, hi⟩ := List.getElem?_of_mem hw
    have hlt := (List.getElem?_eq_some_iff.mp hi).1
    refine ⟨i + 1, ⟨by omega, by omega⟩, ?_⟩
    unfold w_d
    rw [if_neg (by omega), Nat.add_sub_cancel, hi]
    rfl
/-- only the table of terms and the row have changed -/
def m_f1 (I J : sr_V) : Prop := m_fr [6, 7, 8, 9, 10, 11, 12, 15, 17, 55] [4, 5, 19, 56] I J
theorem m_e1_f1 (h : m_e1 I J) : m_f1 I J := by
  obtain ⟨a1, a2, _⟩ := h
  refine ⟨fun g hg h1 => ?_, fun f hf => ?_⟩
  · simp at hg
    exact a1 g (by omega) (by omega) (by omega) (by omega) h1
  · simp at hf
    exact a2 f (by omega) (by omega) (by omega) (by omega)
theorem w_d_up {t : Nat} {w : Wt} (hm : mm = mk ++ [w]) (ht : t ≤ mk.length + 1) : w_d mm t = if t = mk.length + 1 then w else w_d mk t := by
  unfold w_d
  by_cases c0 : t = 0
  · rw [if_pos c0, if_pos c0, if_neg (by omega)]
  · rw [if_neg c0, if_neg c0, hm]
    by_cases c : t = mk.length + 1
    · rw [if_pos c, List.getElem?_append_right (by omega), show t - 1 - mk.length = 0 by omega]
      rfl
    · rw [if_neg c, List.getElem?_append_left (by omega)]
theorem m_L_new {w : Wt} (h : m_L I mk nn K tl) (nm : Nat) (hx : w ∉ mk) {e : Nat → Wt} (T : m_T J e nm) (E : m_e1 I J) (he : ∀ u : Nat, (u : Int) ≤ I 1000 4 → e u = w_d mk u) (e4 : J 1000 4 = I 1000 4 + 1) (ew : e (I 1000 4 + 1).toNat = w) (e5 : J 1000 5 = I 1000 5 + w_sz w) : m_L J (mk ++ [w]) nm K tl := by
  obtain ⟨T0, K0, N0, h4, h5⟩ := h
  have hd : ∀ t : Nat, m_R J t → w_d (mk ++ [w]) t = e t := fun t ht => by
    have h1 := ht.1
    have h2 := ht.2
    rw [w_d_up rfl (by omega)]
    by_cases c : t = mk.length + 1
    · rw [if_pos c, c, ← ew]
      congr 1
      omega
    · rw [if_neg c, he t (by omega)]
  have j13 : J 13 = I 13 := E.1 13 (by decide) (by omega) (by decide) (by decide) (by decide)
  have j14 : J 14 = I 14 := E.1 14 (by decide) (by omega) (by decide) (by decide) (by decide)
  have j18 : J 1000 18 = I 1000 18 := E.2.1 18 (by decide) (by decide) (by decide) (by decide)
  refine ⟨m_T_d T hd, m_K_d (m_K_e1 T0 K0 E he) hd, m_N_d (m_N_e T j13 j14 j18 (by omega) he N0) hd, ?_, ?_⟩
  · rw [e4, List.length_append, List.length_singleton]; omega
  · rw [e5, w_tot_snoc]; omega
theorem m_L_e0 (h : m_L I mk nn K tl) (E : m_e0 I J) : m_L J mk nn K tl := by
  obtain ⟨T, hK, hN, h4, h5⟩ := h
  refine ⟨m_T_e0 E T, m_K_same (fun g hg => E.1 g (by omega) (by omega)) (E.2 4 (by decide)) (E.2 19 (by decide)) hK, m_N_same (E.1 13 (by decide) (by decide)) (E.1 14 (by decide) (by decide)) (E.2 18 (by decide)) (E.2 4 (by decide)) hN, by rw [E.2 4 (by decide)]; exact h4, by rw [E.2 5 (by decide)]; exact h5⟩
/-- frames that leave the terms -/
theorem m_L_fr {A F : List Nat} (h : m_L I mk nn K tl) (k : m_fr A F I J) (hA : ∀ g ∈ A, g < 6 ∨ 17 < g) (h4 : 4 ∉ F) (h5 : 5 ∉ F) (h18 : 18 ∉ F) (h19 : 19 ∉ F) : m_L J mk nn K tl := by
  obtain ⟨T, hK, hN, e4, e5⟩ := h
  have na : ∀ g, 6 ≤ g → g ≤ 17 → J g = I g := fun g g1 g2 => k.1 g (fun hm => by have := hA g hm; omega) (by omega)
  refine ⟨m_T_same (fun g hg => na g (by omega) (by omega)) (k.2 4 h4) (k.2 5 h5) T, m_K_same (fun g hg => na g (by omega) (by omega)) (k.2 4 h4) (k.2 19 h19) hK, m_N_same (na 13 (by decide) (by decide)) (na 14 (by decide) (by decide)) (k.2 18 h18) (k.2 4 h4) hN, by rw [k.2 4 h4]; exact e4, by rw [k.2 5 h5]; exact e5⟩
end
end
