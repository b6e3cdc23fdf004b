/-! ===== heights that count, one by one ===== -/
noncomputable section
section
variable {T T0 A B : w_T} {l n m k i j d : Nat} {kf : Nat → Wt} {C : Nat → Int}
theorem t_wl_pre : ∀ {n m}, n ≤ m → ∃ e, t_wl T l m = t_wl T l n ++ e
  | n, 0, h => ⟨[], by rw [Nat.le_zero.mp h, List.append_nil]⟩
  | n, m + 1, h => by
    by_cases e : n = m + 1
    · exact ⟨[], by rw [e, List.append_nil]⟩
    · have hnm : n ≤ m := by omega
      obtain ⟨x, hx⟩ := t_wl_pre hnm
      by_cases c : t_cb T l m = 0
      · exact ⟨x, by rw [t_wl_0 c, hx]⟩
      · exact ⟨x ++ [m], by rw [t_wl_1 c, hx, List.append_assoc]⟩
theorem t_wl_le {α : Type} {F : Nat → α} (hF : ∀ n, n < d → t_cb T l n = 0 → F (n + 1) = F n) : ∀ {m n}, n ≤ m → m ≤ d → t_wl T l n = t_wl T l m → F n = F m
  | 0, n, h, _, _ => by rw [Nat.le_zero.mp h]
  | m + 1, n, h, hd, e => by
    by_cases en : n = m + 1
    · rw [en]
    · obtain ⟨x, hx⟩ := t_wl_pre (T := T) (l := l) (n := n) (m := m) (by omega)
      by_cases c : t_cb T l m = 0
      · rw [hF m (by omega) c]
        exact t_wl_le hF (by omega) (by omega) (by rw [e, t_wl_0 c])
      · exfalso
        rw [t_wl_1 c, hx] at e
        have := congrArg List.length e
        rw [List.length_append, List.length_append, List.length_singleton] at this
        omega
/-- what changes at heights that count alone -/
theorem t_wl_eq {α : Type} {F : Nat → α} (hF : ∀ n, n < d → t_cb T l n = 0 → F (n + 1) = F n) (hn : n ≤ d) (hm : m ≤ d) (e : t_wl T l n = t_wl T l m) : F n = F m := by
  rcases Nat.le_total n m with h | h
  · exact t_wl_le hF h hm e
  · exact (t_wl_le hF h hn e.symm).symm
theorem t_wl_at : ∀ {d i k}, (t_wl T l d)[i]? = some k → k < d ∧ t_cb T l k ≠ 0 ∧ t_wl T l k = (t_wl T l d).take i ∧ t_wl T l (k + 1) = (t_wl T l d).take (i + 1)
  | 0, i, k, h => by simp [t_wl] at h
  | d + 1, i, k, h => by
    by_cases c : t_cb T l d = 0
    · rw [t_wl_0 c] at h
      obtain ⟨a1, a2, a3, a4⟩ := t_wl_at h
      rw [t_wl_0 c]
      exact ⟨by omega, a2, a3, a4⟩
    · rw [t_wl_1 c] at h
      by_cases ci : i < (t_wl T l d).length
      · rw [List.getElem?_append_left ci] at h
        obtain ⟨a1, a2, a3, a4⟩ := t_wl_at h
        rw [t_wl_1 c, List.take_append_of_le_length (by omega), List.take_append_of_le_length (by omega)]
        exact ⟨by omega, a2, a3, a4⟩
      · rw [List.getElem?_append_right (by omega)] at h
        have ei : i - (t_wl T l d).length = 0 := by
          rcases Nat.lt_or_ge (i - (t_wl T l d).length) 1 with g | g
          · omega
          · rw [List.getElem?_eq_none (by simp; omega)] at h
            exact absurd h (by simp)
        rw [ei] at h
        injection h with h
        subst h
        have ei2 : i = (t_wl T l d).length := by omega
        refine ⟨by omega, c, ?_, ?_⟩
        · rw [t_wl_1 c, ei2, List.take_left']
          rfl
        · rw [ei2]
          exact (List.take_of_length_le (by rw [t_wl_1 c]; simp)).symm
theorem t_ext8 (h1 : t_dp A = t_dp B) (h2 : t_ky A = t_ky B) (h3 : t_ph A = t_ph B) (h4 : t_um A = t_um B) (h5 : t_ow A = t_ow B) (h6 : t_sk A = t_sk B) (h7 : t_so A = t_so B) (h8 : t_sg A = t_sg B) : A = B :=
  Prod.ext h1 (Prod.ext h2 (Prod.ext h3 (Prod.ext h4 (Prod.ext h5 (Prod.ext h6 (Prod.ext h7 h8))))))
/-- first blank, then keys -/
def t_kq (C : Nat → Int) (T : w_T) (l : Nat) (kf : Nat → Wt) : Nat → w_T
  | 0 => t_bw T l
  | n + 1 => if C n = 0 then t_kq C T l kf n else t_sk1 (t_kq C T l kf n) (t_ab l (n + 1)) (kf n)
theorem t_kq_0 (c : C n = 0) : t_kq C T l kf (n + 1) = t_kq C T l kf n := if_pos c
theorem t_kq_1 (c : C n ≠ 0) : t_kq C T l kf (n + 1) = t_sk1 (t_kq C T l kf n) (t_ab l (n + 1)) (kf n) := if_neg c
theorem t_kq_r : ∀ n, t_dp (t_kq C T l kf n) = t_dp T ∧ t_ph (t_kq C T l kf n) = t_ph (t_bw T l) ∧ t_um (t_kq C T l kf n) = t_um (t_bw T l) ∧ t_ow (t_kq C T l kf n) = t_ow (t_bw T l) ∧ t_sk (t_kq C T l kf n) = t_sk (t_bw T l) ∧ t_so (t_kq C T l kf n) = t_so (t_bw T l) ∧ t_sg (t_kq C T l kf n) = t_sg (t_bw T l)
  | 0 => ⟨t_bw_dp, rfl, rfl, rfl, rfl, rfl, rfl⟩
  | n + 1 => by
    have ih := t_kq_r n
    by_cases c : C n = 0
    · rw [t_kq_0 c]; exact ih
    · rw [t_kq_1 c]; exact ih
theorem t_kpn_r : ∀ n, t_ph (t_kpn C T l kf n) = t_ph (t_bwn T l n) ∧ t_um (t_kpn C T l kf n) = t_um (t_bwn T l n) ∧ t_ow (t_kpn C T l kf n) = t_ow (t_bwn T l n) ∧ t_sk (t_kpn C T l kf n) = t_sk (t_bwn T l n) ∧ t_so (t_kpn C T l kf n) = t_so (t_bwn T l n) ∧ t_sg (t_kpn C T l kf n) = t_sg (t_bwn T l n)
  | 0 => ⟨rfl, rfl, rfl, rfl, rfl, rfl⟩
  | n + 1 => by
    obtain ⟨a1, a2, a3, a4, a5, a6⟩ := t_kpn_r n
    have key : t_ph (t_bl (t_kpn C T l kf n) (t_ab l (n + 1))) = t_ph (t_bwn T l (n + 1)) ∧ t_um (t_bl (t_kpn C T l kf n) (t_ab l (n + 1))) = t_um (t_bwn T l (n + 1)) := by
      show fu (t_ph (t_kpn C T l kf n)) (t_ab l (n + 1)) [] = fu (t_ph (t_bwn T l n)) (t_ab l (n + 1)) [] ∧ fu (t_um (t_kpn C T l kf n)) (t_ab l (n + 1)) 0 = fu (t_um (t_bwn T l n)) (t_ab l (n + 1)) 0
      rw [a1, a2]
      exact ⟨rfl, rfl⟩
    by_cases c : C n = 0
    · rw [t_kpn_0 c]; exact ⟨key.1, key.2, a3, a4, a5, a6⟩
    · rw [t_kpn_1 c]; exact ⟨key.1, key.2, a3, a4, a5, a6⟩
theorem t_kq_ky (hl : l < 16) (h4 : t_dp T ≤ 4) {y : Nat} : ∀ n, n ≤ t_dp T → ((∀ j, j < n → C j ≠ 0 → y ≠ t_ab l (j + 1)) → t_ky (t_kq C T l kf n) y = t_ky (t_bw T l) y) ∧ ∀ j, j < n → C j ≠ 0 → y = t_ab l (j + 1) → t_ky (t_kq C T l kf n) y = kf j
  | 0, _ => ⟨fun _ => rfl, fun j hj => absurd hj (Nat.not_lt_zero _)⟩
  | n + 1, hn => by
    obtain ⟨i1, i2⟩ := t_kq_ky hl h4 (y := y) n (by omega)
    by_cases c : C n = 0
    · rw [t_kq_0 c]
      refine ⟨fun h => i1 (fun j hj => h j (by omega)), fun j hj cj e => ?_⟩
      have : j ≠ n := fun ee => cj (by rw [ee]; exact c)
      exact i2 j (by omega) cj e
    · rw [t_kq_1 c]
      refine ⟨fun h => ?_, fun j hj cj e => ?_⟩
      · show fu _ _ _ _ = _
        rw [fu_ne (h n (by omega) c)]
        exact i1 (fun j hj => h j (by omega))
      · show fu _ _ _ _ = _
        by_cases en : j = n
        · rw [e, en, fu_eq]
        · rw [fu_ne (fun ee => en ?_)]
          · exact i2 j (by omega) cj e
          · have := t_ab_inj hl (by omega) (by omega) (e.symm.trans ee)
            omega
theorem t_kq_kpn (hl : l < 16) (h4 : t_dp T ≤ 4) : t_kq C T l kf (t_dp T) = t_kpn C T l kf (t_dp T) := by
  obtain ⟨q1, q2, q3, q4, q5, q6, q7⟩ := t_kq_r (C := C) (T := T) (l := l) (kf := kf) (t_dp T)
  obtain ⟨p1, p2, p3, p4, p5, p6⟩ := t_kpn_r (C := C) (T := T) (l := l) (kf := kf) (t_dp T)
  refine t_ext8 (q1.trans (t_kpn_dp _).symm) (funext (fun y => ?_)) (q2.trans p1.symm) (q3.trans p2.symm) (q4.trans p3.symm) (q5.trans p4.symm) (q6.trans p5.symm) (q7.trans p6.symm)
  obtain ⟨i1, i2⟩ := t_kq_ky (C := C) (kf := kf) hl h4 (y := y) (t_dp T) (Nat.le_refl _)
  by_cases e : ∃ j, j < t_dp T ∧ y = t_ab l (j + 1)
  · obtain ⟨j, hj, ej⟩ := e
    rw [ej, (t_kpn_ky hl h4 (t_dp T) (Nat.le_refl _) j hj).1, ← ej]
    by_cases c : C j = 0
    · rw [if_pos c, i1 (fun i hi ci ei => ?_)]
      · rw [ej]; exact t_bwn_on (t_dp T) hj
      · have := t_ab_inj hl (by omega) (by omega) (ej.symm.trans ei)
        have : j = i := by omega
        exact ci (by rw [← this]; exact c)
    · rw [if_neg c]; exact i2 j hj c ej
  · have no : ∀ j, j < t_dp T → y ≠ t_ab l (j + 1) := fun j hj c => e ⟨j, hj, c⟩
    rw [i1 (fun j hj _ => no j hj), (t_kpn_of2 (t_dp T) no).1]
    exact (t_bwn_off (t_dp T) no).1
/-- parent hashes: heights from n on are done -/
def t_pd (C : Nat → Int) (T : w_T) (l n : Nat) : w_T × Wt := t_pp C T l (t_dp T - n)
theorem t_pd_0 (hn : n < t_dp T) (c : C n = 0) : t_pd C T l (n + 1) = t_pd C T l n := by
  unfold t_pd
  have e : t_dp T - n = t_dp T - (n + 1) + 1 := by omega
  have e2 : t_dp T - 1 - (t_dp T - (n + 1)) = n := by omega
  rw [e]
  exact (t_pp_0 (by rw [e2]; exact c)).symm
theorem t_pd_1 (hn : n < t_dp T) (c : C n ≠ 0) : t_pd C T l n = (t_sp (t_pd C T l (n + 1)).1 (t_ab l (n + 1)) (t_pd C T l (n + 1)).2, w_wt (t_sp (t_pd C T l (n + 1)).1 (t_ab l (n + 1)) (t_pd C T l (n + 1)).2) (t_ab l (n + 1)) (t_si l n)) := by
  unfold t_pd
  have e : t_dp T - n = t_dp T - (n + 1) + 1 := by omega
  have e2 : t_dp T - 1 - (t_dp T - (n + 1)) = n := by omega
  rw [e, t_pp_1 (by rw [e2]; exact c), e2]
end
end
