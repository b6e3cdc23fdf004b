/-! ===== the class's table of terms at the law's loop ===== -/
noncomputable section
section
variable {n : Nat} {s : Nat → Int}
theorem g_hiv {a : Nat} (h : a ≠ 1) (f : Nat) : sw_iv (g_H n s) a f = g_iva a f := if_neg h
theorem g_hln {a : Nat} (h : a ≠ 1) : sw_ln (g_H n s) a = g_lna a := if_neg h
theorem g_hrv (a f : Nat) : sw_rv (g_H n s) a f = g_rva a f := rfl
theorem g_hty (a : Nat) : sw_ty (g_H n s) a = g_tya a := rfl
theorem g_q1 : sw_rv (g_H n s) 3 1 = 6 := g_r3.2.1
theorem g_q3 : sw_rv (g_H n s) 3 3 = 7 := g_r3.2.2.1
theorem g_q5 : sw_rv (g_H n s) 3 5 = 8 := g_r3.2.2.2.1
theorem g_q6 : sw_rv (g_H n s) 3 6 = 9 := g_r3.2.2.2.2.1
theorem g_q8 : sw_rv (g_H n s) 3 8 = 10 := g_r3.2.2.2.2.2
theorem g_cd (t k : Nat) : c_d (g_H n s) t k = g_iva 6 (14 * t + k) := by
  unfold c_d
  rw [g_q1, g_hiv (by decide)]
theorem g_cn : c_n (g_H n s) = 49 := by
  unfold c_n
  rw [g_hiv (by decide)]
  exact g_i3.1
theorem g_cR {t : Nat} : c_R (g_H n s) t ↔ 1 ≤ t ∧ t ≤ 49 := by
  unfold c_R
  rw [g_cn]
  omega
theorem g_su : sw_iv (g_H n s) 3 4 = 0 := by
  rw [g_hiv (by decide)]
  exact g_i3.2.1
theorem g_dat {t : Nat} (h1 : 1 ≤ t) (h2 : t ≤ 49) : w_at g_mk (t : Int) (w_d g_mk t) := by
  refine ⟨by omega, ?_⟩
  have l := g_len.1
  rw [show ((t : Int) - 1).toNat = t - 1 by omega]
  unfold w_d
  rw [if_neg (by omega), List.getElem?_eq_getElem (by omega)]
  rfl
theorem g_dij {t u : Nat} (h1 : 1 ≤ t) (h2 : t ≤ 49) (h3 : 1 ≤ u) (h4 : u ≤ 49) (e : w_d g_mk t = w_d g_mk u) : t = u := by
  have a := g_dat h1 h2
  have b := g_dat h3 h4
  rw [e] at a
  have := w_at_inj g_nd a b
  omega
/-- what stands in a row -/
theorem g_row {t : Nat} (h : t ≤ 49) : c_d (g_H n s) t 0 = (if t % 2 = 1 ∧ 3 ≤ t then 5 else 0) ∧ c_d (g_H n s) t 1 = (if t % 2 = 1 ∧ 3 ≤ t then (t : Int) - 1 else 0) ∧ (c_d (g_H n s) t 2 = 0 ∧ c_d (g_H n s) t 3 = 0 ∧ c_d (g_H n s) t 4 = 0 ∧ c_d (g_H n s) t 5 = 0) ∧ c_d (g_H n s) t 8 = (if t % 2 = 1 then ((t : Int) + 1) / 2 else 0) ∧ c_d (g_H n s) t 9 = (if t % 2 = 1 then 1 else 0) ∧ c_d (g_H n s) t 10 = (if t % 2 = 0 ∧ 2 ≤ t then 3 * ((t : Int) + 1) else 0) ∧ (c_d (g_H n s) t 11 = 0 ∧ c_d (g_H n s) t 12 = 0 ∧ c_d (g_H n s) t 13 = 0) := by
  have b := g_tab ⟨t, by omega⟩
  simp only [g_cd]
  exact b
theorem g_sn {t : Nat} (h : t ≤ 49) : c_sn (g_H n s) t = [] := by
  unfold c_sn
  rw [(g_row h).2.2.1.2.2.2]
  rfl
theorem g_crw {t : Nat} (h1 : 1 ≤ t) (h2 : t ≤ 49) : c_rw (g_H n s) (w_d g_mk) 24 t := by
  obtain ⟨e0, e1, ⟨e2, e3, e4, e5⟩, _⟩ := g_row (n := n) (s := s) h2
  unfold c_rw
  rw [g_sn h2, g_su, e4, e5]
  by_cases c : t % 2 = 1 ∧ 3 ≤ t
  · rw [if_pos c] at e0 e1
    have tm := g_tm ⟨t, by omega⟩ c.1 c.2
    have cc := g_code ⟨t, by omega⟩ c.1 c.2
    rw [e0, e1, e2, e3]
    refine ⟨?_, by omega, by omega, by omega, fun x hx => (by cases hx), fun _ => ⟨tm, ?_⟩, fun e => absurd e (by decide)⟩
    · unfold c_va
      exact ⟨by omega, by omega, by omega, by omega, by omega, by omega, by omega, fun e => absurd e (by decide), fun _ => by omega, fun e => by omega, fun _ => by omega, fun e => absurd e (by decide), fun e => absurd e (by decide), fun e => absurd e (by decide)⟩
    · rw [g_cd]; exact cc
  · rw [if_neg c] at e0 e1
    rw [e0, e1, e2, e3]
    refine ⟨?_, by omega, by omega, by omega, fun x hx => (by cases hx), fun e => absurd rfl e, fun _ => ?_⟩
    · unfold c_va
      exact ⟨by omega, by omega, by omega, by omega, by omega, by omega, by omega, fun e => absurd e (by decide), fun _ => by omega, fun e => ⟨rfl, rfl, rfl⟩, fun e => by omega, fun e => absurd e (by decide), fun e => absurd e (by decide), fun e => absurd e (by decide)⟩
    · by_cases c1 : t = 1
      · subst c1
        exact Or.inl ⟨⟨rfl, rfl⟩, g_d1⟩
      · refine Or.inr ⟨⟨c1, rfl⟩, (t - 2) / 2, by omega, ?_⟩
        have := (g_d2 ⟨(t - 2) / 2, by omega⟩).1
        have e : 2 * ((t - 2) / 2) + 2 = t := by omega
        have this : w_d g_mk (2 * ((t - 2) / 2) + 2) = w_nm ((t - 2) / 2) := this
        rw [e] at this
        exact this
theorem g_lk {b : Nat} (hb : b < 128) : c_lk (g_H n s) (g_iva 8 b) (g_ch b) := by
  have k := g_chk ⟨b, hb⟩
  have k : g_iva 8 b = 0 ∨ (0 < g_iva 8 b ∧ g_iva 8 b ≤ 49 ∧ (g_iva 6 (14 * (g_iva 8 b).toNat + 7) = 0 ∨ (0 < g_iva 6 (14 * (g_iva 8 b).toNat + 7) ∧ g_iva 6 (14 * (g_iva 8 b).toNat + 7) < g_iva 8 b ∧ g_iva 6 (14 * (g_iva 6 (14 * (g_iva 8 b).toNat + 7)).toNat + 7) = 0))) := k
  unfold g_ch
  rw [if_neg (by omega)]
  rcases k with e | ⟨k1, k2, e | ⟨k3, k4, k5⟩⟩
  · rw [if_pos e]; exact e
  · rw [if_neg (by omega), if_pos e]
    refine ⟨by omega, by omega, fun u hu => (by cases hu), ?_⟩
    rw [g_cd]
    exact e
  · rw [if_neg (by omega), if_neg (by omega)]
    refine ⟨by omega, by omega, fun u hu => ?_, ?_⟩
    · rw [List.mem_singleton] at hu
      omega
    · rw [g_cd]
      refine ⟨by omega, by omega, fun u hu => (by cases hu), ?_⟩
      rw [g_cd]
      exact k5
theorem g_cht {b t : Nat} (h : t ∈ g_ch b) : 1 ≤ t ∧ t ≤ 49 := by
  unfold g_ch at h
  by_cases c : 128 ≤ b
  · rw [if_pos c] at h; cases h
  · rw [if_neg c] at h
    have k := g_chk ⟨b, by omega⟩
    have k : g_iva 8 b = 0 ∨ (0 < g_iva 8 b ∧ g_iva 8 b ≤ 49 ∧ (g_iva 6 (14 * (g_iva 8 b).toNat + 7) = 0 ∨ (0 < g_iva 6 (14 * (g_iva 8 b).toNat + 7) ∧ g_iva 6 (14 * (g_iva 8 b).toNat + 7) < g_iva 8 b ∧ g_iva 6 (14 * (g_iva 6 (14 * (g_iva 8 b).toNat + 7)).toNat + 7) = 0))) := k
    rcases k with e | ⟨k1, k2, e | ⟨k3, k4, k5⟩⟩
    · rw [if_pos e] at h; cases h
    · rw [if_neg (by omega), if_pos e, List.mem_singleton] at h
      omega
    · rw [if_neg (by omega), if_neg (by omega), List.mem_cons, List.mem_singleton] at h
      omega
theorem g_cS : c_S (g_H n s) ∧ c_D (g_H n s) := by
  obtain ⟨t3, t4, t5, t6, t7, t8, t9, t10⟩ := g_t3
  obtain ⟨l5, l6, l7, l8, l9, l10⟩ := g_l3
  refine ⟨?_, ?_⟩
  · unfold c_S
    rw [g_q1, g_q3, g_q5, g_q6, g_q8, g_hln (by decide), g_hln (by decide), g_hln (by decide), g_hln (by decide), g_hln (by decide), l6, l7, l8, l9, l10]
    exact ⟨t3, t6, t7, t8, t9, t10, by decide, by decide, by decide, by decide, by decide, ⟨t4, g_4.1, t5, g_4.2, Nat.zero_le _, by rw [g_hln (by decide), l5]; decide, rfl⟩, g_r3.1⟩
  · unfold c_D
    rw [g_q1, g_q3, g_q5, g_q6, g_q8]
    decide
theorem g_cT : c_T (g_H n s) (w_d g_mk) 24 := by
  obtain ⟨l5, l6, l7, l8, l9, l10⟩ := g_l3
  unfold c_T
  rw [g_q1, g_q3, g_q5, g_q8, g_cn, g_su, g_hln (by decide), g_hln (by decide), g_hln (by decide), g_hln (by decide), l6, l7, l8, l10]
  refine ⟨g_cS.1, g_cS.2, by decide, by decide, by decide, by decide, by decide, ⟨7, by decide, by decide, by decide⟩, by decide, fun t ht => ?_, fun t u ht hu e => ?_, g_ch, fun b hb => ?_, fun b t ht => g_cR.mpr (g_cht ht), fun t ht h0 => ?_⟩
  · have := g_cR.mp ht
    exact g_crw this.1 this.2
  · have a := g_cR.mp ht
    have b := g_cR.mp hu
    exact g_dij a.1 a.2 b.1 b.2 e
  · rw [g_hiv (by decide)]
    exact g_lk hb
  · have a := g_cR.mp ht
    have c : t % 2 = 1 ∧ 3 ≤ t := by
      rcases Classical.em (t % 2 = 1 ∧ 3 ≤ t) with c | c
      · exact c
      · rw [(g_row (n := n) (s := s) a.2).1, if_neg c] at h0
        exact absurd rfl h0
    unfold c_bk
    rw [g_q5, g_hln (by decide), l8, g_cd]
    exact g_chm ⟨t, by omega⟩ c.1 c.2
theorem g_cZ : c_Z (g_H n s) := by
  obtain ⟨l5, l6, _⟩ := g_l3
  unfold c_Z
  rw [g_q1, g_hln (by decide), l6, g_cn]
  intro j hj h
  rw [g_hiv (by decide)]
  exact g_zero ⟨j, hj⟩ (by show 700 ≤ j ∨ j < 14; omega)
theorem g_cow {a : Nat} : c_ow (g_H n s) a ↔ a = 3 ∨ (6 ≤ a ∧ a ≤ 10) := by
  unfold c_ow
  rw [g_q1, g_q3, g_q5, g_q6, g_q8]
  omega
theorem g_cU : c_U (g_H n s) := by
  unfold c_U
  rw [g_cn]
  refine ⟨fun p => if p % 2 = 0 then [3 * (p + 1)] else [], fun p h1 h2 => ?_⟩
  have h2 : p ≤ 49 := h2
  obtain ⟨_, _, _, _, _, e10, _⟩ := g_row (n := n) (s := s) h2
  have L : ∀ k, c_Lk (g_H n s) k ↔ 3 ≤ k ∧ k / 3 ≤ 49 ∧ k % 3 = 0 := fun k => by
    unfold c_Lk
    rw [g_cn]
    refine ⟨fun h => ⟨h.1, by omega, ?_⟩, fun h => ⟨h.1, by omega, Or.inl h.2.2⟩⟩
    obtain ⟨a1, a2, a3⟩ := h
    have e0 := (g_row (n := n) (s := s) (t := k / 3) (by omega)).1
    rcases a3 with g | g | g
    · exact g
    · rw [e0] at g
      split at g <;> omega
    · rw [e0] at g
      split at g <;> omega
  have P : ∀ k, 3 ≤ k → k / 3 ≤ 49 → k % 3 = 0 → c_pt (g_H n s) k = if (k / 3) % 2 = 1 ∧ 3 ≤ k / 3 then k / 3 - 1 else 0 := fun k a1 a2 a3 => by
    unfold c_pt
    rw [a3, Nat.add_zero, (g_row (n := n) (s := s) a2).2.1]
    split <;> omega
  dsimp only
  by_cases c : p % 2 = 0
  · rw [if_pos c]
    have pe : p ≤ 48 := by omega
    have e11 := (g_row (n := n) (s := s) (t := p + 1) (by omega)).2.2.2.2.2.2.1
    rw [if_pos ⟨c, by omega⟩] at e10
    refine ⟨⟨by rw [e10]; omega, by omega, fun m hm => (by cases hm), ?_⟩, fun k => ?_⟩
    · show c_nx (g_H n s) (3 * (p + 1)) = 0
      unfold c_nx
      rw [show 3 * (p + 1) / 3 = p + 1 by omega, show 11 + 3 * (p + 1) % 3 = 11 by omega]
      exact e11
    · rw [List.mem_singleton, L]
      constructor
      · intro e
        refine ⟨by omega, ?_⟩
        rw [P k (by omega) (by omega) (by omega), if_pos (by omega)]
        omega
      · rintro ⟨⟨a1, a2, a3⟩, a4⟩
        rw [P k a1 a2 a3] at a4
        split at a4 <;> omega
  · rw [if_neg c]
    rw [if_neg (by omega)] at e10
    refine ⟨e10, fun k => ⟨fun h => (by cases h), ?_⟩⟩
    rintro ⟨h, a4⟩
    obtain ⟨a1, a2, a3⟩ := (L k).mp h
    rw [P k a1 a2 a3] at a4
    split at a4 <;> omega
theorem g_ckn {t : Nat} : c_kn (g_H n s) t ↔ 1 ≤ t ∧ t ≤ 49 ∧ t % 2 = 1 := by
  unfold c_kn c_k
  rw [g_cR]
  constructor
  · rintro ⟨⟨a1, a2⟩, a3⟩
    rw [(g_row (n := n) (s := s) a2).2.2.2.2.1] at a3
    refine ⟨a1, a2, ?_⟩
    split at a3 <;> omega
  · rintro ⟨a1, a2, a3⟩
    exact ⟨⟨a1, a2⟩, by rw [(g_row (n := n) (s := s) a2).2.2.2.2.1, if_pos a3]⟩
theorem g_tlm {t : Nat} (h1 : t ≤ 49) (h2 : t % 2 = 1) : w_d g_mk t ∈ g_tl := by
  have a := (g_num ⟨(t - 1) / 2, by omega⟩).2
  have a : w_d g_mk (2 * ((t - 1) / 2) + 1) = g_tl[(t - 1) / 2]?.getD [] := a
  have l := g_len.2
  rw [show 2 * ((t - 1) / 2) + 1 = t by omega, List.getElem?_eq_getElem (by omega)] at a
  rw [a]
  exact List.getElem_mem _
theorem g_tlw {w : Wt} {i : Nat} (h : g_tl[i]? = some w) : i < 25 ∧ w_d g_mk (2 * i + 1) = w := by
  have l := g_len.2
  have hi := (List.getElem?_eq_some_iff.mp h).1
  have a := (g_num ⟨i, by omega⟩).2
  have a : w_d g_mk (2 * i + 1) = g_tl[i]?.getD [] := a
  rw [h] at a
  exact ⟨by omega, a⟩
theorem g_cK : c_K (g_H n s) (w_d g_mk) g_K := by
  refine ⟨fun t ht => ?_, fun t ht => ?_, fun w => ?_⟩
  · rw [g_cn] at ht
    rw [(g_row (n := n) (s := s) (by omega)).2.2.2.2.1]
    split
    · exact Or.inr rfl
    · exact Or.inl rfl
  · have a := g_cR.mp ht
    obtain ⟨e0, _⟩ := g_row (n := n) (s := s) a.2
    refine ⟨fun hm => ?_, fun e => g_ckn.mpr (by omega), fun h6 => ?_⟩
    · unfold c_mk at hm
      rw [e0] at hm
      have c : t % 2 = 1 ∧ 3 ≤ t := by
        rcases Classical.em (t % 2 = 1 ∧ 3 ≤ t) with c | c
        · exact c
        · exfalso
          simp only [if_neg c] at hm
          rcases hm with e | ⟨e, _⟩ | ⟨e, _⟩ <;> omega
      exact g_ckn.mpr ⟨a.1, a.2, c.1⟩
    · rw [e0] at h6
      split at h6 <;> omega
  · have iff : ∀ v, v ∈ g_tl ↔ c_B (g_H n s) (w_d g_mk) v := fun v => by
      constructor
      · intro h
        obtain ⟨i, hi⟩ := List.mem_iff_getElem?.mp h
        obtain ⟨b1, b2⟩ := g_tlw hi
        exact ⟨2 * i + 1, g_ckn.mpr (by omega), b2⟩
      · rintro ⟨u, hu, rfl⟩
        have := g_ckn.mp hu
        exact g_tlm this.2.1 this.2.2
    exact ⟨fun h => w_cl_mono (fun v hv => (iff v).mp hv) h, fun h => w_cl_mono (fun v hv => (iff v).mpr hv) h⟩
theorem g_cN : c_N (g_H n s) (w_d g_mk) g_tl := by
  obtain ⟨l5, l6, l7, l8, l9, l10⟩ := g_l3
  have l := g_len.2
  unfold c_N
  rw [g_q6, g_hln (by decide), l9, l]
  refine ⟨by rw [g_hiv (by decide)]; exact g_i3.2.2.1, by decide, fun i w h => ?_, fun t ht => ?_, g_tn⟩
  · obtain ⟨b1, b2⟩ := g_tlw h
    refine ⟨2 * i + 1, g_cR.mpr (by omega), ?_, b2⟩
    rw [g_hiv (by decide)]
    have a := (g_num ⟨i, b1⟩).1
    have a : g_iva 9 (i + 1) = 2 * (i : Int) + 1 := a
    rw [a]
    omega
  · have a := g_cR.mp ht
    rw [(g_row (n := n) (s := s) a.2).2.2.2.1]
    exact (g_idx ⟨t, by omega⟩ a.1).symm
theorem g_cA : c_A (g_H n s) (w_d g_mk) 24 g_K g_tl := ⟨g_cT, g_cZ, fun h => by have := g_cow.mp h; omega, fun h => by have := g_cow.mp h; omega, g_cU, g_cK, g_cN, by rw [g_hiv (by decide)]; exact g_i3.2.2.2⟩
end
end
