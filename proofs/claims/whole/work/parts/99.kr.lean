/-! ===== the reference at the law's loop; all that is had there ===== -/
noncomputable section
def g_I : sr_V := fun f k => if f = 1000 then g_iva 1423 k else g_iva (sr_a f) k
def g_sm (c : sy_C) : Bool := match c with
  | .inr (.inl a) => Nat.beq (Nat.shiftRight a.2.2 1664) 0
  | _ => false
section
/-- an array of which only the first fifty places are used -/
theorem g_hi {a : Nat} (h : g_oc false g_sm (g_c a) = true) {t : Nat} (ht : 50 ≤ t) : g_iva a t = 0 := by
  unfold g_iva
  cases e : g_c a with
  | none => rfl
  | some c =>
    rw [e] at h
    have h : g_sm c = true := h
    show gz_iv c t = 0
    match c, h with
    | .inr (.inl x), h =>
      have h : Nat.beq (Nat.shiftRight x.2.2 1664) 0 = true := h
      have h := Nat.eq_of_beq_eq_true h
      have h : x.2.2 >>> 1664 = 0 := h
      show g_32 (sy_pg x.2.2 t) = 0
      have e2 : sy_pg x.2.2 t = ((x.2.2 >>> 64) >>> (32 * t)) % 4294967296 := rfl
      rw [e2, ← Nat.shiftRight_add, show 64 + 32 * t = 1664 + (32 * t - 1600) by omega, Nat.shiftRight_add, h, Nat.zero_shiftRight]
      rfl
theorem g_s16 : g_oc false g_sm (g_c 1436) = true := by decide +kernel
theorem g_s13 : g_oc false g_sm (g_c 1433) = true := by decide +kernel
theorem g_rm : ∀ f : Fin 121, sr_t f.val ≠ 0 → g_rva 1423 f.val = sr_a f.val ∧ g_tya (sr_a f.val) = sr_t f.val ∧ g_lna (sr_a f.val) = sr_l f.val := by decide +kernel
theorem g_1423 : g_tya 1423 = 16 ∧ g_iva 1423 0 = 0 ∧ g_iva 1423 3 = 0 ∧ g_iva 1423 4 = 49 ∧ g_iva 1423 5 = 0 ∧ g_iva 1423 18 = 25 ∧ g_iva 1423 19 = 0 ∧ g_iva 1423 22 = 0 ∧ g_iva 1423 23 = 0 := by decide +kernel
theorem g_rt : ∀ t : Fin 50, 1 ≤ t.val → g_iva 1426 t.val = (if t.val = 1 then 0 else if t.val % 2 = 1 then 5 else 8) ∧ g_iva 1427 t.val = (if t.val % 2 = 1 ∧ 3 ≤ t.val then (t.val : Int) - 1 else 0) ∧ (g_iva 1428 t.val = 0 ∧ g_iva 1429 t.val = 0 ∧ g_iva 1430 t.val = 0 ∧ g_iva 1431 t.val = 0) ∧ g_iva 1432 t.val = (if t.val % 2 = 1 then -1 else 0) ∧ g_iva 1433 t.val = (if t.val % 2 = 1 then ((t.val : Int) + 1) / 2 else 0) := by decide +kernel
theorem g_rk : ∀ t : Fin 50, g_iva 1436 t.val = (if t.val % 2 = 1 ∧ 3 ≤ t.val then 1 else 0) := by decide +kernel
theorem g_rhk : ∀ a : Fin 64, ∀ b : Fin 64, g_iva 1435 (64 * a.val + b.val) = -1 ∨ (1 ≤ g_iva 1435 (64 * a.val + b.val) ∧ g_iva 1435 (64 * a.val + b.val) ≤ 49 ∧ g_iva 1435 (64 * a.val + b.val) % 2 = 1) := by decide +kernel
theorem g_rh (b : Fin 4096) : g_iva 1435 b.val = -1 ∨ (1 ≤ g_iva 1435 b.val ∧ g_iva 1435 b.val ≤ 49 ∧ g_iva 1435 b.val % 2 = 1) := by
  have hb := b.isLt
  have k := g_rhk ⟨b.val / 64, by omega⟩ ⟨b.val % 64, by omega⟩
  have k : g_iva 1435 (64 * (b.val / 64) + b.val % 64) = -1 ∨ (1 ≤ g_iva 1435 (64 * (b.val / 64) + b.val % 64) ∧ g_iva 1435 (64 * (b.val / 64) + b.val % 64) ≤ 49 ∧ g_iva 1435 (64 * (b.val / 64) + b.val % 64) % 2 = 1) := k
  rw [show 64 * (b.val / 64) + b.val % 64 = b.val by omega] at k
  exact k
def g_rch (b : Nat) : List Nat := if 4096 ≤ b then [] else if g_iva 1435 b = -1 then [] else [(g_iva 1435 b).toNat]
theorem g_rhm : ∀ t : Fin 50, t.val % 2 = 1 → t.val ∈ g_rch (m_h (if t.val = 1 then 0 else 5) (if t.val = 1 then 0 else (t.val : Int) - 1) 0 0 []).toNat := by decide +kernel
theorem g_rn : ∀ i : Fin 25, g_iva 1434 (i.val + 1) = 2 * (i.val : Int) + 1 := by decide +kernel
theorem g_rm0 : ∀ m : Fin 24, g_iva 1438 m.val = ((2 * m.val + 2 : Nat) : Int) ∧ g_iva 1439 m.val = ((2 * m.val + 3 : Nat) : Int) ∧ g_iva 1443 m.val = 0 ∧ g_iva 1444 m.val = 0 ∧ g_iva 1461 m.val = 0 ∧ g_iva 1462 m.val = 0 ∧ g_iva 1463 m.val = 0 := by decide +kernel
theorem g_ry : ∀ k : Fin 20, g_iva 1424 k.val % 256 = 0 := by decide +kernel
theorem g_tz : w_d g_mk 1 = w_tm (w_d g_mk) 0 0 0 0 [] := by decide +kernel
theorem g_i1 (k : Nat) : g_I 1000 k = g_iva 1423 k := if_pos rfl
theorem g_if {f a : Nat} (h : f ≠ 1000) (e : sr_a f = a) (k : Nat) : g_I f k = g_iva a k := by
  unfold g_I
  rw [if_neg h, e]
theorem g_sra : sr_a 1 = 1424 ∧ sr_a 6 = 1426 ∧ sr_a 7 = 1427 ∧ sr_a 8 = 1428 ∧ sr_a 9 = 1429 ∧ sr_a 10 = 1430 ∧ sr_a 11 = 1431 ∧ sr_a 12 = 1432 ∧ sr_a 13 = 1433 ∧ sr_a 14 = 1434 ∧ sr_a 15 = 1435 ∧ sr_a 16 = 1436 ∧ sr_a 20 = 1438 ∧ sr_a 21 = 1439 ∧ sr_a 27 = 1443 ∧ sr_a 28 = 1444 ∧ sr_a 45 = 1461 ∧ sr_a 46 = 1462 ∧ sr_a 47 = 1463 := by decide +kernel
theorem g_srm {n : Nat} {s : Nat → Int} : sr_m (g_H n s) g_I := by
  refine ⟨g_1423.1, fun f => ?_, fun f hf => ?_⟩
  · rw [g_hiv (by decide), g_i1]
  · obtain ⟨b1, b2, _⟩ := sr_bnd hf
    have fl := sr_lt hf
    obtain ⟨a1, a2, a3⟩ := g_rm ⟨f, fl⟩ hf
    refine ⟨a1, a2, by rw [g_hln (by omega)]; exact a3, fun k => ?_⟩
    rw [g_hiv (by omega), g_if (by omega) rfl]
theorem g_I4 : g_I 1000 4 = 49 := by rw [g_i1]; exact g_1423.2.2.2.1
theorem g_I5 : g_I 1000 5 = 0 := by rw [g_i1]; exact g_1423.2.2.2.2.1
theorem g_irow {t : Nat} (h1 : 1 ≤ t) (h2 : t ≤ 49) : g_I 6 t = (if t = 1 then 0 else if t % 2 = 1 then 5 else 8) ∧ g_I 7 t = (if t % 2 = 1 ∧ 3 ≤ t then (t : Int) - 1 else 0) ∧ (g_I 8 t = 0 ∧ g_I 9 t = 0 ∧ g_I 10 t = 0 ∧ g_I 11 t = 0) ∧ g_I 12 t = (if t % 2 = 1 then -1 else 0) ∧ g_I 13 t = (if t % 2 = 1 then ((t : Int) + 1) / 2 else 0) := by
  obtain ⟨_, s6, s7, s8, s9, s10, s11, s12, s13, _⟩ := g_sra
  rw [g_if (by decide) s6, g_if (by decide) s7, g_if (by decide) s8, g_if (by decide) s9, g_if (by decide) s10, g_if (by decide) s11, g_if (by decide) s12, g_if (by decide) s13]
  exact g_rt ⟨t, by omega⟩ h1
theorem g_msn {t : Nat} (h1 : 1 ≤ t) (h2 : t ≤ 49) : m_sn g_I t = [] := by
  unfold m_sn
  rw [(g_irow h1 h2).2.2.1.2.2.2]
  rfl
theorem g_mrw {t : Nat} (h1 : 1 ≤ t) (h2 : t ≤ 49) : m_rw g_I (w_d g_mk) 24 t := by
  obtain ⟨e6, e7, ⟨e8, e9, e10, e11⟩, _⟩ := g_irow h1 h2
  unfold m_rw
  rw [g_msn h1 h2, g_I5, e10, e11]
  by_cases c1 : t = 1
  · subst c1
    have e6 : g_I 6 1 = 0 := e6
    have e7 : g_I 7 1 = 0 := e7
    rw [e6, e7, e8, e9]
    refine ⟨?_, by omega, by omega, by omega, fun x hx => (by cases hx), fun _ => g_tz, fun e => absurd e (by decide)⟩
    unfold m_va
    exact ⟨by omega, by omega, by omega, by omega, by omega, by omega, by omega, fun e => absurd e (by decide), fun _ => by omega, fun _ => ⟨rfl, rfl, rfl⟩, fun e => by omega, fun e => absurd e (by decide), fun e => absurd e (by decide), fun e => absurd e (by decide)⟩
  · rw [if_neg c1] at e6
    by_cases c : t % 2 = 1
    · rw [if_pos c] at e6
      rw [if_pos ⟨c, by omega⟩] at e7
      rw [e6, e7, e8, e9]
      refine ⟨?_, by omega, by omega, by omega, fun x hx => (by cases hx), fun _ => g_tm ⟨t, by omega⟩ c (by show 3 ≤ t; omega), fun e => absurd e (by decide)⟩
      unfold m_va
      exact ⟨by omega, by omega, by omega, by omega, by omega, by omega, by omega, fun e => absurd e (by decide), fun _ => by omega, fun e => by omega, fun _ => by omega, fun e => absurd e (by decide), fun e => absurd e (by decide), fun e => absurd e (by decide)⟩
    · rw [if_neg c] at e6
      rw [if_neg (fun h => c h.1)] at e7
      rw [e6, e7, e8, e9]
      refine ⟨?_, by omega, by omega, by omega, fun x hx => (by cases hx), fun e => absurd rfl e, fun _ => ⟨(t - 2) / 2, ⟨by omega, rfl⟩, ?_⟩⟩
      · unfold m_va
        exact ⟨by omega, by omega, by omega, by omega, by omega, by omega, by omega, fun e => absurd e (by decide), fun _ => by omega, fun _ => ⟨rfl, rfl, rfl⟩, fun e => by omega, fun e => absurd e (by decide), fun e => absurd e (by decide), fun e => absurd e (by decide)⟩
      · have := (g_d2 ⟨(t - 2) / 2, by omega⟩).1
        have this : w_d g_mk (2 * ((t - 2) / 2) + 2) = w_nm ((t - 2) / 2) := this
        rw [show 2 * ((t - 2) / 2) + 2 = t by omega] at this
        exact this
theorem g_mT : m_T g_I (w_d g_mk) 24 := by
  unfold m_T
  rw [g_I4, g_I5]
  refine ⟨by omega, by omega, by omega, by omega, fun t h1 h2 => g_mrw h1 (by omega), fun t u h1 h2 h3 h4 e => g_dij h1 (by omega) h3 (by omega) e, g_rch, fun b => ?_, fun b t h => ?_, fun t h1 h2 h8 => ?_⟩
  · by_cases c : 4096 ≤ b
    · exact Or.inr c
    · left
      have k := g_rh ⟨b, by omega⟩
      have k : g_iva 1435 b = -1 ∨ (1 ≤ g_iva 1435 b ∧ g_iva 1435 b ≤ 49 ∧ g_iva 1435 b % 2 = 1) := k
      rw [g_if (by decide) g_sra.2.2.2.2.2.2.2.2.2.2.1]
      unfold g_rch
      rw [if_neg c]
      rcases k with e | ⟨k1, k2, k3⟩
      · rw [if_pos e]; exact e
      · rw [if_neg (by omega)]
        refine ⟨by omega, ?_⟩
        show g_I 12 (g_iva 1435 b).toNat = -1
        rw [(g_irow (t := (g_iva 1435 b).toNat) (by omega) (by omega)).2.2.2.1, if_pos (by omega)]
  · unfold g_rch at h
    by_cases c : 4096 ≤ b
    · rw [if_pos c] at h; cases h
    · rw [if_neg c] at h
      have k := g_rh ⟨b, by omega⟩
      have k : g_iva 1435 b = -1 ∨ (1 ≤ g_iva 1435 b ∧ g_iva 1435 b ≤ 49 ∧ g_iva 1435 b % 2 = 1) := k
      rcases k with e | ⟨k1, k2, k3⟩
      · rw [if_pos e] at h; cases h
      · rw [if_neg (by omega), List.mem_singleton] at h
        omega
  · have h2 : t ≤ 49 := by omega
    obtain ⟨e6, e7, ⟨e8, e9, _, _⟩, _⟩ := g_irow h1 h2
    have c : t % 2 = 1 := by
      rcases Classical.em (t % 2 = 1) with c | c
      · exact c
      · rw [if_neg (by omega), if_neg c] at e6
        exact absurd e6 h8
    rw [g_msn h1 h2, e6, e7, e8, e9]
    have k := g_rhm ⟨t, by omega⟩ c
    have k : t ∈ g_rch (m_h (if t = 1 then 0 else 5) (if t = 1 then 0 else (t : Int) - 1) 0 0 []).toNat := k
    by_cases c1 : t = 1
    · rw [if_pos c1, if_neg (by omega)]
      rw [if_pos c1, if_pos c1] at k
      exact k
    · rw [if_neg c1, if_pos c, if_pos ⟨c, by omega⟩]
      rw [if_neg c1, if_neg c1] at k
      exact k
theorem g_ik (t : Nat) : g_I 16 t = if t ≤ 49 ∧ t % 2 = 1 ∧ 3 ≤ t then 1 else 0 := by
  rw [g_if (by decide) g_sra.2.2.2.2.2.2.2.2.2.2.2.1]
  by_cases c : t ≤ 49
  · have k := g_rk ⟨t, by omega⟩
    have k : g_iva 1436 t = (if t % 2 = 1 ∧ 3 ≤ t then 1 else 0) := k
    rw [k]
    by_cases c1 : t % 2 = 1 ∧ 3 ≤ t
    · rw [if_pos c1, if_pos ⟨c, c1⟩]
    · rw [if_neg c1, if_neg (fun h => c1 h.2)]
  · rw [g_hi g_s16 (by omega), if_neg (fun h => c h.1)]
theorem g_mK : m_K g_I (w_d g_mk) g_K := by
  refine ⟨fun t => ?_, fun t h => ?_, Or.inl (by rw [g_i1]; exact g_1423.2.2.2.2.2.2.1), fun h => ?_, fun w => ?_⟩
  · rw [g_ik]
    split
    · exact Or.inr rfl
    · exact Or.inl rfl
  · unfold m_k at h
    rw [g_ik] at h
    unfold m_R
    rw [g_I4]
    split at h <;> omega
  · rw [g_i1, g_1423.2.2.2.2.2.2.1] at h
    exact absurd h (by decide)
  · have hk : ∀ {u : Nat}, m_k g_I u ↔ u ≤ 49 ∧ u % 2 = 1 ∧ 3 ≤ u := fun {u} => by
      unfold m_k
      rw [g_ik]
      constructor
      · intro h
        split at h <;> omega
      · intro h
        rw [if_pos h]
    constructor
    · intro h
      refine w_cl_le (w_cl_clo _) (fun v hv => ?_) h
      obtain ⟨i, hi⟩ := List.mem_iff_getElem?.mp hv
      obtain ⟨b1, b2⟩ := g_tlw hi
      by_cases c : i = 0
      · subst c
        have b2 : w_d g_mk 1 = v := b2
        refine (w_cl_clo _ v).1 ⟨0, [], [], [], [], ?_, Or.inl rfl⟩
        rw [← b2, g_d1]
        rfl
      · exact w_cl_base ⟨2 * i + 1, hk.mpr (by omega), b2⟩
    · intro h
      refine w_cl_mono (fun v hv => ?_) h
      obtain ⟨u, hu, e⟩ := hv
      rw [← e]
      have := hk.mp hu
      exact g_tlm this.1 this.2.1
theorem g_mN : m_N g_I (w_d g_mk) g_tl := by
  have l := g_len.2
  refine ⟨by rw [g_i1, l]; exact g_1423.2.2.2.2.2.1, fun i w h => ?_, fun t ht => ?_, fun t ht => ?_, g_tn⟩
  · obtain ⟨b1, b2⟩ := g_tlw h
    refine ⟨2 * i + 1, ?_, ?_, b2⟩
    · unfold m_R
      rw [g_I4]
      omega
    · rw [g_if (by decide) g_sra.2.2.2.2.2.2.2.2.2.1]
      have a := g_rn ⟨i, b1⟩
      have a : g_iva 1434 (i + 1) = 2 * (i : Int) + 1 := a
      rw [a]
      omega
  · unfold m_R at ht
    rw [g_I4] at ht
    rw [(g_irow ht.1 (by omega)).2.2.2.2]
    exact (g_idx ⟨t, by omega⟩ ht.1).symm
  · rw [g_I4] at ht
    rw [g_if (by decide) g_sra.2.2.2.2.2.2.2.2.1]
    exact g_hi g_s13 (by omega)
theorem g_mL : m_L g_I g_mk 24 g_K g_tl := ⟨g_mT, g_mK, g_mN, by rw [g_I4, g_len.1]; rfl, by rw [g_I5, g_tot]; rfl⟩
theorem g_mZ : m_ZZ g_I g_mk 0 24 g_K g_tl [] (fun _ => 0) [] g_B := by
  obtain ⟨s1, _, _, _, _, _, _, _, _, _, _, _, s20, s21, s27, s28, s45, s46, s47⟩ := g_sra
  refine ⟨⟨g_mL, fun m hm => ?_, ⟨by rw [g_i1]; exact g_1423.2.2.2.2.2.2.2.1, by decide, by rw [g_i1, g_1423.2.2.2.2.2.2.2.2]; decide, by rw [g_i1, g_1423.2.2.2.2.2.2.2.2]; decide, fun i l h => (by cases h)⟩, by rw [g_i1]; exact g_1423.2.2.2.2.2.2.2.2⟩, ⟨by rw [g_i1]; exact g_1423.2.2.1, by decide, fun k w h => (by cases h)⟩, fun k hk => ⟨by rw [g_if (by decide) s1]; exact g_ry ⟨k, hk⟩, (by show (0 : Int) ≤ 0; decide), (by show (0 : Int) < 256; decide)⟩, g_at1, fun m hm => ?_⟩
  · obtain ⟨a1, a2, _⟩ := g_rm0 ⟨m, hm⟩
    have a1 : g_iva 1438 m = ((2 * m + 2 : Nat) : Int) := a1
    have a2 : g_iva 1439 m = ((2 * m + 3 : Nat) : Int) := a2
    rw [g_if (by decide) s20, g_if (by decide) s21, a1, a2]
    exact g_atm hm
  · obtain ⟨_, _, a3, a4, a5, a6, a7⟩ := g_rm0 ⟨m, hm⟩
    refine ⟨Or.inr ⟨by rw [g_if (by decide) s27]; exact a3, fun h => h⟩, fun h => h.elim, ?_, ⟨by rw [g_if (by decide) s46]; exact a6, Nat.zero_le _, fun i k h hi => (by cases hi)⟩, ⟨by rw [g_if (by decide) s47]; exact a7, Nat.zero_le _, fun i h v hi => (by cases hi)⟩, ⟨by rw [g_if (by decide) s45]; exact a5, Nat.zero_le _, fun i k u v hi => (by cases hi)⟩⟩
    show g_I 28 m = 0
    rw [g_if (by decide) s28]; exact a4
theorem g_lZ {n : Nat} {s : Nat → Int} (hn : n ≤ 3072) : l_Z n s (g_H n s) g_mk g_mk 24 g_K g_tl [] (fun _ => 0) [] g_B 1490 2285572 := by
  refine ⟨⟨rfl, hn, fun f => rfl, ?_⟩, g_ZZ, ⟨g_I, 0, g_srm, g_mZ⟩, fun m hm => ⟨[], [], ?_⟩, fun w hw => ?_, w_cl_clo _⟩
  · rw [g_hln (by decide)]
    decide +kernel
  · refine ⟨⟨fun h => h.elim, ⟨rfl, fun i k h hi => (by cases hi)⟩, ⟨rfl, fun i k u v hi => (by cases hi)⟩, fun e he => (by cases he), (by show (0 : Nat) < 340; decide)⟩, fun i k h hi => (by cases hi), List.nodup_nil, Nat.zero_le _, fun u hu => (by cases hu), fun _ => ⟨rfl, rfl, rfl⟩, fun lp G h => (by cases h)⟩
  · unfold g_mk at hw
    rcases List.mem_cons.mp hw with e | e
    · rw [e]; exact w_g5_t (by decide)
    · obtain ⟨m, _, h⟩ := List.mem_flatMap.mp e
      rcases List.mem_cons.mp h with e | e
      · rw [e]; exact w_g5_n
      · rw [List.mem_singleton.mp e]; exact w_g5_p
end
end
