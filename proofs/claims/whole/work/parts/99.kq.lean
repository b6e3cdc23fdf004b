/-! ===== the class at the law's loop ===== -/
noncomputable section
/-- a member that is out -/
def g_B (_ : Nat) : v_M := (False, ((0, 0, w_T0 0 [], [], [], [], fun _ => []) : w_G), none, [], [], [])
def g_pl (i : Nat) : Nat := if i = 0 then 96 else if i % 2 = 1 then 121 + 54 * ((i - 1) / 2) else 144 + 54 * ((i - 2) / 2)
section
theorem g_full : (List.range 1491).all (fun a => Nat.blt 0 (g_tya (a + 1))) = true := by decide +kernel
theorem g_k11 : g_tya 11 = 32 ∧ g_rva 11 0 = 3 ∧ g_rva 11 1 = 12 ∧ g_rva 11 2 = 13 ∧ g_rva 11 3 = 14 ∧ g_rva 11 4 = 16 ∧ g_rva 11 5 = 17 ∧ (g_tya 12 = 1 ∧ g_lna 12 = 24) ∧ (g_tya 13 = 1 ∧ g_lna 13 = 24) ∧ g_lna 15 = 1400 ∧ (g_tya 16 = 1 ∧ g_lna 16 = 31) ∧ (g_tya 17 = 1 ∧ g_lna 17 = 144) := by decide +kernel
theorem g_k12 : ∀ m : Fin 24, g_iva 12 m.val = ((2 * m.val + 2 : Nat) : Int) ∧ g_iva 13 m.val = ((2 * m.val + 3 : Nat) : Int) := by decide +kernel
theorem g_k14 : g_tya 14 = 80 ∧ g_rva 14 0 = 15 ∧ g_tya 15 = 1 ∧ g_iva 14 1 = 0 := by decide +kernel
theorem g_k2 : g_tya 2 = 8 ∧ g_rva 2 0 = 3 ∧ g_rva 2 1 = 11 ∧ g_rva 2 2 = 119 ∧ g_rva 2 3 = 1416 ∧ g_rva 2 5 = 1417 ∧ g_rva 2 6 = 1419 ∧ g_rva 2 7 = 18 ∧ g_rva 2 8 = 44 ∧ g_rva 2 9 = 85 ∧ g_rva 2 10 = 94 ∧ g_rva 2 11 = 1420 ∧ g_rva 2 12 = 1422 ∧ g_tya 1416 = 81 ∧ g_lna 1416 = 300 := by decide +kernel
theorem g_k24 : g_iva 2 4 = 0 := by decide +kernel
theorem g_k17 : g_tya 1417 = 80 ∧ g_rva 1417 0 = 1418 ∧ g_tya 1418 = 1 ∧ g_iva 1417 1 = 0 ∧ g_lna 1418 = 1200 := by decide +kernel
theorem g_k19 : g_tya 1419 = 1 ∧ g_lna 1419 = 20 := by decide +kernel
theorem g_k19z : ∀ k : Fin 20, g_iva 1419 k.val = 0 := by decide +kernel
theorem g_k20 : g_tya 1420 = 80 ∧ g_rva 1420 0 = 1421 ∧ g_tya 1421 = 1 ∧ g_iva 1420 1 = 0 ∧ g_lna 1421 = 1400 := by decide +kernel
theorem g_kms : g_tya 119 = 57 ∧ g_lna 119 = 24 := by decide +kernel
theorem g_kmb : ∀ m : Fin 24, g_rva 119 m.val = 120 + 54 * m.val ∧ g_tya (120 + 54 * m.val) = 56 ∧ g_iva (120 + 54 * m.val) 0 = (m.val : Int) ∧ g_iva (120 + 54 * m.val) 1 = ((2 * m.val + 2 : Nat) : Int) ∧ g_iva (120 + 54 * m.val) 2 = ((2 * m.val + 3 : Nat) : Int) := by decide +kernel
theorem g_kmz : ∀ m : Fin 24, g_iva (120 + 54 * m.val) 3 = 0 ∧ g_iva (120 + 54 * m.val) 6 = -1 ∧ g_iva (120 + 54 * m.val) 9 = 0 ∧ g_iva (120 + 54 * m.val) 11 = 0 ∧ g_iva (120 + 54 * m.val) 16 = 0 := by decide +kernel
theorem g_kmr : ∀ m : Fin 24, g_rva (120 + 54 * m.val) 4 = 121 + 54 * m.val ∧ g_rva (120 + 54 * m.val) 5 = 144 + 54 * m.val ∧ g_rva (120 + 54 * m.val) 7 = 120 + 54 * m.val + 47 ∧ g_rva (120 + 54 * m.val) 8 = 120 + 54 * m.val + 48 := by decide +kernel
theorem g_kmk : ∀ m : Fin 24, g_tya (120 + 54 * m.val + 47) = 1 ∧ g_tya (120 + 54 * m.val + 48) = 1 ∧ g_lna (120 + 54 * m.val + 47) = g_lna (120 + 54 * m.val + 48) ∧ 20 ≤ g_lna (120 + 54 * m.val + 48) ∧ g_lna (120 + 54 * m.val + 48) ≤ 1000 := by decide +kernel
theorem g_kma : ∀ m : Fin 24, g_rva (120 + 54 * m.val) 10 = 120 + 54 * m.val + 49 ∧ g_rva (120 + 54 * m.val) 12 = 120 + 54 * m.val + 50 ∧ g_rva (120 + 54 * m.val) 13 = 120 + 54 * m.val + 51 ∧ g_rva (120 + 54 * m.val) 14 = 120 + 54 * m.val + 52 ∧ g_rva (120 + 54 * m.val) 15 = 120 + 54 * m.val + 53 ∧ (g_tya (120 + 54 * m.val + 49) = 1 ∧ g_lna (120 + 54 * m.val + 49) = 20) := by decide +kernel
theorem g_kmi : ∀ m : Fin 24, ∀ i : Fin 4, g_tya (120 + 54 * m.val + (50 + i.val)) = 1 ∧ g_lna (120 + 54 * m.val + (50 + i.val)) = 8 := by decide +kernel
theorem g_k44 : g_tya 44 = 24 ∧ g_tya 18 = 72 ∧ g_rva 18 0 = 3 ∧ g_tya 1422 = 48 := by decide +kernel
theorem g_kch : g_rva 44 0 = 11 ∧ g_rva 44 3 = 45 ∧ g_rva 44 4 = 46 ∧ g_rva 44 5 = 47 ∧ g_rva 44 6 = 48 ∧ g_rva 44 7 = 49 ∧ g_rva 44 8 = 50 ∧ g_rva 44 9 = 51 ∧ g_rva 44 12 = 52 := by decide +kernel
theorem g_kcb : (g_tya 45 = 1 ∧ g_lna 45 = 32) ∧ (g_tya 46 = 1 ∧ g_lna 46 = 32) ∧ (g_tya 48 = 1 ∧ g_lna 48 = 32) ∧ (g_tya 49 = 1 ∧ g_lna 49 = 32) ∧ (g_tya 50 = 1 ∧ g_lna 50 = 32) ∧ (g_tya 47 = 81 ∧ g_lna 47 = 32) ∧ (g_tya 51 = 49 ∧ g_lna 51 = 32) ∧ (g_tya 52 = 1 ∧ g_lna 52 = 16) := by decide +kernel
theorem g_kcc : ∀ k : Fin 32, g_rva 51 k.val = 53 + k.val ∧ g_tya (53 + k.val) = 48 := by decide +kernel
theorem g_kpa : g_tya 85 = 64 ∧ g_rva 85 7 = 91 ∧ g_rva 85 8 = 92 ∧ g_rva 85 9 = 93 ∧ (g_tya 91 = 1 ∧ g_lna 91 = 5) ∧ (g_tya 92 = 1 ∧ g_lna 92 = 576) ∧ g_tya 93 = 1 ∧ g_lna 93 = 144 ∧ g_iva 91 0 = 0 := by decide +kernel
theorem g_kpi : ∀ i : Fin 6, 1 ≤ i.val → g_rva 85 i.val = 85 + i.val ∧ g_tya (85 + i.val) = 1 ∧ g_lna (85 + i.val) = 4 := by decide +kernel
theorem g_kta : g_tya 94 = 88 ∧ g_rva 94 0 = 3 ∧ g_rva 94 1 = 11 ∧ g_rva 94 2 = 18 ∧ g_rva 94 3 = 44 ∧ g_rva 94 4 = 85 ∧ g_rva 94 5 = 95 ∧ g_tya 95 = 48 := by decide +kernel
theorem g_kt6 : g_rva 94 6 = 96 := by decide +kernel
theorem g_kre : g_rva 18 12 = 19 ∧ g_rva 18 13 = 20 ∧ g_rva 18 14 = 21 ∧ g_rva 18 15 = 22 ∧ g_rva 18 16 = 23 := by decide +kernel
theorem g_kri : ∀ i : Fin 3, g_tya (19 + i.val) = 1 ∧ g_lna (19 + i.val) = 4 := by decide +kernel
theorem g_k22 : g_tya 22 = 48 := by decide +kernel
/-- trees: that of the Reader, those of the groups -/
def g_tr (i : Nat) : Nat := if i = 49 then 23 else g_pl i + 1
theorem g_ts1 : ∀ i : Fin 50, g_tya (g_tr i.val) = 104 ∧ g_rva (g_tr i.val) 1 = g_tr i.val + 1 ∧ g_rva (g_tr i.val) 2 = g_tr i.val + 2 ∧ g_rva (g_tr i.val) 3 = g_tr i.val + 3 ∧ g_rva (g_tr i.val) 4 = g_tr i.val + 4 ∧ g_tya (g_tr i.val + 4) = 49 ∧ g_lna (g_tr i.val + 4) = 16 := by decide +kernel
theorem g_ts2 : ∀ i : Fin 50, ∀ j : Fin 4, 1 ≤ j.val → g_tya (g_tr i.val + j.val) = 1 ∧ g_lna (g_tr i.val + j.val) = 31 := by decide +kernel
theorem g_ts3 : ∀ i : Fin 50, ∀ k : Fin 16, g_rva (g_tr i.val + 4) k.val = g_tr i.val + 5 + k.val ∧ g_tya (g_tr i.val + 5 + k.val) = 48 := by decide +kernel
theorem g_gs1 : ∀ i : Fin 49, g_tya (g_pl i.val) = 40 ∧ g_rva (g_pl i.val) 0 = g_pl i.val + 1 ∧ g_rva (g_pl i.val) 1 = g_pl i.val + 22 ∧ g_tya (g_pl i.val + 22) = 1 ∧ g_lna (g_pl i.val + 22) = 31 := by decide +kernel
variable {n : Nat} {s : Nat → Int}
theorem g_plb {i : Nat} (h : i < 49) : 96 ≤ g_pl i ∧ g_pl i + 22 ≤ 1415 := by
  unfold g_pl
  split
  · omega
  · split <;> omega
theorem g_hts {i : Nat} (h : i < 50) : c_ts (g_H n s) (g_tr i) := by
  have b : 17 < g_tr i ∧ g_tr i + 20 ≤ 1491 := by
    unfold g_tr
    split
    · omega
    · have := g_plb (i := i) (by omega)
      omega
  obtain ⟨a1, a2, a3, a4, a5, a6, a7⟩ := g_ts1 ⟨i, h⟩
  refine ⟨b.1, b.2, a1, a2, a3, a4, a5, fun j h1 h2 => ?_, a6, by rw [g_hln (by omega)]; exact a7, fun k hk => g_ts3 ⟨i, h⟩ ⟨k, hk⟩⟩
  rw [g_hln (by omega)]
  exact g_ts2 ⟨i, h⟩ ⟨j, by omega⟩ h1
theorem g_hgs {i : Nat} (h : i < 49) : c_gs (g_H n s) (g_pl i) := by
  have b := g_plb h
  obtain ⟨a1, a2, a3, a4, a5⟩ := g_gs1 ⟨i, h⟩
  refine ⟨by omega, by omega, a1, a2, a3, a4, by rw [g_hln (by omega)]; exact a5, ?_⟩
  have := g_hts (n := n) (s := s) (i := i) (by omega)
  unfold g_tr at this
  rw [if_neg (by omega)] at this
  exact this
theorem g_cpl {i : Nat} (h : i < 49) : c_pl (g_pl i) := by
  unfold g_pl
  split
  · exact Or.inl rfl
  · split
    · exact Or.inr ⟨(i - 1) / 2, by omega, Or.inl rfl⟩
    · exact Or.inr ⟨(i - 2) / 2, by omega, Or.inr rfl⟩
theorem g_plc {i : Nat} (h : i < 49) : c_plc (g_H n s) i = g_pl i := by
  unfold c_plc g_pl
  by_cases c0 : i = 0
  · rw [if_pos c0, if_pos c0]; exact g_kt6
  · rw [if_neg c0, if_neg c0]
    by_cases c1 : i % 2 = 1
    · rw [if_pos c1, if_pos c1]
      exact (g_kmr ⟨(i - 1) / 2, by omega⟩).1
    · rw [if_neg c1, if_neg c1]
      exact (g_kmr ⟨(i - 2) / 2, by omega⟩).2.1
theorem g_PL : c_PL (g_H n s) := by
  refine ⟨fun k hk => ?_, fun j k hj hk e => ?_⟩
  · rw [g_plc hk]; exact ⟨g_cpl hk, g_hgs hk⟩
  · rw [g_plc hj, g_plc hk] at e
    unfold g_pl at e
    split at e <;> split at e
    all_goals (try split at e)
    all_goals (try split at e)
    all_goals omega
theorem g_row0 {r a : Nat} (h1 : r ≠ 1) (h2 : a ≠ 1) (t : g_tya r = 80) (p : g_rva r 0 = a) (t2 : g_tya a = 1) (z : g_iva r 1 = 0) (l : g_lna a ≤ 134217728) : c_row (g_H n s) r a [] := ⟨t, p, t2, by rw [g_hiv h1]; exact z, Nat.zero_le _, by rw [g_hln h2]; exact l, rfl⟩
theorem g_sg0 {d : Nat → Wt} {r a : Nat} (h : c_row (g_H n s) r a []) : c_sg (g_H n s) d r a [] := ⟨[], h, fun x hx => (by cases hx), rfl⟩
theorem g_L : c_L (g_H n s) g_mk 24 g_K g_tl := ⟨g_cA, by rw [g_cn, g_len.1]; rfl, by rw [g_su, g_tot]; rfl⟩
theorem g_V : c_V (g_H n s) g_mk 24 g_K g_tl 1490 2285572 := by
  obtain ⟨l5, l6, l7, l8, l9, l10⟩ := g_l3
  refine ⟨g_L, fun c hc => g_F hc, ?_, fun a h1 h2 => ?_, fun a ha => ?_⟩
  · unfold c_q c_qb
    rw [g_q1, g_q3, g_q5, g_q6, g_q8, g_hln (by decide), g_hln (by decide), g_hln (by decide), g_hln (by decide), g_hln (by decide), l6, l7, l8, l9, l10, g_cn, g_su, g_hiv (by decide), g_i3.2.2.1]
    refine ⟨?_, Or.inl rfl⟩
    unfold c_qr
    have e1 : sw_n (g_H n s) = 1490 := rfl
    have e2 : sw_s (g_H n s) = 2290948 := rfl
    rw [e1, e2]
    omega
  · have := List.all_eq_true.mp g_full (a - 1) (List.mem_range.mpr (by omega))
    rw [show a - 1 + 1 = a by omega] at this
    have := Nat.blt_eq.mp this
    show g_tya a ≠ 0
    omega
  · have := g_cow.mp ha
    omega
theorem g_C : c_C (g_H n s) g_mk := by
  obtain ⟨a1, a2, a3, a4, a5, a6, a7, ⟨b1, b2⟩, ⟨b3, b4⟩, b5, ⟨b6, b7⟩, b8, b9⟩ := g_k11
  refine ⟨a1, a2, a3, a4, a5, a6, a7, ⟨b1, by rw [g_hln (by decide)]; exact b2⟩, ⟨b3, by rw [g_hln (by decide)]; exact b4⟩, by rw [g_hln (by decide)]; exact b5, ⟨b6, by rw [g_hln (by decide)]; exact b7⟩, ⟨b8, by rw [g_hln (by decide)]; exact b9⟩, fun m hm => ?_⟩
  have k := g_k12 ⟨m, hm⟩
  have k1 : g_iva 12 m = ((2 * m + 2 : Nat) : Int) := k.1
  have k2 : g_iva 13 m = ((2 * m + 3 : Nat) : Int) := k.2
  rw [g_hiv (by decide), g_hiv (by decide), k1, k2]
  exact g_atm hm
theorem g_W : c_W (g_H n s) g_mk 24 g_K g_tl 1490 2285572 := by
  obtain ⟨a1, a2, a3, a4⟩ := g_k14
  exact ⟨g_V, g_C, [], g_row0 (by decide) (by decide) a1 a2 a3 a4 (by rw [g_k11.2.2.2.2.2.2.2.2.2.1]; decide)⟩
theorem g_X : c_X (g_H n s) g_mk [] (fun _ => 0) [] := by
  obtain ⟨a1, a2, a3, a4, a5, a6, a7, a8, a9, a10, a11, a12, a13, a14, a15⟩ := g_k2
  obtain ⟨b1, b2, b3, b4, b5⟩ := g_k17
  refine ⟨⟨a1, a2, a3, a4, a5, a6, a7, a8, a9, a10, a11, a12, a13, a14, by rw [g_hln (by decide)]; exact a15⟩, ⟨g_sg0 (g_row0 (by decide) (by decide) b1 b2 b3 b4 (by rw [b5]; decide)), by rw [g_hln (by decide)]; exact b5⟩, ⟨g_k19.1, by rw [g_hln (by decide)]; exact g_k19.2, fun k hk => ⟨by rw [g_hiv (by decide)]; exact g_k19z ⟨k, hk⟩, (by show (0 : Int) ≤ 0; decide), (by show (0 : Int) < 256; decide)⟩⟩, by rw [g_hiv (by decide)]; exact g_k24, by decide, fun i l h => (by cases h)⟩
theorem g_MS : c_MS (g_H n s) g_mk := by
  refine ⟨g_kms.1, by rw [g_hln (by decide)]; exact g_kms.2, fun m hm => ?_⟩
  obtain ⟨a1, a2, a3, a4, a5⟩ := g_kmb ⟨m, hm⟩
  have a3 : g_iva (120 + 54 * m) 0 = (m : Int) := a3
  have a4 : g_iva (120 + 54 * m) 1 = ((2 * m + 2 : Nat) : Int) := a4
  have a5 : g_iva (120 + 54 * m) 2 = ((2 * m + 3 : Nat) : Int) := a5
  rw [g_hiv (by omega), g_hiv (by omega), g_hiv (by omega), a3, a4, a5]
  exact ⟨a1, a2, rfl, (g_atm hm).1, (g_atm hm).2⟩
theorem g_ka {m f : Nat} (hm : m < 24) (hf : f = 7 ∨ f = 8) : c_ka (g_H n s) m f = 120 + 54 * m + 40 + f := by
  unfold c_ka
  rcases hf with e | e <;> subst e
  · exact (g_kmr ⟨m, hm⟩).2.2.1
  · exact (g_kmr ⟨m, hm⟩).2.2.2
theorem g_KS : c_KS (g_H n s) g_mk [] (fun m => v_La (g_B m)) := by
  refine ⟨fun m hm => ⟨?_, ?_⟩, fun m m' f f' hm hm' hf hf' e => ?_, fun m f i hm hf hi => absurd hi (by simp)⟩
  · obtain ⟨a1, a2, a3, a4, a5⟩ := g_kmk ⟨m, hm⟩
    unfold c_kp
    rw [g_ka hm (Or.inl rfl), g_ka hm (Or.inr rfl), g_hln (by omega), g_hln (by omega), g_cow, g_cow]
    exact ⟨⟨a1, a2⟩, a3, a4, a5, ⟨by omega, by omega⟩, Or.inl rfl, Or.inl rfl⟩
  · refine ⟨?_, Nat.zero_le _, fun i k h hi => (by cases hi)⟩
    rw [g_hiv (by omega)]
    exact (g_kmz ⟨m, hm⟩).2.2.1
  · rw [g_ka hm hf, g_ka hm' hf'] at e
    omega
theorem g_tol : c_tol (g_H n s) := by
  obtain ⟨c1, c2, c3, c4, c5, c6, c7, c8, c9⟩ := g_kch
  obtain ⟨d1, d2, d3, d4, d5, d6, d7, d8⟩ := g_kcb
  obtain ⟨p1, p2, p3, p4, p5, p6, p7, p8, p9⟩ := g_kpa
  obtain ⟨r1, r2, r3, r4, r5⟩ := g_kre
  have ln : ∀ {a k : Nat}, a ≠ 1 → g_tya a = k ∧ g_lna a = 32 → sw_ty (g_H n s) a = k ∧ sw_ln (g_H n s) a = 32 := fun h1 h2 => ⟨h2.1, by rw [g_hln h1]; exact h2.2⟩
  refine ⟨⟨c1, c2, c3, c4, c5, c6, c7, c8, c9, fun a ha => ?_, ln (by decide) d6, ln (by decide) d7, ⟨d8.1, by rw [g_hln (by decide)]; exact d8.2⟩, fun k hk => g_kcc ⟨k, hk⟩⟩, ⟨p1, fun i h1 h2 => ?_, p2, p3, p4, ⟨p5.1, by rw [g_hln (by decide)]; exact p5.2⟩, ⟨p6.1, by rw [g_hln (by decide)]; exact p6.2⟩, p7, by rw [g_hln (by decide)]; exact p8⟩, by rw [g_hiv (by decide)]; exact p9, g_kta, ⟨⟨r1, r2, r3, r4, r5⟩, fun i h1 h2 => ?_, g_k22, ?_⟩⟩
  · rcases ha with e | e | e | e | e <;> subst e
    · exact ln (by decide) d1
    · exact ln (by decide) d2
    · exact ln (by decide) d3
    · exact ln (by decide) d4
    · exact ln (by decide) d5
  · rw [g_hln (by omega)]
    exact g_kpi ⟨i, by omega⟩ h1
  · rw [g_hln (by omega)]
    have := g_kri ⟨i - 19, by omega⟩
    have this : g_tya (19 + (i - 19)) = 1 ∧ g_lna (19 + (i - 19)) = 4 := this
    rw [show 19 + (i - 19) = i by omega] at this
    exact this
  · exact g_hts (n := n) (s := s) (i := 49) (by decide)
theorem g_zm {m : Nat} (hm : m < 24) : c_zm (g_H n s) g_mk [] m (g_B m) := by
  obtain ⟨z1, z2, z3, z4, z5⟩ := g_kmz ⟨m, hm⟩
  obtain ⟨a1, a2, a3, a4, a5, a6⟩ := g_kma ⟨m, hm⟩
  refine ⟨Or.inr ⟨by rw [g_hiv (by omega)]; exact z1, fun h => h⟩, fun h => h.elim, ?_, ⟨a1, a2, a3, a4, a5, ⟨a6.1, by rw [g_hln (by omega)]; exact a6.2⟩, fun i h1 h2 => ?_⟩, ⟨by rw [g_hiv (by omega)]; exact z4, Nat.zero_le _, fun i h v hi => (by cases hi)⟩, ⟨by rw [g_hiv (by omega)]; exact z5, Nat.zero_le _, fun i k u v hi => (by cases hi)⟩⟩
  · show sw_iv (g_H n s) (120 + 54 * m) 6 = -1
    rw [g_hiv (by omega)]; exact z2
  · rw [g_hln (by omega)]
    have := g_kmi ⟨m, hm⟩ ⟨i - 50, by omega⟩
    have this : g_tya (120 + 54 * m + (50 + (i - 50))) = 1 ∧ g_lna (120 + 54 * m + (50 + (i - 50))) = 8 := this
    rw [show 50 + (i - 50) = i by omega] at this
    exact this
theorem g_ZZ : c_ZZ (g_H n s) g_mk 24 g_K g_tl 1490 2285572 [] (fun _ => 0) [] g_B := by
  obtain ⟨b1, b2, b3, b4, b5⟩ := g_k20
  exact ⟨⟨g_W, g_X, g_MS, g_KS⟩, g_tol, g_k44, ⟨by rw [g_hln (by decide)]; exact b5, [], g_row0 (by decide) (by decide) b1 b2 b3 b4 (by rw [b5]; decide)⟩, g_at1, g_PL, fun m hm => g_zm hm⟩
end
end
