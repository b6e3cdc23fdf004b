/-! ===== the class's terms at the law's loop ===== -/
noncomputable section
/-- the terms, those that are told -/
def g_mk : List Wt := w_z :: (List.range 24).flatMap (fun m => [w_nm m, w_pub m])
def g_tl : List Wt := w_z :: (List.range 24).map w_pub
def g_K : Wt → Prop := w_cl (fun w => w ∈ g_tl)
def g_H0 : sw_H := g_H 0 (fun _ => 0)
section
theorem g_nd : g_mk.Nodup := by decide +kernel
theorem g_tn : g_tl.Nodup := by decide +kernel
theorem g_len : g_mk.length = 49 ∧ g_tl.length = 25 := by decide +kernel
theorem g_at1 : w_at g_mk 1 w_z := by
  refine ⟨by decide, ?_⟩
  rfl
theorem g_am : ∀ m : Fin 24, g_mk[2 * m.val + 1]? = some (w_nm m.val) ∧ g_mk[2 * m.val + 2]? = some (w_pub m.val) := by decide +kernel
theorem g_atm {m : Nat} (hm : m < 24) : w_at g_mk ((2 * m + 2 : Nat) : Int) (w_nm m) ∧ w_at g_mk ((2 * m + 3 : Nat) : Int) (w_pub m) := by
  have h := g_am ⟨m, hm⟩
  refine ⟨⟨by omega, ?_⟩, ⟨by omega, ?_⟩⟩
  · rw [show (((2 * m + 2 : Nat) : Int) - 1).toNat = 2 * m + 1 by omega]
    exact h.1
  · rw [show (((2 * m + 3 : Nat) : Int) - 1).toNat = 2 * m + 2 by omega]
    exact h.2
theorem g_sz : ∀ w ∈ g_mk, w_sz w = 0 := fun w hw => by
  unfold g_mk at hw
  rcases List.mem_cons.mp hw with e | e
  · rw [e]; exact w_sz_mk 0 [] [] [] []
  · obtain ⟨m, _, h⟩ := List.mem_flatMap.mp e
    rcases List.mem_cons.mp h with e | e
    · rw [e]; exact w_sz_nm m
    · rw [List.mem_singleton.mp e]; exact w_sz_mk 5 (w_nm m) [] [] []
theorem g_tot : w_tot g_mk = 0 := by
  have h : ∀ L : List Wt, (∀ w ∈ L, w_sz w = 0) → w_tot L = 0 := fun L => by
    induction L with
    | nil => intro _; rfl
    | cons a L ih =>
      intro h
      have e : w_tot (a :: L) = w_sz a + w_tot L := by unfold w_tot; rw [List.map_cons, List.sum_cons]
      rw [e, h a (List.mem_cons_self ..), ih (fun w hw => h w (List.mem_cons_of_mem _ hw))]
  exact h _ g_sz
/-- where the arrays lie -/
theorem g_r3 : g_rva 3 0 = 4 ∧ g_rva 3 1 = 6 ∧ g_rva 3 3 = 7 ∧ g_rva 3 5 = 8 ∧ g_rva 3 6 = 9 ∧ g_rva 3 8 = 10 := by decide +kernel
theorem g_i3 : g_iva 3 2 = 49 ∧ g_iva 3 4 = 0 ∧ g_iva 3 7 = 25 ∧ g_iva 3 9 = 0 := by decide +kernel
theorem g_t3 : g_tya 3 = 96 ∧ g_tya 4 = 80 ∧ g_tya 5 = 1 ∧ g_tya 6 = 1 ∧ g_tya 7 = 1 ∧ g_tya 8 = 1 ∧ g_tya 9 = 1 ∧ g_tya 10 = 1 := by decide +kernel
theorem g_l3 : g_lna 5 = 0 ∧ g_lna 6 = 1792 ∧ g_lna 7 = 512 ∧ g_lna 8 = 128 ∧ g_lna 9 = 128 ∧ g_lna 10 = 128 := by decide +kernel
theorem g_4 : g_rva 4 0 = 5 ∧ g_iva 4 1 = 0 := by decide +kernel
/-- the rows -/
theorem g_tab : ∀ t : Fin 50, g_iva 6 (14 * t.val) = (if t.val % 2 = 1 ∧ 3 ≤ t.val then 5 else 0) ∧ g_iva 6 (14 * t.val + 1) = (if t.val % 2 = 1 ∧ 3 ≤ t.val then (t.val : Int) - 1 else 0) ∧ (g_iva 6 (14 * t.val + 2) = 0 ∧ g_iva 6 (14 * t.val + 3) = 0 ∧ g_iva 6 (14 * t.val + 4) = 0 ∧ g_iva 6 (14 * t.val + 5) = 0) ∧ g_iva 6 (14 * t.val + 8) = (if t.val % 2 = 1 then ((t.val : Int) + 1) / 2 else 0) ∧ g_iva 6 (14 * t.val + 9) = (if t.val % 2 = 1 then 1 else 0) ∧ g_iva 6 (14 * t.val + 10) = (if t.val % 2 = 0 ∧ 2 ≤ t.val then 3 * ((t.val : Int) + 1) else 0) ∧ (g_iva 6 (14 * t.val + 11) = 0 ∧ g_iva 6 (14 * t.val + 12) = 0 ∧ g_iva 6 (14 * t.val + 13) = 0) := by decide +kernel
theorem g_code : ∀ t : Fin 50, t.val % 2 = 1 → 3 ≤ t.val → g_iva 6 (14 * t.val + 6) = c_code 5 ((t.val : Int) - 1) 0 0 [] := by decide +kernel
theorem g_zero : ∀ j : Fin 1792, (700 ≤ j.val ∨ j.val < 14) → g_iva 6 j.val = 0 := by decide +kernel
theorem g_d1 : w_d g_mk 1 = w_zero := by decide +kernel
theorem g_d2 : ∀ m : Fin 24, w_d g_mk (2 * m.val + 2) = w_nm m.val ∧ w_d g_mk (2 * m.val + 3) = w_pub m.val := by decide +kernel
def g_ch (b : Nat) : List Nat := if 128 ≤ b then [] else if g_iva 8 b = 0 then [] else if g_iva 6 (14 * (g_iva 8 b).toNat + 7) = 0 then [(g_iva 8 b).toNat] else [(g_iva 8 b).toNat, (g_iva 6 (14 * (g_iva 8 b).toNat + 7)).toNat]
theorem g_chk : ∀ b : Fin 128, g_iva 8 b.val = 0 ∨ (0 < g_iva 8 b.val ∧ g_iva 8 b.val ≤ 49 ∧ (g_iva 6 (14 * (g_iva 8 b.val).toNat + 7) = 0 ∨ (0 < g_iva 6 (14 * (g_iva 8 b.val).toNat + 7) ∧ g_iva 6 (14 * (g_iva 8 b.val).toNat + 7) < g_iva 8 b.val ∧ g_iva 6 (14 * (g_iva 6 (14 * (g_iva 8 b.val).toNat + 7)).toNat + 7) = 0))) := by decide +kernel
theorem g_chm : ∀ t : Fin 50, t.val % 2 = 1 → 3 ≤ t.val → t.val ∈ g_ch (sw_and (g_iva 6 (14 * t.val + 6)) (sw_w (((128 : Nat) : Int) - 1))).toNat := by decide +kernel
theorem g_tm : ∀ t : Fin 50, t.val % 2 = 1 → 3 ≤ t.val → w_d g_mk t.val = w_tm (w_d g_mk) 5 ((t.val : Int) - 1) 0 0 [] := by decide +kernel
theorem g_num : ∀ i : Fin 25, g_iva 9 (i.val + 1) = 2 * (i.val : Int) + 1 ∧ w_d g_mk (2 * i.val + 1) = g_tl[i.val]?.getD [] := by decide +kernel
theorem g_idx : ∀ t : Fin 50, 1 ≤ t.val → (if w_d g_mk t.val ∈ g_tl then (g_tl.idxOf (w_d g_mk t.val) : Int) + 1 else 0) = (if t.val % 2 = 1 then ((t.val : Int) + 1) / 2 else 0) := by decide +kernel
end
end
