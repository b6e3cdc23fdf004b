/-! ===== SG from the law's loop ===== -/
noncomputable def sz_fin : sz_K := fun _ r T => match r with
  | .inl (some (.inl (.int x))) => decide (x = 1) && (Nat.ble T.1 sxlim.1 && Nat.ble T.2.1 sxlim.2)
  | _ => false
theorem sz_fin_ok {ρ : Nat → Int32} : sz_rt ρ (fun r => ∃ h1, r = (.inl (some (.int 1)), h1) ∧ h1.1 ≤ sxlim.1 ∧ h1.2.1 ≤ sxlim.2) sz_fin := by
  intro E a T b h e hE hr H
  unfold sz_fin at e
  split at e
  · next x =>
    obtain ⟨w, rfl, hw⟩ := hr
    have hw : w = .int x := hw
    subst hw
    simp only [Bool.and_eq_true, decide_eq_true_eq, Nat.ble_eq] at e
    obtain ⟨rfl, e1, e2⟩ := e
    exact ⟨h, rfl, by rw [← H.2.1]; exact e1, by rw [← H.2.2.1]; exact e2⟩
  · cases e
noncomputable def sz_good (q : Nat) (E : sy_E) : Bool := sy_pushk sxTC 1 (.inr (.inr (.inl (.inr (.inr (.inl (1, []))))))) (fun T => szm_0 q sz_fin E [(4, .inl (.int 0)), (3, .inl (.ref 1490)), (2, .inl (.ref 1422)), (1, .inl (.ref 1)), (0, .inl (.ref 0))] [] T)
theorem sz_good_ok {xs : List Int32} {q : Nat} {E : sy_E} {ρ : Nat → Int32} (hg : sz_good q E = true) (hc : sy_cx ρ xs q) (hE : sy_e ρ E) : sx_True xs := by
  obtain ⟨h, hh, hst⟩ := sx_law_start xs
  unfold sz_good at hg
  rw [sy_pushk_eq] at hg
  have hg : szm_0 q sz_fin E sxlsA [] sxT0 = true := hg
  obtain ⟨m, r, hm, h1, rfl, h2, h3⟩ := szm_0k sz_fin_ok _ _ _ _ sxlsB [] h hg hc hE ⟨_, _, rfl, rfl, _, _, rfl, rfl, _, _, rfl, rfl, _, _, rfl, rfl, _, _, rfl, rfl, rfl⟩ rfl hh
  obtain ⟨m', hm'⟩ := hst _ _ hm
  exact ⟨m', h1, hm', h2, h3⟩
