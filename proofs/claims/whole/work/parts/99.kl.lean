/-! ===== from the loop to what is left ===== -/
noncomputable section
theorem l_end {S : List Int32} {h : sx_H} {H : sw_H} (hs : ∀ n r, sx_exec sxlim sxP sxD S n 0 13 sxlsB [] h = some r → ∃ m, sx_exec sxlim sxP sxD S m 0 0 [(0, .ref 0)] [] (0, 0, []) = some r) (hr : sw_rel S H h) (t2 : sw_ty H 2 = 8) (t3 : sw_ty H 1491 = 4) {n : Nat} (hw : wl_0_13 (fun z _ => z = 1) n 2 1491 0 H) : sx_True S := by
  have ok : sw_ok S 0 13 sxlsB [] H (sw_q1 (fun z _ => z = 1) (fun _ _ => False)) := wl_0_13k n (x1 := 2) (x3 := 1491) (x4 := 0) rfl rfl t2 rfl rfl t3 rfl (by unfold sw_c; omega) hw
  obtain ⟨m, r, h1, G, e, rG, _, q⟩ := ok h hr
  obtain ⟨m2, e2⟩ := hs m _ e
  have b1 : h1.1 ≤ sxlim.1 := rG.2.2.1
  have b2 : h1.2.1 ≤ sxlim.2 := rG.2.2.2.1
  match r, q, e2 with
  | .inl (some (.int x)), q, e2 =>
    have q : x.toInt = 1 := q
    have ex : x = 1 := by
      have := congrArg Int32.ofInt q
      rw [sw_of_to] at this
      exact this
    subst ex
    exact ⟨m2, h1, e2, b1, b2⟩
  | .inr _, q, _ => exact q.elim
end
