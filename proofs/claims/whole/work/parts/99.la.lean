/-! ===== the law's loop on every script ===== -/
noncomputable section
section
variable {H : sw_H} {n nn t : Nat} {σ : Nat → Int} {K S : Wt → Prop} {tl tp mk mc mr L : List Wt} {rd : Nat → Int} {ms ms' Tx Ty : List (List Wt)} {cn cs : Int} {B : Nat → v_M}
/-- what is asked ahead of a call: a little more -/
theorem b_pre (hZ : l_Z n σ H mc mr nn K tl tp rd ms B cn cs) (hI : b_in t mc mr ms L Tx Ty) (h : l_cv (fun _ => True) K nn ms B tp S ms') : ∃ L', (∀ v, S v → v ∈ L ++ L') ∧ 2 * (L ++ L').length ≤ 98 + 110 * (t + 1) + 106 * ms'.length ∧ b_tot (L ++ L') ≤ 800 * (t + 1) + 936 * ms'.length + 4000 := by
  have fin : l_cv (w_rp K) K nn ms B tp S ms' → ∃ L', (∀ v, S v → v ∈ L ++ L') ∧ 2 * (L ++ L').length ≤ 98 + 110 * (t + 1) + 106 * ms'.length ∧ b_tot (L ++ L') ≤ 800 * (t + 1) + 936 * ms'.length + 4000 := fun h => by
    obtain ⟨L', Tx', Ty', a1, _, a3, a4, _⟩ := b_step hZ hI h
    exact ⟨L', a1, by omega, by omega⟩
  rcases h with h | h | h | h | ⟨⟨m, kd, of, l, hm', hin, hl, h1⟩, p, e⟩ | h
  · exact fin (Or.inl h)
  · exact fin (Or.inr (Or.inl h))
  · exact fin (Or.inr (Or.inr (Or.inl h)))
  · exact fin (Or.inr (Or.inr (Or.inr (Or.inl h))))
  · subst e
    obtain ⟨i1, i2, i3, i4, _⟩ := hI
    have hX := hZ.2.1.1.2.1
    have bl : (w_prB (v_G (B m)) kd (w_prC m nn (v_G (B m)) kd of l)).length ≤ 1210 := by
      have c : (w_prC m nn (v_G (B m)) kd of l).length ≤ 1202 := by
        unfold w_prC
        split
        · rename_i c
          obtain ⟨i, hi⟩ := List.mem_iff_getElem?.mp (hl c).1
          have := (hX.2.2.2.2.2 i l hi).2.2.1
          rw [List.length_append]
          have : (w_b16 (l.length : Nat)).length = 2 := rfl
          omega
        · split
          · exact (by decide : (6 : Nat) ≤ 1202)
          · exact (by decide : (2 : Nat) ≤ 1202)
      unfold w_prB
      rw [List.length_cons, List.length_append, List.length_append, List.length_cons]
      have e1 : (w_b32 (gg_ep (v_G (B m)))).length = 4 := rfl
      have e2 : (w_b16 (gg_lf (v_G (B m)))).length = 2 := rfl
      omega
    obtain ⟨a1, a2⟩ := b_prA (m := m) (nn := nn) (G := v_G (B m)) (kd := kd) (of := of) (l := l) 1210 bl
    refine ⟨w_prA m nn (v_G (B m)) kd of l, fun v hv => List.mem_append_right _ (h1 v hv), ?_, ?_⟩
    · rw [List.length_append, List.length_append, List.length_singleton]
      omega
    · rw [b_tot_app, List.length_append, List.length_singleton]
      omega
  · exact fin (Or.inr (Or.inr (Or.inr (Or.inr (Or.inr h)))))
/-- what holds between two calls, of the room -/
def b_Inv (t : Nat) (mc mr tl _tp : List Wt) (ms : List (List Wt)) (_K : Wt → Prop) (_nn : Nat) (_B : Nat → v_M) (cn cs cp : Int) : Prop := (∃ L Tx Ty, b_in t mc mr ms L Tx Ty) ∧ mc.Nodup ∧ mr.Nodup ∧ tl.length ≤ 25 + t ∧ cn = 1490 + 4 * (t : Int) ∧ cs = 2285572 + 1202 * (ms.length : Int) + 6 * (t : Int) + 4 * cp ∧ (0 ≤ cp ∧ cp ≤ 24000) ∧ ms.length ≤ 300
theorem b_hI1 {cp : Int} (ht : t ≤ 512) (h : b_Inv t mc mr tl tp ms K nn B cn cs cp) : l_hb mc mr tl cn cs 45000 700000 600 := by
  obtain ⟨⟨L, Tx, Ty, i1, i2, i3, i4, _⟩, n1, n2, h3, h4, h5, h6, h7⟩ := h
  have a1 := nd_len mc L n1 i1
  have a2 := nd_len mr L n2 i2
  have a3 := nd_tot mc L n1 i1
  have a4 := nd_tot mr L n2 i2
  have e1 : b_tot mc = w_tot mc := rfl
  have e2 : b_tot mr = w_tot mr := rfl
  rw [e1] at a3
  rw [e2] at a4
  unfold l_hb c_lm c_bl
  have s1 : 100000 ≤ sxlim.1 := by decide +kernel
  have s2 : 7800000 ≤ sxlim.2 := by decide +kernel
  omega
theorem b_hI2 (ht : t < 512) (hZ : l_Z n σ H mc mr nn K tl tp rd ms B cn cs) (h : b_Inv t mc mr tl tp ms K nn B cn cs (c_cp H)) : l_hc K nn ms B mc mr tl tp 45000 700000 600 := fun S ms' hcv hl => by
  obtain ⟨⟨L, Tx, Ty, hI⟩, n1, n2, h3, h4, h5, h6, h7⟩ := h
  obtain ⟨L', a1, a2, a3⟩ := b_pre hZ hI hcv
  obtain ⟨i1, i2, _⟩ := hI
  refine ⟨fun mm h nd => ?_, fun mm h nd => ?_⟩
  · have sub : ∀ w ∈ mm, w ∈ L ++ L' := fun w hw => (h.2 w hw).elim (fun g => List.mem_append_left _ (i1 w g)) (fun g => a1 w g)
    have x := nd_len mm (L ++ L') nd sub
    have y := nd_tot mm (L ++ L') nd sub
    have e1 : b_tot mm = w_tot mm := rfl
    rw [e1] at y
    unfold c_bl
    omega
  · have sub : ∀ w ∈ mm, w ∈ L ++ L' := fun w hw => (h.2 w hw).elim (fun g => List.mem_append_left _ (i2 w g)) (fun g => a1 w g)
    have x := nd_len mm (L ++ L') nd sub
    have y := nd_tot mm (L ++ L') nd sub
    have e1 : b_tot mm = w_tot mm := rfl
    rw [e1] at y
    exact ⟨by omega, by omega⟩
theorem b_hI3 {mc' mr' tl' tp' : List Wt} {K' : Wt → Prop} {nn' : Nat} {B' : Nat → v_M} {cn' cs' cp' : Int} (hZ : l_Z n σ H mc mr nn K tl tp rd ms B cn cs) (h : b_Inv t mc mr tl tp ms K nn B cn cs (c_cp H)) (m3 : ms'.length ≤ 300) (hcp : 0 ≤ cp' ∧ cp' ≤ 24000) (nd1 : mc'.Nodup) (nd2 : mr'.Nodup) (hg : l_gr K nn ms B mc mr tl tp cn cs (c_cp H) mc' mr' tl' ms' cn' cs' cp') : ∃ cn2 cs2, cn' ≤ cn2 ∧ cs' ≤ cs2 ∧ b_Inv (t + 1) mc' mr' tl' tp' ms' K' nn' B' cn2 cs2 cp' := by
  obtain ⟨⟨L, Tx, Ty, hI⟩, n1, n2, h3, h4, h5, h6, h7⟩ := h
  obtain ⟨g1, g2, g3, S, hcv, w1, w2⟩ := hg
  obtain ⟨L', Tx', Ty', a1, a2, a3, a4, a5, a6, a7⟩ := b_step hZ hI hcv
  obtain ⟨i1, i2, _, _, i5, _⟩ := hI
  refine ⟨1490 + 4 * ((t + 1 : Nat) : Int), 2285572 + 1202 * (ms'.length : Int) + 6 * ((t + 1 : Nat) : Int) + 4 * cp', by omega, by omega, ⟨L ++ L', Tx', Ty', fun w hw => (w1.2 w hw).elim (fun g => List.mem_append_left _ (i1 w g)) (fun g => a1 w g), fun w hw => (w2.2 w hw).elim (fun g => List.mem_append_left _ (i2 w g)) (fun g => a1 w g), a3, a4, fun w hw => (w1.2 w hw).elim (fun g => i5 w g) (fun g => a2 w g), a5, a6, a7⟩, nd1, nd2, by omega, rfl, rfl, hcp, m3⟩
theorem b_start {s : Nat → Int} : b_Inv 0 g_mk g_mk g_tl [] [] g_K 24 g_B 1490 (2285572 + 4 * c_cp (g_H n s)) (c_cp (g_H n s)) ↔ (0 ≤ c_cp (g_H n s) ∧ c_cp (g_H n s) ≤ 24000) := by
  constructor
  · intro h
    exact h.2.2.2.2.2.2.1
  · intro h
    refine ⟨⟨g_mk, [], [], fun w h => h, fun w h => h, ?_, ?_, fun w hw => ?_, fun p hp => (by cases hp), fun p hp => (by cases hp), fun p hp => (by cases hp)⟩, g_nd, g_nd, ?_, by omega, ?_, h, by decide⟩
    · rw [g_len.1]
      exact Nat.le_refl _
    · have : b_tot g_mk = 0 := g_tot
      rw [this]
      exact Nat.le_refl _
    · intro _
      rw [g_sz w hw]
      omega
    · rw [g_len.2]
      exact Nat.le_refl _
    · show _ = 2285572 + 1202 * ((0 : Nat) : Int) + 6 * ((0 : Nat) : Int) + 4 * _
      omega
end
theorem l_true (xs : List Int32) (hx : xs.length ≤ 3072) : sx_True xs := by
  obtain ⟨h, hh, hs⟩ := sx_law_start xs
  have rel := g_rel hx hh
  refine l_end hs rel (by show g_tya 2 = 8; exact g_k2.1) (by show g_tya 1491 = 4; decide +kernel) (n := 514) ?_
  have hZ := g_lZ (n := xs.length) (s := fun f => (sx_lg 0 xs f).toInt) hx
  have cp := c_cp_b hZ.2.1
  have hZ' := l_Z_cc (cn' := 1490) (cs' := 2285572 + 4 * c_cp (g_H xs.length (fun f => (sx_lg 0 xs f).toInt))) hZ (Int.le_refl _) (by omega)
  have st := (b_start (n := xs.length) (s := fun f => (sx_lg 0 xs f).toInt)).mpr cp
  exact l_loop (n := xs.length) (σ := fun f => (sx_lg 0 xs f).toInt) (N := 45000) (U := 700000) (M := 600) (Inv := b_Inv) (fun t mc mr tl tp ms K nn B cn cs cp ht hI => b_hI1 ht hI) (fun H rd t mc mr tl tp ms K nn B cn cs ht hZ hI => b_hI2 ht hZ hI) (fun H rd t mc mr tl tp tp' ms K nn B cn cs mc' mr' tl' ms' K' nn' B' cn' cs' cp' _ hZ hI m3 hcp nd1 nd2 hg => b_hI3 hZ hI m3 hcp nd1 nd2 hg) (fun H _ _ => rfl) 513 0 (by omega) (by omega) hx hZ' st
end
