/-! ===== terms out of a list: how many, how many signs ===== -/
noncomputable section
section
variable {L L' mk mm tl : List Wt} {S : Wt → Prop} {N U M : Int}
def b_tot (L : List Wt) : Nat := (L.map w_sz).sum
theorem b_tot_er : ∀ (L : List Wt) {w : Wt}, w ∈ L → b_tot (L.erase w) + w_sz w = b_tot L
  | [], _, h => by cases h
  | a :: L, w, h => by
    by_cases c : a = w
    · subst c
      rw [List.erase_cons_head]
      unfold b_tot
      rw [List.map_cons, List.sum_cons]
      omega
    · have h' : w ∈ L := by
        rcases List.mem_cons.mp h with e | e
        · exact absurd e.symm c
        · exact e
      rw [List.erase_cons_tail (by simpa using c)]
      have ih := b_tot_er L h'
      unfold b_tot at ih ⊢
      rw [List.map_cons, List.sum_cons, List.map_cons, List.sum_cons]
      omega
theorem nd_tot : ∀ (xs ys : List Wt), xs.Nodup → (∀ x ∈ xs, x ∈ ys) → b_tot xs ≤ b_tot ys
  | [], _, _, _ => Nat.zero_le _
  | x :: t, ys, hn, hs => by
    obtain ⟨h1, h2⟩ := List.nodup_cons.mp hn
    have hx := hs x (List.mem_cons_self ..)
    have ih := nd_tot t (ys.erase x) h2 (fun y hy => (List.mem_erase_of_ne (fun e : y = x => h1 (by rw [← e]; exact hy))).mpr (hs y (List.mem_cons_of_mem _ hy)))
    have e := b_tot_er ys hx
    unfold b_tot at ih e ⊢
    rw [List.map_cons, List.sum_cons]
    omega
theorem b_tot_app (L L' : List Wt) : b_tot (L ++ L') = b_tot L + b_tot L' := by
  unfold b_tot
  rw [List.map_append, List.sum_append]
/-- what is made out of L' by one whose terms lie in L -/
theorem b_cov (hm : ∀ w ∈ mk, w ∈ L) (hS : ∀ v, S v → v ∈ L') (h : w_mo S mk mm) (nd : mm.Nodup) : mm.length ≤ L.length + L'.length ∧ w_tot mm ≤ b_tot L + b_tot L' := by
  have sub : ∀ w ∈ mm, w ∈ L ++ L' := fun w hw => by
    rcases h.2 w hw with h1 | h1
    · exact List.mem_append_left _ (hm w h1)
    · exact List.mem_append_right _ (hS w h1)
  have a := nd_len mm (L ++ L') nd sub
  have b := nd_tot mm (L ++ L') nd sub
  rw [List.length_append] at a
  rw [b_tot_app] at b
  exact ⟨a, b⟩
theorem b_cS (hm : ∀ w ∈ mk, w ∈ L) (hS : ∀ v, S v → v ∈ L') (hN : ((L.length + L'.length : Nat) : Int) + 2 ≤ N) (hU : ((b_tot L + b_tot L' : Nat) : Int) + 1500 ≤ U) (hM : (tl.length : Int) ≤ M) : c_bS S mk tl N U M := fun mm h nd => by
  obtain ⟨a, b⟩ := b_cov hm hS h nd
  unfold c_bl
  exact ⟨by omega, by omega, hM⟩
theorem b_mS (hm : ∀ w ∈ mk, w ∈ L) (hS : ∀ v, S v → v ∈ L') (hN : L.length + L'.length ≤ 44999) (hU : b_tot L + b_tot L' ≤ 1400000) : m_bS S mk := fun mm h nd => by
  obtain ⟨a, b⟩ := b_cov hm hS h nd
  exact ⟨by omega, by omega⟩
end
end
