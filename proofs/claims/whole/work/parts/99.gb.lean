/-! ===== the other sides are as they were when a path is put ===== -/
noncomputable section
variable {T A B : w_T} {l k n m nn x y : Nat} {kf : Nat → Wt} {C : Nat → Int} {msk : Int}
theorem w_rs_cg : ∀ h x, 2 ^ h ≤ x + 1 → (∀ y, x + 1 ≤ y + 2 ^ h → y < x + 2 ^ h → t_ky A y = t_ky B y ∧ t_um A y = t_um B y) → w_rs A h x = w_rs B h x
  | 0, x, _, e => by
    obtain ⟨e1, e2⟩ := e x (by omega) (by omega)
    show (if t_ky A x = [] then [] else x :: w_uml (t_um A x) 16) = (if t_ky B x = [] then [] else x :: w_uml (t_um B x) 16)
    rw [e1, e2]
  | h + 1, x, hx, e => by
    have hp : 0 < 2 ^ h := Nat.two_pow_pos _
    have h2 : 2 ^ (h + 1) = 2 * 2 ^ h := by rw [Nat.pow_succ]; omega
    obtain ⟨e1, e2⟩ := e x (by omega) (by omega)
    have i1 := w_rs_cg h (x - 2 ^ h) (by omega) (fun y y1 y2 => e y (by omega) (by omega))
    have i2 := w_rs_cg h (x + 2 ^ h) (by omega) (fun y y1 y2 => e y (by omega) (by omega))
    show (if t_ky A x = [] then w_rs A h (x - 2 ^ h) ++ w_rs A h (x + 2 ^ h) else x :: w_uml (t_um A x) 16) = (if t_ky B x = [] then w_rs B h (x - 2 ^ h) ++ w_rs B h (x + 2 ^ h) else x :: w_uml (t_um B x) 16)
    rw [e1, e2, i1, i2]
theorem t_kpn_off (h : ∀ j, j < 4 → y ≠ t_ab l (j + 1)) : ∀ n, n ≤ 4 → t_ky (t_kpn C T l kf n) y = t_ky T y ∧ t_um (t_kpn C T l kf n) y = t_um T y
  | 0, _ => ⟨rfl, rfl⟩
  | n + 1, hn => by
    have ih := t_kpn_off h n (by omega)
    have ne := h n (by omega)
    by_cases c : C n = 0
    · rw [t_kpn_0 c]
      show fu _ _ _ _ = _ ∧ fu _ _ _ _ = _
      rw [fu_ne ne, fu_ne ne]; exact ih
    · rw [t_kpn_1 c]
      show fu (fu _ _ _) _ _ _ = _ ∧ fu _ _ _ _ = _
      rw [fu_ne ne, fu_ne ne, fu_ne ne]; exact ih
theorem t_off_k : ∀ l : Fin 16, ∀ k : Fin 4, ∀ y : Fin 40, t_si l.val k.val + 1 ≤ y.val + 2 ^ k.val → y.val < t_si l.val k.val + 2 ^ k.val → y.val ≠ 2 * l.val ∧ ∀ j : Fin 4, y.val ≠ t_ab l.val (j.val + 1) := by decide +kernel
/-- keys and sets off the way stay -/
theorem w_pT2_off (hl : l < 16) (h4 : t_dp T ≤ 4) (hk : k < 4) (y1 : t_si l k + 1 ≤ y + 2 ^ k) (y2 : y < t_si l k + 2 ^ k) : t_ky (w_pT2 T l m nn) y = t_ky T y ∧ t_um (w_pT2 T l m nn) y = t_um T y := by
  have s31 : t_si l k < 31 := (t_si_k ⟨l, hl⟩ ⟨k, hk⟩).2.2.1
  have p8 : 2 ^ k ≤ 8 := by
    have : 2 ^ k ≤ 2 ^ 3 := Nat.pow_le_pow_right (by decide) (by omega)
    omega
  obtain ⟨o1, o2⟩ := t_off_k ⟨l, hl⟩ ⟨k, hk⟩ ⟨y, by omega⟩ y1 y2
  have o1 : y ≠ 2 * l := o1
  have o2 : ∀ j, j < 4 → y ≠ t_ab l (j + 1) := fun j hj => o2 ⟨j, hj⟩
  have kp := t_kpn_off (C := t_cb T l) (T := T) (kf := w_pkf T l nn) o2 (t_dp T) h4
  show fu (t_ky (w_pth T l nn).1) (2 * l) _ y = _ ∧ fu (t_um (w_pth T l nn).1) (2 * l) 0 y = _
  rw [fu_ne o1, fu_ne o1]
  unfold w_pth t_pth
  rw [t_pp_ky, t_pp_um]
  exact kp
/-- resolutions of the other sides are as they were -/
theorem w_pT2_rs (hl : l < 2 ^ t_dp T) (h4 : t_dp T ≤ 4) (hk : k < t_dp T) : w_rs (w_pT2 T l m nn) k (t_si l k) = w_rs T k (t_si l k) := by
  have d16 := t_d_16 h4
  obtain ⟨_, _, _, a4, _, _⟩ := t_si_ok h4 hl hk
  exact w_rs_cg k (t_si l k) a4 (fun y y1 y2 => w_pT2_off (by omega) h4 (by omega) y1 y2)
theorem w_pT2_rq (hl : l < 2 ^ t_dp T) (h4 : t_dp T ≤ 4) (hk : k < t_dp T) : w_rq (w_pT2 T l m nn) msk l k = w_rq T msk l k := by
  unfold w_rq
  rw [w_pT2_rs hl h4 hk]
end
