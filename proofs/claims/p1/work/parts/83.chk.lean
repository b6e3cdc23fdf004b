noncomputable def sx_ck (K : Nat → Nat → Nat → Nat → Bool) (P : Nat → Option sx_Mt) (frf lof : Nat → Nat) (ini : Bool) (fr lo : Nat) (M : sx_Mt) (i : Nat) (en : sx_N) : Bool := bif Nat.ble 63 en.1 then true else match en.2.2.2.2.2 with
  | .iconst n => Nat.beq en.1 0 && decide (Int32.ofInt n = Int32.ofNat en.2.1) && sx_kx M.2.2.2.2 i en 1
  | .bipush n => Nat.beq en.1 0 && decide ((Int8.ofInt n).toInt32 = Int32.ofNat en.2.1) && sx_kx M.2.2.2.2 i en 2
  | .sipush n => Nat.beq en.1 0 && decide ((Int16.ofInt n).toInt32 = Int32.ofNat en.2.1) && sx_kx M.2.2.2.2 i en 3
  | .ldc k => Nat.beq en.1 0 && K 0 k en.2.1 0 && sx_kx M.2.2.2.2 i en 2
  | .ldc_w k => Nat.beq en.1 0 && K 0 k en.2.1 0 && sx_kx M.2.2.2.2 i en 3
  | .iload k => Nat.beq en.1 1 && Nat.beq k en.2.1 && sx_kx M.2.2.2.2 i en 2
  | .iload_n k => Nat.beq en.1 1 && Nat.beq k.val en.2.1 && sx_kx M.2.2.2.2 i en 1
  | .aload k => Nat.beq en.1 2 && Nat.beq k en.2.1 && sx_kx M.2.2.2.2 i en 2
  | .aload_n k => Nat.beq en.1 2 && Nat.beq k.val en.2.1 && sx_kx M.2.2.2.2 i en 1
  | .istore k => Nat.beq en.1 3 && Nat.beq k en.2.1 && sx_kx M.2.2.2.2 i en 2 && Nat.blt en.2.1 M.1
  | .istore_n k => Nat.beq en.1 3 && Nat.beq k.val en.2.1 && sx_kx M.2.2.2.2 i en 1 && Nat.blt en.2.1 M.1
  | .astore k => Nat.beq en.1 4 && Nat.beq k en.2.1 && sx_kx M.2.2.2.2 i en 2 && Nat.blt en.2.1 M.1
  | .astore_n k => Nat.beq en.1 4 && Nat.beq k.val en.2.1 && sx_kx M.2.2.2.2 i en 1 && Nat.blt en.2.1 M.1
  | .iinc k n => Nat.beq en.1 5 && Nat.beq k en.2.1 && decide (Int32.ofInt n = Int32.ofNat en.2.2.1) && sx_kx M.2.2.2.2 i en 3
  | .ifCond c off => Nat.beq en.1 (23 + sx_cnd c) && sx_kx M.2.2.2.2 i en 3 && sx_kt M.2.2.2.2 en off
  | .if_icmp c off => Nat.beq en.1 (29 + sx_cnd c) && sx_kx M.2.2.2.2 i en 3 && sx_kt M.2.2.2.2 en off
  | .goto off => Nat.beq en.1 35 && Nat.beq en.2.2.2.2.1 3 && sx_kt M.2.2.2.2 en off
  | .tableswitch _ _ _ _ => Nat.beq en.1 36
  | .getfield k => Nat.beq en.1 46 && K 46 k en.2.1 en.2.2.1 && sx_kx M.2.2.2.2 i en 3
  | .putfield k => Nat.beq en.1 47 && (K 47 k en.2.1 en.2.2.1 || ini && K 147 k en.2.1 en.2.2.1) && sx_kx M.2.2.2.2 i en 3
  | .new k => (Nat.beq en.1 48 && K 48 k en.2.1 0 && sx_kx M.2.2.2.2 i en 3) || (Nat.beq en.1 62 && sx_k62 K M.2.2.2.2 fr lo M.2.2.2.1 i en k)
  | .newarray t => (match t with
    | .int => Nat.beq en.1 49
    | .boolean => Nat.beq en.1 50
    | .byte => Nat.beq en.1 51
    | .long => Nat.beq en.1 52
    | _ => false) && sx_kx M.2.2.2.2 i en 2
  | .anewarray k => Nat.beq en.1 53 && K 53 k en.2.1 0 && sx_kx M.2.2.2.2 i en 3
  | .invokespecial k => (Nat.beq en.1 54 && K 54 k 0 0 && (Nat.ble 1 fr && Nat.ble 20 lo) && sx_kx M.2.2.2.2 i en 3) || (Nat.beq en.1 57 && sx_kc K P frf lof M.2.2.2.2 fr lo i en k)
  | .invokestatic k => (Nat.beq en.1 55 && K 55 k 0 0 && (Nat.ble 1 fr && Nat.ble 64 lo) && sx_kx M.2.2.2.2 i en 3) || (Nat.beq en.1 58 && sx_kc K P frf lof M.2.2.2.2 fr lo i en k)
  | .invokevirtual k => Nat.beq en.1 56 && sx_kc K P frf lof M.2.2.2.2 fr lo i en k
  | .return_ => Nat.beq en.1 59 && Nat.beq en.2.2.2.2.1 1 && Nat.beq M.2.2.1 0
  | .ireturn => Nat.beq en.1 60 && Nat.beq en.2.2.2.2.1 1 && (Nat.beq M.2.2.1 1 || Nat.beq M.2.2.1 2)
  | .areturn => Nat.beq en.1 61 && Nat.beq en.2.2.2.2.1 1 && Nat.beq M.2.2.1 3
  | ins => Nat.beq en.1 (sx_bo ins) && sx_kx M.2.2.2.2 i en 1
/-- a method's answer, by number and at the machine -/
def sx_rk (rk : Nat) (rt : Option FieldType) : Prop := (rk = 0 → rt = none) ∧ (rk = 1 → rt = some .int) ∧ (rk = 2 → rt = some .boolean) ∧ (rk = 3 → ∃ t, rt = some t ∧ ((∃ n, t = .object n) ∨ ∃ u, t = .array u))
theorem sx_pq {a b : Nat} (h : Nat.beq a b = true) : a = b := Nat.eq_of_beq_eq_true h
section SXK
variable {g : sx_Pg} {P : Nat → Option sx_Mt} {K : Nat → Nat → Nat → Nat → Bool} {ini : Bool} {j i : Nat} {M : sx_Mt} {en : sx_N}
theorem sx_kc_ok (hK : ∀ tag idx a b, K tag idx a b = true → sx_ln g P (g.2.2.2.2.1 j).1.cls tag idx a b) {idx : Nat} (hI : en.2.2.2.2.2 = sx_inv en.1 idx) (ho : 56 ≤ en.1 ∧ en.1 < 59) (h : sx_kc K P g.2.2.2.2.2.1 g.2.2.2.2.2.2 M.2.2.2.2 (g.2.2.2.2.2.1 j) (g.2.2.2.2.2.2 j) i en idx = true) : sx_lok g P j M i en := by
  unfold sx_kc at h
  rw [Bool.and_eq_true, Bool.and_eq_true, Bool.and_eq_true] at h
  obtain ⟨⟨⟨h1, h2⟩, h3⟩, h4⟩ := h
  obtain ⟨-, -, -, -, -, -, -, -, h5, -⟩ := hK _ _ _ _ h1
  obtain ⟨N, n1, n2, n3, n4, n5, n6⟩ := h5 ho
  rw [n1] at h4
  exact ⟨idx, N, hI, n1, n2, n3, n4, Nat.le_of_ble_eq_true h3, Nat.le_of_ble_eq_true h4, n5, sx_kx_ok h2, n6⟩
theorem sx_k62_ok (hK : ∀ tag idx a b, K tag idx a b = true → sx_ln g P (g.2.2.2.2.1 j).1.cls tag idx a b) (hdec : ∀ i en, sx_at M.2.2.2.2 i = some en → decode (g.2.2.2.2.1 j).2.1 en.2.2.2.1 = .ok (en.2.2.2.2.2, en.2.2.2.2.1)) (hh : M.2.2.2.1 = [] → (g.2.2.2.2.1 j).2.2.2 = []) {idx : Nat} (hI : en.2.2.2.2.2 = .new idx) (hat : sx_at M.2.2.2.2 i = some en)
    (h : sx_k62 K M.2.2.2.2 (g.2.2.2.2.2.1 j) (g.2.2.2.2.2.2 j) M.2.2.2.1 i en idx = true) : sx_tok g j en := by
  unfold sx_k62 at h
  rw [Bool.and_eq_true, Bool.and_eq_true, Bool.and_eq_true, Bool.and_eq_true] at h
  obtain ⟨⟨⟨h1, h2⟩, h3, h4⟩, h5⟩ := h
  split at h5
  · next x1 y1 z1 p1 l1 x2 y2 z2 p2 l2 i2 x3 y3 z3 p3 l3 ic x4 y4 z4 p4 l4 a1 a2 a3 a4 =>
    split at h5
    case h_2 => cases h5
    next k ln hi2 =>
    simp only [Bool.and_eq_true] at h5
    obtain ⟨⟨⟨⟨⟨⟨b1, b2⟩, b3, b4⟩, b5, b6⟩, b7, b8⟩, b9⟩, b10⟩ := h5
    obtain ⟨-, -, -, -, -, -, -, -, -, ht⟩ := hK _ _ _ _ b9
    obtain ⟨text, X, names, T0, t1, t2, t3, t4, t5, t6, t7, t8, t9⟩ := ht rfl
    have hic : ic < 65536 := Nat.le_of_ble_eq_true b10
    rw [show (k * 65536 + ic) / 65536 = k from by omega] at t5
    rw [show (k * 65536 + ic) % 65536 = ic from by omega] at t8
    have d0 := hdec _ _ hat
    have d1 := hdec _ _ a1
    have d2 := hdec _ _ a2
    have d3 := hdec _ _ a3
    have d4 := hdec _ _ a4
    rw [hI, sx_pq h1] at d0
    dsimp only at d1 d2 d3 d4
    rw [sx_pq b1, sx_pq b2] at d1
    rw [sx_pq b3, sx_pq b4] at d2
    rw [sx_pq b5, sx_pq b6] at d3
    rw [sx_pq b7, sx_pq b8] at d4
    have h3 := Nat.le_of_ble_eq_true h3
    have h4 := Nat.le_of_ble_eq_true h4
    have d2 : sx_lds (g.2.2.2.2.1 j).2.1 (en.2.2.2.1 + 4) ln k := by
      unfold sx_ldi at hi2
      split at hi2
      · cases hi2; exact Or.inl ⟨rfl, d2⟩
      · cases hi2; exact Or.inr ⟨rfl, d2⟩
      · cases hi2
    exact ⟨idx, k, ic, ln, text, X, names, T0, hh (List.isEmpty_iff.mp h2), t1, t2, t3, t4, t5, t6, t7, t8, d0, d1, d2, d3, d4, by omega, by rw [t9]; omega⟩
  · cases h5
theorem sx_e_pl (hd : decode (g.2.2.2.2.1 j).2.1 en.2.2.2.1 = .ok (en.2.2.2.2.2, en.2.2.2.2.1)) (ho : en.1 < 56) (hn : en.1 = 3 ∨ en.1 = 4 → en.2.1 < M.1) (h : sx_pl (sx_sd g j) M.2.2.2.2 i en) : sx_eok g P j M i en := ⟨hd, Or.inl ⟨ho, h, hn⟩⟩
set_option maxHeartbeats 4000000 in
theorem sx_ck_ok (hK : ∀ tag idx a b, K tag idx a b = true → sx_ln g P (g.2.2.2.2.1 j).1.cls tag idx a b) (hini : ini = true → (g.2.2.2.2.1 j).1.name = "<init>") (hrk : sx_rk M.2.2.1 (g.2.2.2.2.1 j).2.2.1) (hh : M.2.2.2.1 = [] → (g.2.2.2.2.1 j).2.2.2 = []) (hdec : ∀ i en, sx_at M.2.2.2.2 i = some en → decode (g.2.2.2.2.1 j).2.1 en.2.2.2.1 = .ok (en.2.2.2.2.2, en.2.2.2.2.1))
    (hw : Cond.arrayClass .int ∈ g.1 ∧ Cond.arrayClass .boolean ∈ g.1 ∧ Cond.arrayClass .byte ∈ g.1 ∧ Cond.arrayClass .long ∈ g.1) (hat : sx_at M.2.2.2.2 i = some en) (h : sx_ck K P g.2.2.2.2.2.1 g.2.2.2.2.2.2 ini (g.2.2.2.2.2.1 j) (g.2.2.2.2.2.2 j) M i en = true) : sx_eok g P j M i en := by
  have hd := hdec i en hat
  unfold sx_ck at h
  cases h63 : Nat.ble 63 en.1 with
  | true => exact ⟨hd, by have h9 := Nat.le_of_ble_eq_true h63; exact Or.inr (Or.inr (Or.inr (Or.inr (Or.inr (Or.inr h9)))))⟩
  | false =>
    rw [h63] at h
    dsimp only [cond] at h
    split at h
    · next n hI =>
      simp only [Bool.and_eq_true, decide_eq_true_eq] at h
      have ho := sx_pq h.1.1
      exact sx_e_pl hd (by omega) (by omega) (Or.inl ⟨ho, Or.inl ⟨n, hI, h.1.2, sx_kx_ok h.2⟩⟩)
    · next n hI =>
      simp only [Bool.and_eq_true, decide_eq_true_eq] at h
      have ho := sx_pq h.1.1
      exact sx_e_pl hd (by omega) (by omega) (Or.inl ⟨ho, Or.inr (Or.inl ⟨n, hI, h.1.2, sx_kx_ok h.2⟩)⟩)
    · next n hI =>
      simp only [Bool.and_eq_true, decide_eq_true_eq] at h
      have ho := sx_pq h.1.1
      exact sx_e_pl hd (by omega) (by omega) (Or.inl ⟨ho, Or.inr (Or.inr (Or.inl ⟨n, hI, h.1.2, sx_kx_ok h.2⟩))⟩)
    · next k hI =>
      simp only [Bool.and_eq_true] at h
      have ho := sx_pq h.1.1
      exact sx_e_pl hd (by omega) (by omega) (Or.inl ⟨ho, Or.inr (Or.inr (Or.inr (Or.inl ⟨k, hI, (hK _ _ _ _ h.1.2).1 rfl, sx_kx_ok h.2⟩)))⟩)
    · next k hI =>
      simp only [Bool.and_eq_true] at h
      have ho := sx_pq h.1.1
      exact sx_e_pl hd (by omega) (by omega) (Or.inl ⟨ho, Or.inr (Or.inr (Or.inr (Or.inr ⟨k, hI, (hK _ _ _ _ h.1.2).1 rfl, sx_kx_ok h.2⟩)))⟩)
    · next k hI =>
      simp only [Bool.and_eq_true] at h
      have ho := sx_pq h.1.1
      exact sx_e_pl hd (by omega) (by omega) (Or.inr (Or.inl ⟨ho, Or.inl ⟨by rw [← sx_pq h.1.2]; exact hI, sx_kx_ok h.2⟩⟩))
    · next k hI =>
      simp only [Bool.and_eq_true] at h
      have ho := sx_pq h.1.1
      exact sx_e_pl hd (by omega) (by omega) (Or.inr (Or.inl ⟨ho, Or.inr ⟨k, hI, sx_pq h.1.2, sx_kx_ok h.2⟩⟩))
    · next k hI =>
      simp only [Bool.and_eq_true] at h
      have ho := sx_pq h.1.1
      exact sx_e_pl hd (by omega) (by omega) (Or.inr (Or.inr (Or.inl ⟨ho, Or.inl ⟨by rw [← sx_pq h.1.2]; exact hI, sx_kx_ok h.2⟩⟩)))
    · next k hI =>
      simp only [Bool.and_eq_true] at h
      have ho := sx_pq h.1.1
      exact sx_e_pl hd (by omega) (by omega) (Or.inr (Or.inr (Or.inl ⟨ho, Or.inr ⟨k, hI, sx_pq h.1.2, sx_kx_ok h.2⟩⟩)))
    · next k hI =>
      simp only [Bool.and_eq_true] at h
      have ho := sx_pq h.1.1.1
      exact sx_e_pl hd (by omega) (fun _ => Nat.le_of_ble_eq_true h.2) (Or.inr (Or.inr (Or.inr (Or.inl ⟨ho, Or.inl ⟨by rw [← sx_pq h.1.1.2]; exact hI, sx_kx_ok h.1.2⟩⟩))))
    · next k hI =>
      simp only [Bool.and_eq_true] at h
      have ho := sx_pq h.1.1.1
      exact sx_e_pl hd (by omega) (fun _ => Nat.le_of_ble_eq_true h.2) (Or.inr (Or.inr (Or.inr (Or.inl ⟨ho, Or.inr ⟨k, hI, sx_pq h.1.1.2, sx_kx_ok h.1.2⟩⟩))))
    · next k hI =>
      simp only [Bool.and_eq_true] at h
      have ho := sx_pq h.1.1.1
      exact sx_e_pl hd (by omega) (fun _ => Nat.le_of_ble_eq_true h.2) (Or.inr (Or.inr (Or.inr (Or.inr (Or.inl ⟨ho, Or.inl ⟨by rw [← sx_pq h.1.1.2]; exact hI, sx_kx_ok h.1.2⟩⟩)))))
    · next k hI =>
      simp only [Bool.and_eq_true] at h
      have ho := sx_pq h.1.1.1
      exact sx_e_pl hd (by omega) (fun _ => Nat.le_of_ble_eq_true h.2) (Or.inr (Or.inr (Or.inr (Or.inr (Or.inl ⟨ho, Or.inr ⟨k, hI, sx_pq h.1.1.2, sx_kx_ok h.1.2⟩⟩)))))
    · next k n hI =>
      simp only [Bool.and_eq_true, decide_eq_true_eq] at h
      have ho := sx_pq h.1.1.1
      exact sx_e_pl hd (by omega) (by omega) (Or.inr (Or.inr (Or.inr (Or.inr (Or.inr (Or.inl ⟨ho, n, by rw [← sx_pq h.1.1.2]; exact hI, h.1.2, sx_kx_ok h.2⟩))))))
    · next c off hI =>
      simp only [Bool.and_eq_true] at h
      have ho := sx_pq h.1.1
      refine sx_e_pl hd (by cases c <;> simp only [sx_cnd] at ho <;> omega) (by cases c <;> simp only [sx_cnd] at ho <;> omega) ?_
      iterate 7 apply Or.inr
      refine Or.inl ⟨off, ?_, sx_kx_ok h.1.2, sx_kt_ok h.2⟩
      rw [ho, hI]
      cases c <;> simp [sx_if, sx_cnd]
    · next c off hI =>
      simp only [Bool.and_eq_true] at h
      have ho := sx_pq h.1.1
      refine sx_e_pl hd (by cases c <;> simp only [sx_cnd] at ho <;> omega) (by cases c <;> simp only [sx_cnd] at ho <;> omega) ?_
      iterate 7 apply Or.inr
      refine Or.inl ⟨off, ?_, sx_kx_ok h.1.2, sx_kt_ok h.2⟩
      rw [ho, hI]
      cases c <;> simp [sx_if, sx_cnd]
    · next off hI =>
      simp only [Bool.and_eq_true] at h
      have ho := sx_pq h.1.1
      refine sx_e_pl hd (by omega) (by omega) ?_
      iterate 8 apply Or.inr
      exact Or.inl ⟨ho, off, hI, sx_pq h.1.2, sx_kt_ok h.2⟩
    · next d l u o hI =>
      have ho := sx_pq h
      refine sx_e_pl hd (by omega) (by omega) ?_
      iterate 9 apply Or.inr
      exact Or.inl ⟨ho, d, l, u, o, hI⟩
    · next k hI =>
      simp only [Bool.and_eq_true] at h
      have ho := sx_pq h.1.1
      refine sx_e_pl hd (by omega) (by omega) ?_
      iterate 10 apply Or.inr
      exact Or.inl ⟨ho, k, hI, (hK _ _ _ _ h.1.2).2.1 rfl, sx_kx_ok h.2⟩
    · next k hI =>
      simp only [Bool.and_eq_true, Bool.or_eq_true] at h
      have ho := sx_pq h.1.1
      refine sx_e_pl hd (by omega) (by omega) ?_
      iterate 11 apply Or.inr
      refine Or.inl ⟨ho, k, hI, ?_, sx_kx_ok h.2⟩
      rcases h.1.2 with q | ⟨q1, q2⟩
      · exact (hK _ _ _ _ q).2.2.1 rfl _
      · show sx_pok g.1 g.2.1 (g.2.2.2.2.1 j).1.cls (g.2.2.2.2.1 j).1.name k en.2.1 (en.2.2.1 % 1000) (en.2.2.1 / 1000)
        rw [hini q1]
        exact (hK _ _ _ _ q2).2.2.2.1 rfl
    · next k hI =>
      simp only [Bool.and_eq_true, Bool.or_eq_true] at h
      rcases h with h | h
      · have ho := sx_pq h.1.1
        have h9 := (hK _ _ _ _ h.1.2).2.2.2.2.1 rfl
        refine sx_e_pl hd (by omega) (by omega) ?_
        iterate 12 apply Or.inr
        exact Or.inl ⟨ho, k, hI, h9.1, h9.2, sx_kx_ok h.2⟩
      · refine ⟨hd, ?_⟩
        iterate 5 apply Or.inr
        exact Or.inl ⟨sx_pq h.1, sx_k62_ok hK hdec hh hI hat h.2⟩
    · next t hI =>
      simp only [Bool.and_eq_true] at h
      obtain ⟨h1, h2⟩ := h
      split at h1
      · have ho := sx_pq h1
        refine sx_e_pl hd (by omega) (by omega) ?_
        iterate 13 apply Or.inr
        exact Or.inl ⟨ho, hI, hw.1, sx_kx_ok h2⟩
      · have ho := sx_pq h1
        refine sx_e_pl hd (by omega) (by omega) ?_
        iterate 14 apply Or.inr
        exact Or.inl ⟨ho, hI, hw.2.1, sx_kx_ok h2⟩
      · have ho := sx_pq h1
        refine sx_e_pl hd (by omega) (by omega) ?_
        iterate 15 apply Or.inr
        exact Or.inl ⟨ho, hI, hw.2.2.1, sx_kx_ok h2⟩
      · have ho := sx_pq h1
        refine sx_e_pl hd (by omega) (by omega) ?_
        iterate 16 apply Or.inr
        exact Or.inl ⟨ho, hI, hw.2.2.2, sx_kx_ok h2⟩
      · cases h1
    · next k hI =>
      simp only [Bool.and_eq_true] at h
      have ho := sx_pq h.1.1
      obtain ⟨z, z1, z2, z3, z4⟩ := (hK _ _ _ _ h.1.2).2.2.2.2.2.1 rfl
      refine sx_e_pl hd (by omega) (by omega) ?_
      iterate 17 apply Or.inr
      exact Or.inl ⟨ho, k, z, hI, z1, z2, z3, z4, sx_kx_ok h.2⟩
    · next k hI =>
      simp only [Bool.and_eq_true, Bool.or_eq_true] at h
      rcases h with h | h
      · have ho := sx_pq h.1.1.1
        obtain ⟨z1, z2, z3⟩ := (hK _ _ _ _ h.1.1.2).2.2.2.2.2.2.1 rfl
        refine sx_e_pl hd (by omega) (by omega) ?_
        iterate 18 apply Or.inr
        exact Or.inl ⟨ho, k, hI, Nat.le_of_ble_eq_true h.1.2.1, Nat.le_of_ble_eq_true h.1.2.2, z1, z2, z3, sx_kx_ok h.2⟩
      · have ho := sx_pq h.1
        exact ⟨hd, Or.inr (Or.inl ⟨by omega, sx_kc_ok hK (by rw [hI, ho]; rfl) (by omega) h.2⟩)⟩
    · next k hI =>
      simp only [Bool.and_eq_true, Bool.or_eq_true] at h
      rcases h with h | h
      · have ho := sx_pq h.1.1.1
        obtain ⟨z1, z2, z3, z4⟩ := (hK _ _ _ _ h.1.1.2).2.2.2.2.2.2.2.1 rfl
        refine sx_e_pl hd (by omega) (by omega) ?_
        iterate 19 apply Or.inr
        exact ⟨ho, k, hI, Nat.le_of_ble_eq_true h.1.2.1, Nat.le_trans (by decide +kernel) (Nat.le_of_ble_eq_true h.1.2.2), z1, z2, z3, z4, sx_kx_ok h.2⟩
      · have ho := sx_pq h.1
        exact ⟨hd, Or.inr (Or.inl ⟨by omega, sx_kc_ok hK (by rw [hI, ho]; rfl) (by omega) h.2⟩)⟩
    · next k hI =>
      simp only [Bool.and_eq_true] at h
      have ho := sx_pq h.1
      exact ⟨hd, Or.inr (Or.inl ⟨by omega, sx_kc_ok hK (by rw [hI, ho]; rfl) (by omega) h.2⟩)⟩
    · next hI =>
      simp only [Bool.and_eq_true] at h
      exact ⟨hd, Or.inr (Or.inr (Or.inl ⟨sx_pq h.1.1, hI, sx_pq h.1.2, sx_pq h.2, hrk.1 (sx_pq h.2)⟩))⟩
    · next hI =>
      simp only [Bool.and_eq_true, Bool.or_eq_true] at h
      refine ⟨hd, Or.inr (Or.inr (Or.inr (Or.inl ⟨sx_pq h.1.1, hI, sx_pq h.1.2, ?_⟩)))⟩
      rcases h.2 with q | q
      · exact Or.inl ⟨sx_pq q, hrk.2.1 (sx_pq q)⟩
      · exact Or.inr ⟨sx_pq q, hrk.2.2.1 (sx_pq q)⟩
    · next hI =>
      simp only [Bool.and_eq_true] at h
      exact ⟨hd, Or.inr (Or.inr (Or.inr (Or.inr (Or.inl ⟨sx_pq h.1.1, hI, sx_pq h.1.2, sx_pq h.2, hrk.2.2.2 (sx_pq h.2)⟩))))⟩
    · simp only [Bool.and_eq_true] at h
      have ho := sx_pq h.1
      have hlt : en.1 < 63 := by
        by_cases h9 : en.1 < 63
        · exact h9
        · rw [Nat.ble_eq_true_of_le (by omega)] at h63; cases h63
      have h8 := sx_bo_ok ho.symm (by omega)
      have h7 : en.1 < 56 ∧ en.1 ≠ 3 ∧ en.1 ≠ 4 := by
        generalize en.1 = o at h8
        unfold sx_bop at h8
        simp only [List.mem_cons, List.not_mem_nil, or_false, Prod.mk.injEq] at h8
        omega
      refine sx_e_pl hd h7.1 (by omega) ?_
      iterate 6 apply Or.inr
      exact Or.inl ⟨h8, sx_kx_ok h.2⟩
end SXK
