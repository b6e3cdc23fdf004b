/-! ===== the class: bits, heights; a node written ===== -/
noncomputable section
theorem sw_and_n {a b : Nat} (ha : a < 2147483648) (hb : b < 2147483648) : sw_and (a : Int) (b : Int) = ((Nat.land a b : Nat) : Int) := by
  unfold sw_and
  have h1 : (Int32.ofInt (a : Int) &&& Int32.ofInt (b : Int)).toInt = ((Int32.ofInt (a : Int)).toBitVec &&& (Int32.ofInt (b : Int)).toBitVec).toInt := rfl
  have h2 : ((Int32.ofInt (a : Int)).toBitVec &&& (Int32.ofInt (b : Int)).toBitVec).toNat = Nat.land a b := by
    rw [BitVec.toNat_and, sw_nat, sw_nat]
    rw [show ((a : Int) % 4294967296).toNat = a by omega, show ((b : Int) % 4294967296).toNat = b by omega]
    rfl
  have h3 : Nat.land a b ≤ a := Nat.and_le_left
  rw [h1, sw_i_nat (by rw [h2]; omega), h2]
theorem sw_ush_n {a c : Int} {k : Nat} (ha : 0 ≤ a) (ha2 : a < 2147483648) (hk : 0 < k) (hk2 : k < 32) (hc : ((Int32.ofInt c).toUInt32 &&& Int32.toUInt32 31).toNat = k) : sw_ush a c = a / (2 ^ k : Nat) := by
  rw [sw_ush_k hk hk2 hc, show a % 4294967296 = a by omega]
def w_bcN (z : Nat) : Nat := (fun y1 => (fun y5 => (fun y9 => (fun y13 => Nat.land (Nat.add y13 (Nat.div y13 65536)) 63) (Nat.add y9 (Nat.div y9 256))) (Nat.land (Nat.add y5 (Nat.div y5 16)) 252645135)) (Nat.add (Nat.land y1 858993459) (Nat.land (Nat.div y1 4) 858993459))) (Nat.sub z (Nat.land (Nat.div z 2) 1431655765))
def w_onN (z : Nat) : Nat := Nat.add (Nat.mod z 2) (Nat.add (Nat.mod (Nat.div z 2) 2) (Nat.add (Nat.mod (Nat.div z 4) 2) (Nat.add (Nat.mod (Nat.div z 8) 2) (Nat.add (Nat.mod (Nat.div z 16) 2) (Nat.add (Nat.mod (Nat.div z 32) 2) (Nat.add (Nat.mod (Nat.div z 64) 2) (Nat.add (Nat.mod (Nat.div z 128) 2) (Nat.add (Nat.mod (Nat.div z 256) 2) (Nat.add (Nat.mod (Nat.div z 512) 2) (Nat.add (Nat.mod (Nat.div z 1024) 2) (Nat.add (Nat.mod (Nat.div z 2048) 2) (Nat.add (Nat.mod (Nat.div z 4096) 2) (Nat.add (Nat.mod (Nat.div z 8192) 2) (Nat.add (Nat.mod (Nat.div z 16384) 2) (Nat.mod (Nat.div z 32768) 2)))))))))))))))
def w_bck (b : Nat) : Nat → Bool
  | 0 => true
  | n + 1 => Nat.beq (w_bcN (Nat.add b n)) (w_onN (Nat.add b n)) && w_bck b n
theorem w_bck_at {b : Nat} : ∀ {n : Nat}, w_bck b n = true → ∀ z, b ≤ z → z < b + n → w_bcN z = w_onN z
  | 0, _, z, h1, h2 => by omega
  | n + 1, h, z, h1, h2 => by
    unfold w_bck at h
    rw [Bool.and_eq_true] at h
    by_cases e : z = b + n
    · have := Nat.eq_of_beq_eq_true h.1
      rw [e]
      exact this
    · exact w_bck_at h.2 z h1 (by omega)
theorem w_bck_0 : w_bck 0 4096 = true := by decide +kernel
theorem w_bck_1 : w_bck 4096 4096 = true := by decide +kernel
theorem w_bck_2 : w_bck 8192 4096 = true := by decide +kernel
theorem w_bck_3 : w_bck 12288 4096 = true := by decide +kernel
theorem w_bck_4 : w_bck 16384 4096 = true := by decide +kernel
theorem w_bck_5 : w_bck 20480 4096 = true := by decide +kernel
theorem w_bck_6 : w_bck 24576 4096 = true := by decide +kernel
theorem w_bck_7 : w_bck 28672 4096 = true := by decide +kernel
theorem w_bck_8 : w_bck 32768 4096 = true := by decide +kernel
theorem w_bck_9 : w_bck 36864 4096 = true := by decide +kernel
theorem w_bck_a : w_bck 40960 4096 = true := by decide +kernel
theorem w_bck_b : w_bck 45056 4096 = true := by decide +kernel
theorem w_bck_c : w_bck 49152 4096 = true := by decide +kernel
theorem w_bck_d : w_bck 53248 4096 = true := by decide +kernel
theorem w_bck_e : w_bck 57344 4096 = true := by decide +kernel
theorem w_bck_f : w_bck 61440 4096 = true := by decide +kernel
theorem w_bc_all {z : Nat} (h : z < 65536) : w_bcN z = w_onN z := by
  by_cases c0 : z < 4096
  · exact w_bck_at w_bck_0 z (by omega) (by omega)
  by_cases c1 : z < 8192
  · exact w_bck_at w_bck_1 z (by omega) (by omega)
  by_cases c2 : z < 12288
  · exact w_bck_at w_bck_2 z (by omega) (by omega)
  by_cases c3 : z < 16384
  · exact w_bck_at w_bck_3 z (by omega) (by omega)
  by_cases c4 : z < 20480
  · exact w_bck_at w_bck_4 z (by omega) (by omega)
  by_cases c5 : z < 24576
  · exact w_bck_at w_bck_5 z (by omega) (by omega)
  by_cases c6 : z < 28672
  · exact w_bck_at w_bck_6 z (by omega) (by omega)
  by_cases c7 : z < 32768
  · exact w_bck_at w_bck_7 z (by omega) (by omega)
  by_cases c8 : z < 36864
  · exact w_bck_at w_bck_8 z (by omega) (by omega)
  by_cases c9 : z < 40960
  · exact w_bck_at w_bck_9 z (by omega) (by omega)
  by_cases ca : z < 45056
  · exact w_bck_at w_bck_a z (by omega) (by omega)
  by_cases cb : z < 49152
  · exact w_bck_at w_bck_b z (by omega) (by omega)
  by_cases cc : z < 53248
  · exact w_bck_at w_bck_c z (by omega) (by omega)
  by_cases cd : z < 57344
  · exact w_bck_at w_bck_d z (by omega) (by omega)
  by_cases ce : z < 61440
  · exact w_bck_at w_bck_e z (by omega) (by omega)
  exact w_bck_at w_bck_f z (by omega) (by omega)
theorem w_on_ones {z : Nat} : ((w_onN z : Nat) : Int) = w_ones z := by
  have e : w_ones z = w_bit z 0 + (w_bit z 1 + (w_bit z 2 + (w_bit z 3 + (w_bit z 4 + (w_bit z 5 + (w_bit z 6 + (w_bit z 7 + (w_bit z 8 + (w_bit z 9 + (w_bit z 10 + (w_bit z 11 + (w_bit z 12 + (w_bit z 13 + (w_bit z 14 + (w_bit z 15 + 0))))))))))))))) := rfl
  have b : ∀ l : Nat, w_bit (z : Int) l = ((Nat.mod (Nat.div z (2 ^ l)) 2 : Nat) : Int) := fun l => by
    show (z : Int) / ((2 ^ l : Nat) : Int) % 2 = ((z / 2 ^ l % 2 : Nat) : Int)
    rw [Int.natCast_emod, Int.natCast_ediv]
    rfl
  have b0 : w_bit (z : Int) 0 = ((Nat.mod z 2 : Nat) : Int) := by
    rw [b 0]
    show ((z / 1 % 2 : Nat) : Int) = ((z % 2 : Nat) : Int)
    rw [Nat.div_one]
  rw [e, b0, b 1, b 2, b 3, b 4, b 5, b 6, b 7, b 8, b 9, b 10, b 11, b 12, b 13, b 14, b 15]
  unfold w_onN
  show ((Nat.mod z 2 + (_ + (_ + (_ + (_ + (_ + (_ + (_ + (_ + (_ + (_ + (_ + (_ + (_ + (_ + _)))))))))))))) : Nat) : Int) = _
  rw [Int.natCast_add, Int.natCast_add, Int.natCast_add, Int.natCast_add, Int.natCast_add, Int.natCast_add, Int.natCast_add, Int.natCast_add, Int.natCast_add, Int.natCast_add, Int.natCast_add, Int.natCast_add, Int.natCast_add, Int.natCast_add, Int.natCast_add, Int.add_zero]
section
variable {H G X Y : sw_H} {d e f : Nat → Wt} {nn r ra : Nat} {K : Wt → Prop} {tl mk mm l : List Wt} {s a b c x cn cs N U M : Int} {Q : sw_H → Prop} {P : Int → sw_H → Prop} {A B : List Nat} {w wa wb : Wt} {T : w_T}
theorem c_bitCount {z : Nat} (hz : z < 65536) (q : P (w_ones z) H) : wm_137 z H P := by
  have l1 : Nat.land (z / 2) 1431655765 ≤ z / 2 := Nat.and_le_left
  unfold wm_137
  intro y1 e1 y5 e5 y9 e9 y13 e13 y17 e17
  rw [sw_ush_n (k := 1) (by omega) (by omega) (by decide) (by decide) (by decide)] at e1
  have q1 : y1 = ((Nat.sub z (Nat.land (Nat.div z 2) 1431655765) : Nat) : Int) := by
    rw [show (z : Int) / ((2 ^ 1 : Nat) : Int) = ((z / 2 : Nat) : Int) by omega, show (1431655765 : Int) = ((1431655765 : Nat) : Int) from rfl, sw_and_n (by omega) (by decide)] at e1
    rw [sw_w_s (by omega) (by omega)] at e1
    show y1 = ((z - Nat.land (z / 2) 1431655765 : Nat) : Int)
    omega
  generalize eu : Nat.sub z (Nat.land (Nat.div z 2) 1431655765) = u at q1
  have bu : u ≤ 65535 := by rw [← eu]; show z - _ ≤ _; omega
  have l2 : Nat.land u 858993459 ≤ u := Nat.and_le_left
  have l3 : Nat.land (u / 4) 858993459 ≤ u / 4 := Nat.and_le_left
  subst q1
  rw [sw_ush_n (k := 2) (by omega) (by omega) (by decide) (by decide) (by decide)] at e5
  have q5 : y5 = ((Nat.add (Nat.land u 858993459) (Nat.land (Nat.div u 4) 858993459) : Nat) : Int) := by
    rw [show (u : Int) / ((2 ^ 2 : Nat) : Int) = ((u / 4 : Nat) : Int) by omega, show (858993459 : Int) = ((858993459 : Nat) : Int) from rfl, sw_and_n (by omega) (by decide), sw_and_n (by omega) (by decide)] at e5
    rw [sw_w_s (by omega) (by omega)] at e5
    show y5 = ((Nat.land u 858993459 + Nat.land (u / 4) 858993459 : Nat) : Int)
    omega
  generalize ev : Nat.add (Nat.land u 858993459) (Nat.land (Nat.div u 4) 858993459) = v at q5
  have bv : v ≤ 131072 := by rw [← ev]; show Nat.land u 858993459 + Nat.land (u / 4) 858993459 ≤ _; omega
  have l4 : Nat.land (v + v / 16) 252645135 ≤ v + v / 16 := Nat.and_le_left
  subst q5
  rw [sw_ush_n (k := 4) (by omega) (by omega) (by decide) (by decide) (by decide), show (v : Int) / ((2 ^ 4 : Nat) : Int) = ((v / 16 : Nat) : Int) by omega, sw_w_s (by omega) (by omega), show (v : Int) + ((v / 16 : Nat) : Int) = ((v + v / 16 : Nat) : Int) by omega, show (252645135 : Int) = ((252645135 : Nat) : Int) from rfl, sw_and_n (by omega) (by decide)] at e9
  generalize ew : Nat.land (v + v / 16) 252645135 = o at e9 l4
  subst e9
  rw [sw_ush_n (k := 8) (by omega) (by omega) (by decide) (by decide) (by decide), show (o : Int) / ((2 ^ 8 : Nat) : Int) = ((o / 256 : Nat) : Int) by omega, sw_w_s (by omega) (by omega), show (o : Int) + ((o / 256 : Nat) : Int) = ((o + o / 256 : Nat) : Int) by omega] at e13
  generalize ei : o + o / 256 = i at e13
  subst e13
  rw [sw_ush_n (k := 16) (by omega) (by omega) (by decide) (by decide) (by decide), show (i : Int) / ((2 ^ 16 : Nat) : Int) = ((i / 65536 : Nat) : Int) by omega, sw_w_s (by omega) (by omega), show (i : Int) + ((i / 65536 : Nat) : Int) = ((i + i / 65536 : Nat) : Int) by omega] at e17
  subst e17
  rw [show (63 : Int) = ((63 : Nat) : Int) from rfl, sw_and_n (by omega) (by decide)]
  have fin : Nat.land (i + i / 65536) 63 = w_bcN z := by
    rw [← ei, ← ew, ← ev, ← eu]
    rfl
  rw [fin, w_bc_all hz, w_on_ones]
  exact q
theorem c_height {x : Nat} (hx : x < 31) (q : P (w_h x) H) : wm_246 x H P := by
  have key : ∀ x : Fin 31, sw_xor (x.val : Int) (sw_w ((x.val : Int) + 1)) = ((2 ^ (w_h x.val + 1) - 1 : Nat) : Int) ∧ sw_w (w_ones ((2 ^ (w_h x.val + 1) - 1 : Nat) : Int) - 1) = w_h x.val ∧ 2 ^ (w_h x.val + 1) - 1 < 65536 := by decide +kernel
  obtain ⟨k1, k2, k3⟩ := key ⟨x, hx⟩
  have k1 : sw_xor (x : Int) (sw_w ((x : Int) + 1)) = ((2 ^ (w_h x + 1) - 1 : Nat) : Int) := k1
  have k2 : sw_w (w_ones ((2 ^ (w_h x + 1) - 1 : Nat) : Int) - 1) = w_h x := k2
  unfold wm_246
  rw [k1]
  refine c_bitCount k3 (fun _ _ => ?_)
  rw [k2]
  exact q
end
end
