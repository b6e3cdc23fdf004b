/-! ===== bytes: an instruction read off the code's bytes from a place on ===== -/
theorem sx_u1 {cc : ByteArray} {p : Nat} {b : UInt8} {w : List UInt8} (h : cc.data.toList.drop p = b :: w) : (Reader.u1 : Decoder Nat) cc p = .ok (b.toNat, p + 1) ∧ cc.data.toList.drop (p + 1) = w := by
  have hl : p < cc.data.toList.length := by
    by_cases hp : p < cc.data.toList.length
    · exact hp
    · rw [List.drop_eq_nil_of_le (by omega)] at h; cases h
  have hp : p < cc.size := by
    have : cc.size = cc.data.toList.length := by cases cc; rfl
    omega
  have hg := List.drop_eq_getElem_cons hl
  rw [h] at hg
  have hb : cc[p] = b := by
    have : cc[p] = cc.data.toList[p] := by cases cc; rfl
    rw [this]; exact (List.cons.inj hg).1.symm
  refine ⟨?_, (List.cons.inj hg).2.symm⟩
  have h9 : (Reader.u1 : Decoder Nat) cc p = (if h : p < cc.size then (.ok (cc[p].toNat, p + 1) : Except DecodeError (Nat × Nat)) else .error (HasTruncated.truncated p)) := by
    unfold Reader.u1
    by_cases hq : p < cc.size
    · rw [dif_pos hq]; show (dite (p < cc.size) _ _ : Decoder Nat) cc p = _; rw [dif_pos hq]; rfl
    · exact absurd hp hq
  rw [h9, dif_pos hp, hb]
theorem sx_u2 {cc : ByteArray} {p : Nat} {a b : UInt8} {w : List UInt8} (h : cc.data.toList.drop p = a :: b :: w) : (Reader.u2 : Decoder Nat) cc p = .ok (a.toNat * 256 + b.toNat, p + 2) ∧ cc.data.toList.drop (p + 2) = w := by
  obtain ⟨h1, h2⟩ := sx_u1 h
  obtain ⟨h3, h4⟩ := sx_u1 h2
  refine ⟨?_, h4⟩
  show Except.bind ((Reader.u1 : Decoder Nat) cc p) _ = _
  rw [h1]
  show Except.bind ((Reader.u1 : Decoder Nat) cc (p + 1)) _ = _
  rw [h3]
  rfl
theorem sx_s1 {cc : ByteArray} {p : Nat} {b : UInt8} {w : List UInt8} (h : cc.data.toList.drop p = b :: w) : (Reader.s1 : Decoder Int) cc p = .ok (Reader.signed 8 b.toNat, p + 1) ∧ cc.data.toList.drop (p + 1) = w := by
  obtain ⟨h1, h2⟩ := sx_u1 h
  refine ⟨?_, h2⟩
  show Except.bind ((Reader.u1 : Decoder Nat) cc p) _ = _
  rw [h1]
  rfl
theorem sx_s2 {cc : ByteArray} {p : Nat} {a b : UInt8} {w : List UInt8} (h : cc.data.toList.drop p = a :: b :: w) : (Reader.s2 : Decoder Int) cc p = .ok (Reader.signed 16 (a.toNat * 256 + b.toNat), p + 2) ∧ cc.data.toList.drop (p + 2) = w := by
  obtain ⟨h1, h2⟩ := sx_u2 h
  refine ⟨?_, h2⟩
  show Except.bind ((Reader.u2 : Decoder Nat) cc p) _ = _
  rw [h1]
  rfl
theorem sx_dA {cc : ByteArray} {pc n : Nat} {i : Instr} (h : Decoder.instr pc cc pc = .ok (i, pc + n)) : decode cc pc = .ok (i, n) := by
  show Except.bind (Decoder.instr pc cc pc) _ = _
  rw [h]
  show Except.ok (i, pc + n - pc) = _
  rw [Nat.add_sub_cancel_left]
/-- the instructions of one byte -/
def sx_t0 : List (Nat × Instr) := [(2, .iconst (-1)), (3, .iconst 0), (4, .iconst 1), (5, .iconst 2), (6, .iconst 3), (7, .iconst 4), (8, .iconst 5), (26, .iload_n 0), (27, .iload_n 1), (28, .iload_n 2), (29, .iload_n 3), (42, .aload_n 0), (43, .aload_n 1), (44, .aload_n 2), (45, .aload_n 3), (46, .iaload), (47, .laload), (50, .aaload), (51, .baload), (59, .istore_n 0), (60, .istore_n 1), (61, .istore_n 2), (62, .istore_n 3), (75, .astore_n 0), (76, .astore_n 1), (77, .astore_n 2), (78, .astore_n 3), (79, .iastore), (80, .lastore), (83, .aastore), (84, .bastore), (87, .pop), (89, .dup), (92, .dup2), (96, .iadd), (100, .isub), (104, .imul), (108, .idiv), (112, .irem), (120, .ishl), (122, .ishr), (124, .iushr), (126, .iand), (128, .ior), (130, .ixor), (133, .i2l), (145, .i2b), (148, .lcmp), (172, .ireturn), (176, .areturn), (177, .return_), (190, .arraylength), (191, .athrow)]
def sx_t1 : List (Nat × (Nat → Instr)) := [(18, .ldc), (21, .iload), (25, .aload), (54, .istore), (58, .astore)]
def sx_t2 : List (Nat × (Nat → Instr)) := [(19, .ldc_w), (180, .getfield), (181, .putfield), (182, .invokevirtual), (183, .invokespecial), (184, .invokestatic), (187, .new), (189, .anewarray), (192, .checkcast)]
def sx_t3 : List (Nat × (Int → Instr)) := [(17, .sipush), (153, .ifCond .eq), (154, .ifCond .ne), (155, .ifCond .lt), (156, .ifCond .ge), (157, .ifCond .gt), (158, .ifCond .le), (159, .if_icmp .eq), (160, .if_icmp .ne), (161, .if_icmp .lt), (162, .if_icmp .ge), (163, .if_icmp .gt), (164, .if_icmp .le), (167, .goto)]
def sx_t4 : List (Nat × ArrayType) := [(4, .boolean), (8, .byte), (10, .int), (11, .long)]
theorem sx_d2 {cc : ByteArray} {pc : Nat} {a : UInt8} {w : List UInt8} (h : cc.data.toList.drop pc = a :: w) (ha : a.toNat = 2) : decode cc pc = .ok (.iconst (-1), 1) := sx_dA (by show Except.bind ((Reader.u1 : Decoder Nat) cc pc) _ = _; rw [(sx_u1 h).1, ha]; rfl)
theorem sx_d3 {cc : ByteArray} {pc : Nat} {a : UInt8} {w : List UInt8} (h : cc.data.toList.drop pc = a :: w) (ha : a.toNat = 3) : decode cc pc = .ok (.iconst 0, 1) := sx_dA (by show Except.bind ((Reader.u1 : Decoder Nat) cc pc) _ = _; rw [(sx_u1 h).1, ha]; rfl)
theorem sx_d4 {cc : ByteArray} {pc : Nat} {a : UInt8} {w : List UInt8} (h : cc.data.toList.drop pc = a :: w) (ha : a.toNat = 4) : decode cc pc = .ok (.iconst 1, 1) := sx_dA (by show Except.bind ((Reader.u1 : Decoder Nat) cc pc) _ = _; rw [(sx_u1 h).1, ha]; rfl)
theorem sx_d5 {cc : ByteArray} {pc : Nat} {a : UInt8} {w : List UInt8} (h : cc.data.toList.drop pc = a :: w) (ha : a.toNat = 5) : decode cc pc = .ok (.iconst 2, 1) := sx_dA (by show Except.bind ((Reader.u1 : Decoder Nat) cc pc) _ = _; rw [(sx_u1 h).1, ha]; rfl)
theorem sx_d6 {cc : ByteArray} {pc : Nat} {a : UInt8} {w : List UInt8} (h : cc.data.toList.drop pc = a :: w) (ha : a.toNat = 6) : decode cc pc = .ok (.iconst 3, 1) := sx_dA (by show Except.bind ((Reader.u1 : Decoder Nat) cc pc) _ = _; rw [(sx_u1 h).1, ha]; rfl)
theorem sx_d7 {cc : ByteArray} {pc : Nat} {a : UInt8} {w : List UInt8} (h : cc.data.toList.drop pc = a :: w) (ha : a.toNat = 7) : decode cc pc = .ok (.iconst 4, 1) := sx_dA (by show Except.bind ((Reader.u1 : Decoder Nat) cc pc) _ = _; rw [(sx_u1 h).1, ha]; rfl)
theorem sx_d8 {cc : ByteArray} {pc : Nat} {a : UInt8} {w : List UInt8} (h : cc.data.toList.drop pc = a :: w) (ha : a.toNat = 8) : decode cc pc = .ok (.iconst 5, 1) := sx_dA (by show Except.bind ((Reader.u1 : Decoder Nat) cc pc) _ = _; rw [(sx_u1 h).1, ha]; rfl)
theorem sx_d26 {cc : ByteArray} {pc : Nat} {a : UInt8} {w : List UInt8} (h : cc.data.toList.drop pc = a :: w) (ha : a.toNat = 26) : decode cc pc = .ok (.iload_n 0, 1) := sx_dA (by show Except.bind ((Reader.u1 : Decoder Nat) cc pc) _ = _; rw [(sx_u1 h).1, ha]; rfl)
theorem sx_d27 {cc : ByteArray} {pc : Nat} {a : UInt8} {w : List UInt8} (h : cc.data.toList.drop pc = a :: w) (ha : a.toNat = 27) : decode cc pc = .ok (.iload_n 1, 1) := sx_dA (by show Except.bind ((Reader.u1 : Decoder Nat) cc pc) _ = _; rw [(sx_u1 h).1, ha]; rfl)
theorem sx_d28 {cc : ByteArray} {pc : Nat} {a : UInt8} {w : List UInt8} (h : cc.data.toList.drop pc = a :: w) (ha : a.toNat = 28) : decode cc pc = .ok (.iload_n 2, 1) := sx_dA (by show Except.bind ((Reader.u1 : Decoder Nat) cc pc) _ = _; rw [(sx_u1 h).1, ha]; rfl)
theorem sx_d29 {cc : ByteArray} {pc : Nat} {a : UInt8} {w : List UInt8} (h : cc.data.toList.drop pc = a :: w) (ha : a.toNat = 29) : decode cc pc = .ok (.iload_n 3, 1) := sx_dA (by show Except.bind ((Reader.u1 : Decoder Nat) cc pc) _ = _; rw [(sx_u1 h).1, ha]; rfl)
theorem sx_d42 {cc : ByteArray} {pc : Nat} {a : UInt8} {w : List UInt8} (h : cc.data.toList.drop pc = a :: w) (ha : a.toNat = 42) : decode cc pc = .ok (.aload_n 0, 1) := sx_dA (by show Except.bind ((Reader.u1 : Decoder Nat) cc pc) _ = _; rw [(sx_u1 h).1, ha]; rfl)
theorem sx_d43 {cc : ByteArray} {pc : Nat} {a : UInt8} {w : List UInt8} (h : cc.data.toList.drop pc = a :: w) (ha : a.toNat = 43) : decode cc pc = .ok (.aload_n 1, 1) := sx_dA (by show Except.bind ((Reader.u1 : Decoder Nat) cc pc) _ = _; rw [(sx_u1 h).1, ha]; rfl)
theorem sx_d44 {cc : ByteArray} {pc : Nat} {a : UInt8} {w : List UInt8} (h : cc.data.toList.drop pc = a :: w) (ha : a.toNat = 44) : decode cc pc = .ok (.aload_n 2, 1) := sx_dA (by show Except.bind ((Reader.u1 : Decoder Nat) cc pc) _ = _; rw [(sx_u1 h).1, ha]; rfl)
theorem sx_d45 {cc : ByteArray} {pc : Nat} {a : UInt8} {w : List UInt8} (h : cc.data.toList.drop pc = a :: w) (ha : a.toNat = 45) : decode cc pc = .ok (.aload_n 3, 1) := sx_dA (by show Except.bind ((Reader.u1 : Decoder Nat) cc pc) _ = _; rw [(sx_u1 h).1, ha]; rfl)
theorem sx_d46 {cc : ByteArray} {pc : Nat} {a : UInt8} {w : List UInt8} (h : cc.data.toList.drop pc = a :: w) (ha : a.toNat = 46) : decode cc pc = .ok (.iaload, 1) := sx_dA (by show Except.bind ((Reader.u1 : Decoder Nat) cc pc) _ = _; rw [(sx_u1 h).1, ha]; rfl)
theorem sx_d47 {cc : ByteArray} {pc : Nat} {a : UInt8} {w : List UInt8} (h : cc.data.toList.drop pc = a :: w) (ha : a.toNat = 47) : decode cc pc = .ok (.laload, 1) := sx_dA (by show Except.bind ((Reader.u1 : Decoder Nat) cc pc) _ = _; rw [(sx_u1 h).1, ha]; rfl)
theorem sx_d50 {cc : ByteArray} {pc : Nat} {a : UInt8} {w : List UInt8} (h : cc.data.toList.drop pc = a :: w) (ha : a.toNat = 50) : decode cc pc = .ok (.aaload, 1) := sx_dA (by show Except.bind ((Reader.u1 : Decoder Nat) cc pc) _ = _; rw [(sx_u1 h).1, ha]; rfl)
theorem sx_d51 {cc : ByteArray} {pc : Nat} {a : UInt8} {w : List UInt8} (h : cc.data.toList.drop pc = a :: w) (ha : a.toNat = 51) : decode cc pc = .ok (.baload, 1) := sx_dA (by show Except.bind ((Reader.u1 : Decoder Nat) cc pc) _ = _; rw [(sx_u1 h).1, ha]; rfl)
theorem sx_d59 {cc : ByteArray} {pc : Nat} {a : UInt8} {w : List UInt8} (h : cc.data.toList.drop pc = a :: w) (ha : a.toNat = 59) : decode cc pc = .ok (.istore_n 0, 1) := sx_dA (by show Except.bind ((Reader.u1 : Decoder Nat) cc pc) _ = _; rw [(sx_u1 h).1, ha]; rfl)
theorem sx_d60 {cc : ByteArray} {pc : Nat} {a : UInt8} {w : List UInt8} (h : cc.data.toList.drop pc = a :: w) (ha : a.toNat = 60) : decode cc pc = .ok (.istore_n 1, 1) := sx_dA (by show Except.bind ((Reader.u1 : Decoder Nat) cc pc) _ = _; rw [(sx_u1 h).1, ha]; rfl)
theorem sx_d61 {cc : ByteArray} {pc : Nat} {a : UInt8} {w : List UInt8} (h : cc.data.toList.drop pc = a :: w) (ha : a.toNat = 61) : decode cc pc = .ok (.istore_n 2, 1) := sx_dA (by show Except.bind ((Reader.u1 : Decoder Nat) cc pc) _ = _; rw [(sx_u1 h).1, ha]; rfl)
theorem sx_d62 {cc : ByteArray} {pc : Nat} {a : UInt8} {w : List UInt8} (h : cc.data.toList.drop pc = a :: w) (ha : a.toNat = 62) : decode cc pc = .ok (.istore_n 3, 1) := sx_dA (by show Except.bind ((Reader.u1 : Decoder Nat) cc pc) _ = _; rw [(sx_u1 h).1, ha]; rfl)
theorem sx_d75 {cc : ByteArray} {pc : Nat} {a : UInt8} {w : List UInt8} (h : cc.data.toList.drop pc = a :: w) (ha : a.toNat = 75) : decode cc pc = .ok (.astore_n 0, 1) := sx_dA (by show Except.bind ((Reader.u1 : Decoder Nat) cc pc) _ = _; rw [(sx_u1 h).1, ha]; rfl)
theorem sx_d76 {cc : ByteArray} {pc : Nat} {a : UInt8} {w : List UInt8} (h : cc.data.toList.drop pc = a :: w) (ha : a.toNat = 76) : decode cc pc = .ok (.astore_n 1, 1) := sx_dA (by show Except.bind ((Reader.u1 : Decoder Nat) cc pc) _ = _; rw [(sx_u1 h).1, ha]; rfl)
theorem sx_d77 {cc : ByteArray} {pc : Nat} {a : UInt8} {w : List UInt8} (h : cc.data.toList.drop pc = a :: w) (ha : a.toNat = 77) : decode cc pc = .ok (.astore_n 2, 1) := sx_dA (by show Except.bind ((Reader.u1 : Decoder Nat) cc pc) _ = _; rw [(sx_u1 h).1, ha]; rfl)
theorem sx_d78 {cc : ByteArray} {pc : Nat} {a : UInt8} {w : List UInt8} (h : cc.data.toList.drop pc = a :: w) (ha : a.toNat = 78) : decode cc pc = .ok (.astore_n 3, 1) := sx_dA (by show Except.bind ((Reader.u1 : Decoder Nat) cc pc) _ = _; rw [(sx_u1 h).1, ha]; rfl)
theorem sx_d79 {cc : ByteArray} {pc : Nat} {a : UInt8} {w : List UInt8} (h : cc.data.toList.drop pc = a :: w) (ha : a.toNat = 79) : decode cc pc = .ok (.iastore, 1) := sx_dA (by show Except.bind ((Reader.u1 : Decoder Nat) cc pc) _ = _; rw [(sx_u1 h).1, ha]; rfl)
theorem sx_d80 {cc : ByteArray} {pc : Nat} {a : UInt8} {w : List UInt8} (h : cc.data.toList.drop pc = a :: w) (ha : a.toNat = 80) : decode cc pc = .ok (.lastore, 1) := sx_dA (by show Except.bind ((Reader.u1 : Decoder Nat) cc pc) _ = _; rw [(sx_u1 h).1, ha]; rfl)
theorem sx_d83 {cc : ByteArray} {pc : Nat} {a : UInt8} {w : List UInt8} (h : cc.data.toList.drop pc = a :: w) (ha : a.toNat = 83) : decode cc pc = .ok (.aastore, 1) := sx_dA (by show Except.bind ((Reader.u1 : Decoder Nat) cc pc) _ = _; rw [(sx_u1 h).1, ha]; rfl)
theorem sx_d84 {cc : ByteArray} {pc : Nat} {a : UInt8} {w : List UInt8} (h : cc.data.toList.drop pc = a :: w) (ha : a.toNat = 84) : decode cc pc = .ok (.bastore, 1) := sx_dA (by show Except.bind ((Reader.u1 : Decoder Nat) cc pc) _ = _; rw [(sx_u1 h).1, ha]; rfl)
theorem sx_d87 {cc : ByteArray} {pc : Nat} {a : UInt8} {w : List UInt8} (h : cc.data.toList.drop pc = a :: w) (ha : a.toNat = 87) : decode cc pc = .ok (.pop, 1) := sx_dA (by show Except.bind ((Reader.u1 : Decoder Nat) cc pc) _ = _; rw [(sx_u1 h).1, ha]; rfl)
theorem sx_d89 {cc : ByteArray} {pc : Nat} {a : UInt8} {w : List UInt8} (h : cc.data.toList.drop pc = a :: w) (ha : a.toNat = 89) : decode cc pc = .ok (.dup, 1) := sx_dA (by show Except.bind ((Reader.u1 : Decoder Nat) cc pc) _ = _; rw [(sx_u1 h).1, ha]; rfl)
theorem sx_d92 {cc : ByteArray} {pc : Nat} {a : UInt8} {w : List UInt8} (h : cc.data.toList.drop pc = a :: w) (ha : a.toNat = 92) : decode cc pc = .ok (.dup2, 1) := sx_dA (by show Except.bind ((Reader.u1 : Decoder Nat) cc pc) _ = _; rw [(sx_u1 h).1, ha]; rfl)
theorem sx_d96 {cc : ByteArray} {pc : Nat} {a : UInt8} {w : List UInt8} (h : cc.data.toList.drop pc = a :: w) (ha : a.toNat = 96) : decode cc pc = .ok (.iadd, 1) := sx_dA (by show Except.bind ((Reader.u1 : Decoder Nat) cc pc) _ = _; rw [(sx_u1 h).1, ha]; rfl)
theorem sx_d100 {cc : ByteArray} {pc : Nat} {a : UInt8} {w : List UInt8} (h : cc.data.toList.drop pc = a :: w) (ha : a.toNat = 100) : decode cc pc = .ok (.isub, 1) := sx_dA (by show Except.bind ((Reader.u1 : Decoder Nat) cc pc) _ = _; rw [(sx_u1 h).1, ha]; rfl)
theorem sx_d104 {cc : ByteArray} {pc : Nat} {a : UInt8} {w : List UInt8} (h : cc.data.toList.drop pc = a :: w) (ha : a.toNat = 104) : decode cc pc = .ok (.imul, 1) := sx_dA (by show Except.bind ((Reader.u1 : Decoder Nat) cc pc) _ = _; rw [(sx_u1 h).1, ha]; rfl)
theorem sx_d108 {cc : ByteArray} {pc : Nat} {a : UInt8} {w : List UInt8} (h : cc.data.toList.drop pc = a :: w) (ha : a.toNat = 108) : decode cc pc = .ok (.idiv, 1) := sx_dA (by show Except.bind ((Reader.u1 : Decoder Nat) cc pc) _ = _; rw [(sx_u1 h).1, ha]; rfl)
theorem sx_d112 {cc : ByteArray} {pc : Nat} {a : UInt8} {w : List UInt8} (h : cc.data.toList.drop pc = a :: w) (ha : a.toNat = 112) : decode cc pc = .ok (.irem, 1) := sx_dA (by show Except.bind ((Reader.u1 : Decoder Nat) cc pc) _ = _; rw [(sx_u1 h).1, ha]; rfl)
theorem sx_d120 {cc : ByteArray} {pc : Nat} {a : UInt8} {w : List UInt8} (h : cc.data.toList.drop pc = a :: w) (ha : a.toNat = 120) : decode cc pc = .ok (.ishl, 1) := sx_dA (by show Except.bind ((Reader.u1 : Decoder Nat) cc pc) _ = _; rw [(sx_u1 h).1, ha]; rfl)
theorem sx_d122 {cc : ByteArray} {pc : Nat} {a : UInt8} {w : List UInt8} (h : cc.data.toList.drop pc = a :: w) (ha : a.toNat = 122) : decode cc pc = .ok (.ishr, 1) := sx_dA (by show Except.bind ((Reader.u1 : Decoder Nat) cc pc) _ = _; rw [(sx_u1 h).1, ha]; rfl)
theorem sx_d124 {cc : ByteArray} {pc : Nat} {a : UInt8} {w : List UInt8} (h : cc.data.toList.drop pc = a :: w) (ha : a.toNat = 124) : decode cc pc = .ok (.iushr, 1) := sx_dA (by show Except.bind ((Reader.u1 : Decoder Nat) cc pc) _ = _; rw [(sx_u1 h).1, ha]; rfl)
theorem sx_d126 {cc : ByteArray} {pc : Nat} {a : UInt8} {w : List UInt8} (h : cc.data.toList.drop pc = a :: w) (ha : a.toNat = 126) : decode cc pc = .ok (.iand, 1) := sx_dA (by show Except.bind ((Reader.u1 : Decoder Nat) cc pc) _ = _; rw [(sx_u1 h).1, ha]; rfl)
theorem sx_d128 {cc : ByteArray} {pc : Nat} {a : UInt8} {w : List UInt8} (h : cc.data.toList.drop pc = a :: w) (ha : a.toNat = 128) : decode cc pc = .ok (.ior, 1) := sx_dA (by show Except.bind ((Reader.u1 : Decoder Nat) cc pc) _ = _; rw [(sx_u1 h).1, ha]; rfl)
theorem sx_d130 {cc : ByteArray} {pc : Nat} {a : UInt8} {w : List UInt8} (h : cc.data.toList.drop pc = a :: w) (ha : a.toNat = 130) : decode cc pc = .ok (.ixor, 1) := sx_dA (by show Except.bind ((Reader.u1 : Decoder Nat) cc pc) _ = _; rw [(sx_u1 h).1, ha]; rfl)
theorem sx_d133 {cc : ByteArray} {pc : Nat} {a : UInt8} {w : List UInt8} (h : cc.data.toList.drop pc = a :: w) (ha : a.toNat = 133) : decode cc pc = .ok (.i2l, 1) := sx_dA (by show Except.bind ((Reader.u1 : Decoder Nat) cc pc) _ = _; rw [(sx_u1 h).1, ha]; rfl)
theorem sx_d145 {cc : ByteArray} {pc : Nat} {a : UInt8} {w : List UInt8} (h : cc.data.toList.drop pc = a :: w) (ha : a.toNat = 145) : decode cc pc = .ok (.i2b, 1) := sx_dA (by show Except.bind ((Reader.u1 : Decoder Nat) cc pc) _ = _; rw [(sx_u1 h).1, ha]; rfl)
theorem sx_d148 {cc : ByteArray} {pc : Nat} {a : UInt8} {w : List UInt8} (h : cc.data.toList.drop pc = a :: w) (ha : a.toNat = 148) : decode cc pc = .ok (.lcmp, 1) := sx_dA (by show Except.bind ((Reader.u1 : Decoder Nat) cc pc) _ = _; rw [(sx_u1 h).1, ha]; rfl)
theorem sx_d172 {cc : ByteArray} {pc : Nat} {a : UInt8} {w : List UInt8} (h : cc.data.toList.drop pc = a :: w) (ha : a.toNat = 172) : decode cc pc = .ok (.ireturn, 1) := sx_dA (by show Except.bind ((Reader.u1 : Decoder Nat) cc pc) _ = _; rw [(sx_u1 h).1, ha]; rfl)
theorem sx_d176 {cc : ByteArray} {pc : Nat} {a : UInt8} {w : List UInt8} (h : cc.data.toList.drop pc = a :: w) (ha : a.toNat = 176) : decode cc pc = .ok (.areturn, 1) := sx_dA (by show Except.bind ((Reader.u1 : Decoder Nat) cc pc) _ = _; rw [(sx_u1 h).1, ha]; rfl)
theorem sx_d177 {cc : ByteArray} {pc : Nat} {a : UInt8} {w : List UInt8} (h : cc.data.toList.drop pc = a :: w) (ha : a.toNat = 177) : decode cc pc = .ok (.return_, 1) := sx_dA (by show Except.bind ((Reader.u1 : Decoder Nat) cc pc) _ = _; rw [(sx_u1 h).1, ha]; rfl)
theorem sx_d190 {cc : ByteArray} {pc : Nat} {a : UInt8} {w : List UInt8} (h : cc.data.toList.drop pc = a :: w) (ha : a.toNat = 190) : decode cc pc = .ok (.arraylength, 1) := sx_dA (by show Except.bind ((Reader.u1 : Decoder Nat) cc pc) _ = _; rw [(sx_u1 h).1, ha]; rfl)
theorem sx_d191 {cc : ByteArray} {pc : Nat} {a : UInt8} {w : List UInt8} (h : cc.data.toList.drop pc = a :: w) (ha : a.toNat = 191) : decode cc pc = .ok (.athrow, 1) := sx_dA (by show Except.bind ((Reader.u1 : Decoder Nat) cc pc) _ = _; rw [(sx_u1 h).1, ha]; rfl)
theorem sx_d18 {cc : ByteArray} {pc : Nat} {a b : UInt8} {w : List UInt8} (h : cc.data.toList.drop pc = a :: b :: w) (ha : a.toNat = 18) : decode cc pc = .ok (.ldc b.toNat, 2) := sx_dA (by show Except.bind ((Reader.u1 : Decoder Nat) cc pc) _ = _; rw [(sx_u1 h).1, ha]; show Except.bind ((Reader.u1 : Decoder Nat) cc (pc + 1)) _ = _; rw [(sx_u1 (sx_u1 h).2).1]; rfl)
theorem sx_d21 {cc : ByteArray} {pc : Nat} {a b : UInt8} {w : List UInt8} (h : cc.data.toList.drop pc = a :: b :: w) (ha : a.toNat = 21) : decode cc pc = .ok (.iload b.toNat, 2) := sx_dA (by show Except.bind ((Reader.u1 : Decoder Nat) cc pc) _ = _; rw [(sx_u1 h).1, ha]; show Except.bind ((Reader.u1 : Decoder Nat) cc (pc + 1)) _ = _; rw [(sx_u1 (sx_u1 h).2).1]; rfl)
theorem sx_d25 {cc : ByteArray} {pc : Nat} {a b : UInt8} {w : List UInt8} (h : cc.data.toList.drop pc = a :: b :: w) (ha : a.toNat = 25) : decode cc pc = .ok (.aload b.toNat, 2) := sx_dA (by show Except.bind ((Reader.u1 : Decoder Nat) cc pc) _ = _; rw [(sx_u1 h).1, ha]; show Except.bind ((Reader.u1 : Decoder Nat) cc (pc + 1)) _ = _; rw [(sx_u1 (sx_u1 h).2).1]; rfl)
theorem sx_d54 {cc : ByteArray} {pc : Nat} {a b : UInt8} {w : List UInt8} (h : cc.data.toList.drop pc = a :: b :: w) (ha : a.toNat = 54) : decode cc pc = .ok (.istore b.toNat, 2) := sx_dA (by show Except.bind ((Reader.u1 : Decoder Nat) cc pc) _ = _; rw [(sx_u1 h).1, ha]; show Except.bind ((Reader.u1 : Decoder Nat) cc (pc + 1)) _ = _; rw [(sx_u1 (sx_u1 h).2).1]; rfl)
theorem sx_d58 {cc : ByteArray} {pc : Nat} {a b : UInt8} {w : List UInt8} (h : cc.data.toList.drop pc = a :: b :: w) (ha : a.toNat = 58) : decode cc pc = .ok (.astore b.toNat, 2) := sx_dA (by show Except.bind ((Reader.u1 : Decoder Nat) cc pc) _ = _; rw [(sx_u1 h).1, ha]; show Except.bind ((Reader.u1 : Decoder Nat) cc (pc + 1)) _ = _; rw [(sx_u1 (sx_u1 h).2).1]; rfl)
theorem sx_d19 {cc : ByteArray} {pc : Nat} {a b c : UInt8} {w : List UInt8} (h : cc.data.toList.drop pc = a :: b :: c :: w) (ha : a.toNat = 19) : decode cc pc = .ok (.ldc_w (b.toNat * 256 + c.toNat), 3) := sx_dA (by show Except.bind ((Reader.u1 : Decoder Nat) cc pc) _ = _; rw [(sx_u1 h).1, ha]; show Except.bind ((Reader.u2 : Decoder Nat) cc (pc + 1)) _ = _; rw [(sx_u2 (sx_u1 h).2).1]; rfl)
theorem sx_d180 {cc : ByteArray} {pc : Nat} {a b c : UInt8} {w : List UInt8} (h : cc.data.toList.drop pc = a :: b :: c :: w) (ha : a.toNat = 180) : decode cc pc = .ok (.getfield (b.toNat * 256 + c.toNat), 3) := sx_dA (by show Except.bind ((Reader.u1 : Decoder Nat) cc pc) _ = _; rw [(sx_u1 h).1, ha]; show Except.bind ((Reader.u2 : Decoder Nat) cc (pc + 1)) _ = _; rw [(sx_u2 (sx_u1 h).2).1]; rfl)
theorem sx_d181 {cc : ByteArray} {pc : Nat} {a b c : UInt8} {w : List UInt8} (h : cc.data.toList.drop pc = a :: b :: c :: w) (ha : a.toNat = 181) : decode cc pc = .ok (.putfield (b.toNat * 256 + c.toNat), 3) := sx_dA (by show Except.bind ((Reader.u1 : Decoder Nat) cc pc) _ = _; rw [(sx_u1 h).1, ha]; show Except.bind ((Reader.u2 : Decoder Nat) cc (pc + 1)) _ = _; rw [(sx_u2 (sx_u1 h).2).1]; rfl)
theorem sx_d182 {cc : ByteArray} {pc : Nat} {a b c : UInt8} {w : List UInt8} (h : cc.data.toList.drop pc = a :: b :: c :: w) (ha : a.toNat = 182) : decode cc pc = .ok (.invokevirtual (b.toNat * 256 + c.toNat), 3) := sx_dA (by show Except.bind ((Reader.u1 : Decoder Nat) cc pc) _ = _; rw [(sx_u1 h).1, ha]; show Except.bind ((Reader.u2 : Decoder Nat) cc (pc + 1)) _ = _; rw [(sx_u2 (sx_u1 h).2).1]; rfl)
theorem sx_d183 {cc : ByteArray} {pc : Nat} {a b c : UInt8} {w : List UInt8} (h : cc.data.toList.drop pc = a :: b :: c :: w) (ha : a.toNat = 183) : decode cc pc = .ok (.invokespecial (b.toNat * 256 + c.toNat), 3) := sx_dA (by show Except.bind ((Reader.u1 : Decoder Nat) cc pc) _ = _; rw [(sx_u1 h).1, ha]; show Except.bind ((Reader.u2 : Decoder Nat) cc (pc + 1)) _ = _; rw [(sx_u2 (sx_u1 h).2).1]; rfl)
theorem sx_d184 {cc : ByteArray} {pc : Nat} {a b c : UInt8} {w : List UInt8} (h : cc.data.toList.drop pc = a :: b :: c :: w) (ha : a.toNat = 184) : decode cc pc = .ok (.invokestatic (b.toNat * 256 + c.toNat), 3) := sx_dA (by show Except.bind ((Reader.u1 : Decoder Nat) cc pc) _ = _; rw [(sx_u1 h).1, ha]; show Except.bind ((Reader.u2 : Decoder Nat) cc (pc + 1)) _ = _; rw [(sx_u2 (sx_u1 h).2).1]; rfl)
theorem sx_d187 {cc : ByteArray} {pc : Nat} {a b c : UInt8} {w : List UInt8} (h : cc.data.toList.drop pc = a :: b :: c :: w) (ha : a.toNat = 187) : decode cc pc = .ok (.new (b.toNat * 256 + c.toNat), 3) := sx_dA (by show Except.bind ((Reader.u1 : Decoder Nat) cc pc) _ = _; rw [(sx_u1 h).1, ha]; show Except.bind ((Reader.u2 : Decoder Nat) cc (pc + 1)) _ = _; rw [(sx_u2 (sx_u1 h).2).1]; rfl)
theorem sx_d189 {cc : ByteArray} {pc : Nat} {a b c : UInt8} {w : List UInt8} (h : cc.data.toList.drop pc = a :: b :: c :: w) (ha : a.toNat = 189) : decode cc pc = .ok (.anewarray (b.toNat * 256 + c.toNat), 3) := sx_dA (by show Except.bind ((Reader.u1 : Decoder Nat) cc pc) _ = _; rw [(sx_u1 h).1, ha]; show Except.bind ((Reader.u2 : Decoder Nat) cc (pc + 1)) _ = _; rw [(sx_u2 (sx_u1 h).2).1]; rfl)
theorem sx_d192 {cc : ByteArray} {pc : Nat} {a b c : UInt8} {w : List UInt8} (h : cc.data.toList.drop pc = a :: b :: c :: w) (ha : a.toNat = 192) : decode cc pc = .ok (.checkcast (b.toNat * 256 + c.toNat), 3) := sx_dA (by show Except.bind ((Reader.u1 : Decoder Nat) cc pc) _ = _; rw [(sx_u1 h).1, ha]; show Except.bind ((Reader.u2 : Decoder Nat) cc (pc + 1)) _ = _; rw [(sx_u2 (sx_u1 h).2).1]; rfl)
theorem sx_d17 {cc : ByteArray} {pc : Nat} {a b c : UInt8} {w : List UInt8} (h : cc.data.toList.drop pc = a :: b :: c :: w) (ha : a.toNat = 17) : decode cc pc = .ok (.sipush (Reader.signed 16 (b.toNat * 256 + c.toNat)), 3) := sx_dA (by show Except.bind ((Reader.u1 : Decoder Nat) cc pc) _ = _; rw [(sx_u1 h).1, ha]; show Except.bind ((Reader.s2 : Decoder Int) cc (pc + 1)) _ = _; rw [(sx_s2 (sx_u1 h).2).1]; rfl)
theorem sx_d153 {cc : ByteArray} {pc : Nat} {a b c : UInt8} {w : List UInt8} (h : cc.data.toList.drop pc = a :: b :: c :: w) (ha : a.toNat = 153) : decode cc pc = .ok (.ifCond .eq (Reader.signed 16 (b.toNat * 256 + c.toNat)), 3) := sx_dA (by show Except.bind ((Reader.u1 : Decoder Nat) cc pc) _ = _; rw [(sx_u1 h).1, ha]; show Except.bind ((Reader.s2 : Decoder Int) cc (pc + 1)) _ = _; rw [(sx_s2 (sx_u1 h).2).1]; rfl)
theorem sx_d154 {cc : ByteArray} {pc : Nat} {a b c : UInt8} {w : List UInt8} (h : cc.data.toList.drop pc = a :: b :: c :: w) (ha : a.toNat = 154) : decode cc pc = .ok (.ifCond .ne (Reader.signed 16 (b.toNat * 256 + c.toNat)), 3) := sx_dA (by show Except.bind ((Reader.u1 : Decoder Nat) cc pc) _ = _; rw [(sx_u1 h).1, ha]; show Except.bind ((Reader.s2 : Decoder Int) cc (pc + 1)) _ = _; rw [(sx_s2 (sx_u1 h).2).1]; rfl)
theorem sx_d155 {cc : ByteArray} {pc : Nat} {a b c : UInt8} {w : List UInt8} (h : cc.data.toList.drop pc = a :: b :: c :: w) (ha : a.toNat = 155) : decode cc pc = .ok (.ifCond .lt (Reader.signed 16 (b.toNat * 256 + c.toNat)), 3) := sx_dA (by show Except.bind ((Reader.u1 : Decoder Nat) cc pc) _ = _; rw [(sx_u1 h).1, ha]; show Except.bind ((Reader.s2 : Decoder Int) cc (pc + 1)) _ = _; rw [(sx_s2 (sx_u1 h).2).1]; rfl)
theorem sx_d156 {cc : ByteArray} {pc : Nat} {a b c : UInt8} {w : List UInt8} (h : cc.data.toList.drop pc = a :: b :: c :: w) (ha : a.toNat = 156) : decode cc pc = .ok (.ifCond .ge (Reader.signed 16 (b.toNat * 256 + c.toNat)), 3) := sx_dA (by show Except.bind ((Reader.u1 : Decoder Nat) cc pc) _ = _; rw [(sx_u1 h).1, ha]; show Except.bind ((Reader.s2 : Decoder Int) cc (pc + 1)) _ = _; rw [(sx_s2 (sx_u1 h).2).1]; rfl)
theorem sx_d157 {cc : ByteArray} {pc : Nat} {a b c : UInt8} {w : List UInt8} (h : cc.data.toList.drop pc = a :: b :: c :: w) (ha : a.toNat = 157) : decode cc pc = .ok (.ifCond .gt (Reader.signed 16 (b.toNat * 256 + c.toNat)), 3) := sx_dA (by show Except.bind ((Reader.u1 : Decoder Nat) cc pc) _ = _; rw [(sx_u1 h).1, ha]; show Except.bind ((Reader.s2 : Decoder Int) cc (pc + 1)) _ = _; rw [(sx_s2 (sx_u1 h).2).1]; rfl)
theorem sx_d158 {cc : ByteArray} {pc : Nat} {a b c : UInt8} {w : List UInt8} (h : cc.data.toList.drop pc = a :: b :: c :: w) (ha : a.toNat = 158) : decode cc pc = .ok (.ifCond .le (Reader.signed 16 (b.toNat * 256 + c.toNat)), 3) := sx_dA (by show Except.bind ((Reader.u1 : Decoder Nat) cc pc) _ = _; rw [(sx_u1 h).1, ha]; show Except.bind ((Reader.s2 : Decoder Int) cc (pc + 1)) _ = _; rw [(sx_s2 (sx_u1 h).2).1]; rfl)
theorem sx_d159 {cc : ByteArray} {pc : Nat} {a b c : UInt8} {w : List UInt8} (h : cc.data.toList.drop pc = a :: b :: c :: w) (ha : a.toNat = 159) : decode cc pc = .ok (.if_icmp .eq (Reader.signed 16 (b.toNat * 256 + c.toNat)), 3) := sx_dA (by show Except.bind ((Reader.u1 : Decoder Nat) cc pc) _ = _; rw [(sx_u1 h).1, ha]; show Except.bind ((Reader.s2 : Decoder Int) cc (pc + 1)) _ = _; rw [(sx_s2 (sx_u1 h).2).1]; rfl)
theorem sx_d160 {cc : ByteArray} {pc : Nat} {a b c : UInt8} {w : List UInt8} (h : cc.data.toList.drop pc = a :: b :: c :: w) (ha : a.toNat = 160) : decode cc pc = .ok (.if_icmp .ne (Reader.signed 16 (b.toNat * 256 + c.toNat)), 3) := sx_dA (by show Except.bind ((Reader.u1 : Decoder Nat) cc pc) _ = _; rw [(sx_u1 h).1, ha]; show Except.bind ((Reader.s2 : Decoder Int) cc (pc + 1)) _ = _; rw [(sx_s2 (sx_u1 h).2).1]; rfl)
theorem sx_d161 {cc : ByteArray} {pc : Nat} {a b c : UInt8} {w : List UInt8} (h : cc.data.toList.drop pc = a :: b :: c :: w) (ha : a.toNat = 161) : decode cc pc = .ok (.if_icmp .lt (Reader.signed 16 (b.toNat * 256 + c.toNat)), 3) := sx_dA (by show Except.bind ((Reader.u1 : Decoder Nat) cc pc) _ = _; rw [(sx_u1 h).1, ha]; show Except.bind ((Reader.s2 : Decoder Int) cc (pc + 1)) _ = _; rw [(sx_s2 (sx_u1 h).2).1]; rfl)
theorem sx_d162 {cc : ByteArray} {pc : Nat} {a b c : UInt8} {w : List UInt8} (h : cc.data.toList.drop pc = a :: b :: c :: w) (ha : a.toNat = 162) : decode cc pc = .ok (.if_icmp .ge (Reader.signed 16 (b.toNat * 256 + c.toNat)), 3) := sx_dA (by show Except.bind ((Reader.u1 : Decoder Nat) cc pc) _ = _; rw [(sx_u1 h).1, ha]; show Except.bind ((Reader.s2 : Decoder Int) cc (pc + 1)) _ = _; rw [(sx_s2 (sx_u1 h).2).1]; rfl)
theorem sx_d163 {cc : ByteArray} {pc : Nat} {a b c : UInt8} {w : List UInt8} (h : cc.data.toList.drop pc = a :: b :: c :: w) (ha : a.toNat = 163) : decode cc pc = .ok (.if_icmp .gt (Reader.signed 16 (b.toNat * 256 + c.toNat)), 3) := sx_dA (by show Except.bind ((Reader.u1 : Decoder Nat) cc pc) _ = _; rw [(sx_u1 h).1, ha]; show Except.bind ((Reader.s2 : Decoder Int) cc (pc + 1)) _ = _; rw [(sx_s2 (sx_u1 h).2).1]; rfl)
theorem sx_d164 {cc : ByteArray} {pc : Nat} {a b c : UInt8} {w : List UInt8} (h : cc.data.toList.drop pc = a :: b :: c :: w) (ha : a.toNat = 164) : decode cc pc = .ok (.if_icmp .le (Reader.signed 16 (b.toNat * 256 + c.toNat)), 3) := sx_dA (by show Except.bind ((Reader.u1 : Decoder Nat) cc pc) _ = _; rw [(sx_u1 h).1, ha]; show Except.bind ((Reader.s2 : Decoder Int) cc (pc + 1)) _ = _; rw [(sx_s2 (sx_u1 h).2).1]; rfl)
theorem sx_d167 {cc : ByteArray} {pc : Nat} {a b c : UInt8} {w : List UInt8} (h : cc.data.toList.drop pc = a :: b :: c :: w) (ha : a.toNat = 167) : decode cc pc = .ok (.goto (Reader.signed 16 (b.toNat * 256 + c.toNat)), 3) := sx_dA (by show Except.bind ((Reader.u1 : Decoder Nat) cc pc) _ = _; rw [(sx_u1 h).1, ha]; show Except.bind ((Reader.s2 : Decoder Int) cc (pc + 1)) _ = _; rw [(sx_s2 (sx_u1 h).2).1]; rfl)
theorem sx_d16 {cc : ByteArray} {pc : Nat} {a b : UInt8} {w : List UInt8} (h : cc.data.toList.drop pc = a :: b :: w) (ha : a.toNat = 16) : decode cc pc = .ok (.bipush (Reader.signed 8 b.toNat), 2) := sx_dA (by show Except.bind ((Reader.u1 : Decoder Nat) cc pc) _ = _; rw [(sx_u1 h).1, ha]; show Except.bind ((Reader.s1 : Decoder Int) cc (pc + 1)) _ = _; rw [(sx_s1 (sx_u1 h).2).1]; rfl)
theorem sx_d132 {cc : ByteArray} {pc : Nat} {a b c : UInt8} {w : List UInt8} (h : cc.data.toList.drop pc = a :: b :: c :: w) (ha : a.toNat = 132) : decode cc pc = .ok (.iinc b.toNat (Reader.signed 8 c.toNat), 3) := sx_dA (by show Except.bind ((Reader.u1 : Decoder Nat) cc pc) _ = _; rw [(sx_u1 h).1, ha]; show Except.bind ((Reader.u1 : Decoder Nat) cc (pc + 1)) _ = _; rw [(sx_u1 (sx_u1 h).2).1]; show Except.bind ((Reader.s1 : Decoder Int) cc (pc + 1 + 1)) _ = _; rw [(sx_s1 (sx_u1 (sx_u1 h).2).2).1]; rfl)
theorem sx_dn4 {cc : ByteArray} {pc : Nat} {a b : UInt8} {w : List UInt8} (h : cc.data.toList.drop pc = a :: b :: w) (ha : a.toNat = 188) (hb : b.toNat = 4) : decode cc pc = .ok (.newarray .boolean, 2) := sx_dA (by show Except.bind ((Reader.u1 : Decoder Nat) cc pc) _ = _; rw [(sx_u1 h).1, ha]; show Except.bind ((Reader.u1 : Decoder Nat) cc (pc + 1)) _ = _; rw [(sx_u1 (sx_u1 h).2).1, hb]; rfl)
theorem sx_dn8 {cc : ByteArray} {pc : Nat} {a b : UInt8} {w : List UInt8} (h : cc.data.toList.drop pc = a :: b :: w) (ha : a.toNat = 188) (hb : b.toNat = 8) : decode cc pc = .ok (.newarray .byte, 2) := sx_dA (by show Except.bind ((Reader.u1 : Decoder Nat) cc pc) _ = _; rw [(sx_u1 h).1, ha]; show Except.bind ((Reader.u1 : Decoder Nat) cc (pc + 1)) _ = _; rw [(sx_u1 (sx_u1 h).2).1, hb]; rfl)
theorem sx_dn10 {cc : ByteArray} {pc : Nat} {a b : UInt8} {w : List UInt8} (h : cc.data.toList.drop pc = a :: b :: w) (ha : a.toNat = 188) (hb : b.toNat = 10) : decode cc pc = .ok (.newarray .int, 2) := sx_dA (by show Except.bind ((Reader.u1 : Decoder Nat) cc pc) _ = _; rw [(sx_u1 h).1, ha]; show Except.bind ((Reader.u1 : Decoder Nat) cc (pc + 1)) _ = _; rw [(sx_u1 (sx_u1 h).2).1, hb]; rfl)
theorem sx_dn11 {cc : ByteArray} {pc : Nat} {a b : UInt8} {w : List UInt8} (h : cc.data.toList.drop pc = a :: b :: w) (ha : a.toNat = 188) (hb : b.toNat = 11) : decode cc pc = .ok (.newarray .long, 2) := sx_dA (by show Except.bind ((Reader.u1 : Decoder Nat) cc pc) _ = _; rw [(sx_u1 h).1, ha]; show Except.bind ((Reader.u1 : Decoder Nat) cc (pc + 1)) _ = _; rw [(sx_u1 (sx_u1 h).2).1, hb]; rfl)
theorem sx_d_t0 {cc : ByteArray} {pc : Nat} {a : UInt8} {w : List UInt8} : ∀ q ∈ sx_t0, cc.data.toList.drop pc = a :: w → a.toNat = q.1 → decode cc pc = .ok (q.2, 1) := List.forall_mem_cons.mpr ⟨fun h ha => sx_d2 h ha, List.forall_mem_cons.mpr ⟨fun h ha => sx_d3 h ha, List.forall_mem_cons.mpr ⟨fun h ha => sx_d4 h ha, List.forall_mem_cons.mpr ⟨fun h ha => sx_d5 h ha, List.forall_mem_cons.mpr ⟨fun h ha => sx_d6 h ha, List.forall_mem_cons.mpr ⟨fun h ha => sx_d7 h ha, List.forall_mem_cons.mpr ⟨fun h ha => sx_d8 h ha, List.forall_mem_cons.mpr ⟨fun h ha => sx_d26 h ha, List.forall_mem_cons.mpr ⟨fun h ha => sx_d27 h ha, List.forall_mem_cons.mpr ⟨fun h ha => sx_d28 h ha, List.forall_mem_cons.mpr ⟨fun h ha => sx_d29 h ha, List.forall_mem_cons.mpr ⟨fun h ha => sx_d42 h ha, List.forall_mem_cons.mpr ⟨fun h ha => sx_d43 h ha, List.forall_mem_cons.mpr ⟨fun h ha => sx_d44 h ha, List.forall_mem_cons.mpr ⟨fun h ha => sx_d45 h ha, List.forall_mem_cons.mpr ⟨fun h ha => sx_d46 h ha, List.forall_mem_cons.mpr ⟨fun h ha => sx_d47 h ha, List.forall_mem_cons.mpr ⟨fun h ha => sx_d50 h ha, List.forall_mem_cons.mpr ⟨fun h ha => sx_d51 h ha, List.forall_mem_cons.mpr ⟨fun h ha => sx_d59 h ha, List.forall_mem_cons.mpr ⟨fun h ha => sx_d60 h ha, List.forall_mem_cons.mpr ⟨fun h ha => sx_d61 h ha, List.forall_mem_cons.mpr ⟨fun h ha => sx_d62 h ha, List.forall_mem_cons.mpr ⟨fun h ha => sx_d75 h ha, List.forall_mem_cons.mpr ⟨fun h ha => sx_d76 h ha, List.forall_mem_cons.mpr ⟨fun h ha => sx_d77 h ha, List.forall_mem_cons.mpr ⟨fun h ha => sx_d78 h ha, List.forall_mem_cons.mpr ⟨fun h ha => sx_d79 h ha, List.forall_mem_cons.mpr ⟨fun h ha => sx_d80 h ha, List.forall_mem_cons.mpr ⟨fun h ha => sx_d83 h ha, List.forall_mem_cons.mpr ⟨fun h ha => sx_d84 h ha, List.forall_mem_cons.mpr ⟨fun h ha => sx_d87 h ha, List.forall_mem_cons.mpr ⟨fun h ha => sx_d89 h ha, List.forall_mem_cons.mpr ⟨fun h ha => sx_d92 h ha, List.forall_mem_cons.mpr ⟨fun h ha => sx_d96 h ha, List.forall_mem_cons.mpr ⟨fun h ha => sx_d100 h ha, List.forall_mem_cons.mpr ⟨fun h ha => sx_d104 h ha, List.forall_mem_cons.mpr ⟨fun h ha => sx_d108 h ha, List.forall_mem_cons.mpr ⟨fun h ha => sx_d112 h ha, List.forall_mem_cons.mpr ⟨fun h ha => sx_d120 h ha, List.forall_mem_cons.mpr ⟨fun h ha => sx_d122 h ha, List.forall_mem_cons.mpr ⟨fun h ha => sx_d124 h ha, List.forall_mem_cons.mpr ⟨fun h ha => sx_d126 h ha, List.forall_mem_cons.mpr ⟨fun h ha => sx_d128 h ha, List.forall_mem_cons.mpr ⟨fun h ha => sx_d130 h ha, List.forall_mem_cons.mpr ⟨fun h ha => sx_d133 h ha, List.forall_mem_cons.mpr ⟨fun h ha => sx_d145 h ha, List.forall_mem_cons.mpr ⟨fun h ha => sx_d148 h ha, List.forall_mem_cons.mpr ⟨fun h ha => sx_d172 h ha, List.forall_mem_cons.mpr ⟨fun h ha => sx_d176 h ha, List.forall_mem_cons.mpr ⟨fun h ha => sx_d177 h ha, List.forall_mem_cons.mpr ⟨fun h ha => sx_d190 h ha, List.forall_mem_cons.mpr ⟨fun h ha => sx_d191 h ha, List.forall_mem_nil _⟩⟩⟩⟩⟩⟩⟩⟩⟩⟩⟩⟩⟩⟩⟩⟩⟩⟩⟩⟩⟩⟩⟩⟩⟩⟩⟩⟩⟩⟩⟩⟩⟩⟩⟩⟩⟩⟩⟩⟩⟩⟩⟩⟩⟩⟩⟩⟩⟩⟩⟩⟩⟩
theorem sx_d_t1 {cc : ByteArray} {pc : Nat} {a b : UInt8} {w : List UInt8} : ∀ q ∈ sx_t1, cc.data.toList.drop pc = a :: b :: w → a.toNat = q.1 → decode cc pc = .ok (q.2 b.toNat, 2) := List.forall_mem_cons.mpr ⟨fun h ha => sx_d18 h ha, List.forall_mem_cons.mpr ⟨fun h ha => sx_d21 h ha, List.forall_mem_cons.mpr ⟨fun h ha => sx_d25 h ha, List.forall_mem_cons.mpr ⟨fun h ha => sx_d54 h ha, List.forall_mem_cons.mpr ⟨fun h ha => sx_d58 h ha, List.forall_mem_nil _⟩⟩⟩⟩⟩
theorem sx_d_t2 {cc : ByteArray} {pc : Nat} {a b c : UInt8} {w : List UInt8} : ∀ q ∈ sx_t2, cc.data.toList.drop pc = a :: b :: c :: w → a.toNat = q.1 → decode cc pc = .ok (q.2 (b.toNat * 256 + c.toNat), 3) := List.forall_mem_cons.mpr ⟨fun h ha => sx_d19 h ha, List.forall_mem_cons.mpr ⟨fun h ha => sx_d180 h ha, List.forall_mem_cons.mpr ⟨fun h ha => sx_d181 h ha, List.forall_mem_cons.mpr ⟨fun h ha => sx_d182 h ha, List.forall_mem_cons.mpr ⟨fun h ha => sx_d183 h ha, List.forall_mem_cons.mpr ⟨fun h ha => sx_d184 h ha, List.forall_mem_cons.mpr ⟨fun h ha => sx_d187 h ha, List.forall_mem_cons.mpr ⟨fun h ha => sx_d189 h ha, List.forall_mem_cons.mpr ⟨fun h ha => sx_d192 h ha, List.forall_mem_nil _⟩⟩⟩⟩⟩⟩⟩⟩⟩
theorem sx_d_t3 {cc : ByteArray} {pc : Nat} {a b c : UInt8} {w : List UInt8} : ∀ q ∈ sx_t3, cc.data.toList.drop pc = a :: b :: c :: w → a.toNat = q.1 → decode cc pc = .ok (q.2 (Reader.signed 16 (b.toNat * 256 + c.toNat)), 3) := List.forall_mem_cons.mpr ⟨fun h ha => sx_d17 h ha, List.forall_mem_cons.mpr ⟨fun h ha => sx_d153 h ha, List.forall_mem_cons.mpr ⟨fun h ha => sx_d154 h ha, List.forall_mem_cons.mpr ⟨fun h ha => sx_d155 h ha, List.forall_mem_cons.mpr ⟨fun h ha => sx_d156 h ha, List.forall_mem_cons.mpr ⟨fun h ha => sx_d157 h ha, List.forall_mem_cons.mpr ⟨fun h ha => sx_d158 h ha, List.forall_mem_cons.mpr ⟨fun h ha => sx_d159 h ha, List.forall_mem_cons.mpr ⟨fun h ha => sx_d160 h ha, List.forall_mem_cons.mpr ⟨fun h ha => sx_d161 h ha, List.forall_mem_cons.mpr ⟨fun h ha => sx_d162 h ha, List.forall_mem_cons.mpr ⟨fun h ha => sx_d163 h ha, List.forall_mem_cons.mpr ⟨fun h ha => sx_d164 h ha, List.forall_mem_cons.mpr ⟨fun h ha => sx_d167 h ha, List.forall_mem_nil _⟩⟩⟩⟩⟩⟩⟩⟩⟩⟩⟩⟩⟩⟩
theorem sx_d_t4 {cc : ByteArray} {pc : Nat} {a b : UInt8} {w : List UInt8} : ∀ q ∈ sx_t4, cc.data.toList.drop pc = a :: b :: w → a.toNat = 188 → b.toNat = q.1 → decode cc pc = .ok (.newarray q.2, 2) := List.forall_mem_cons.mpr ⟨fun h ha hb => sx_dn4 h ha hb, List.forall_mem_cons.mpr ⟨fun h ha hb => sx_dn8 h ha hb, List.forall_mem_cons.mpr ⟨fun h ha hb => sx_dn10 h ha hb, List.forall_mem_cons.mpr ⟨fun h ha hb => sx_dn11 h ha hb, List.forall_mem_nil _⟩⟩⟩⟩
noncomputable def sx_look {α : Type} (l : List (Nat × α)) (n : Nat) : Option α := List.rec none (fun q _ ih => bif Nat.beq q.1 n then some q.2 else ih) l
theorem sx_look_mem {α : Type} {l : List (Nat × α)} {n : Nat} {x : α} (h : sx_look l n = some x) : (n, x) ∈ l := by
  induction l with
  | nil => cases h
  | cons q l ih =>
    have h : (bif Nat.beq q.1 n then some q.2 else sx_look l n) = some x := h
    cases hc : Nat.beq q.1 n with
    | true =>
      rw [hc] at h
      cases h
      rw [← Nat.eq_of_beq_eq_true hc]
      exact List.mem_cons_self
    | false =>
      rw [hc] at h
      exact List.mem_cons_of_mem _ (ih h)
/-- the instruction that these bytes begin with, and how many it takes; no switch -/
noncomputable def sx_rd2 (n : Nat) (b : UInt8) (r : List UInt8) : Option (Instr × Nat) := match sx_look sx_t1 n with
  | some f => some (f b.toNat, 2)
  | none => bif Nat.beq n 16 then some (.bipush (Reader.signed 8 b.toNat), 2) else bif Nat.beq n 188 then (match sx_look sx_t4 b.toNat with
    | some t => some (.newarray t, 2)
    | none => none) else (match r with
    | [] => none
    | c :: _ => match sx_look sx_t2 n with
      | some f => some (f (b.toNat * 256 + c.toNat), 3)
      | none => match sx_look sx_t3 n with
        | some f => some (f (Reader.signed 16 (b.toNat * 256 + c.toNat)), 3)
        | none => bif Nat.beq n 132 then some (.iinc b.toNat (Reader.signed 8 c.toNat), 3) else none)
noncomputable def sx_rd1 (n : Nat) (r : List UInt8) : Option (Instr × Nat) := match sx_look sx_t0 n with
  | some i => some (i, 1)
  | none => match r with
    | [] => none
    | b :: r => sx_rd2 n b r
noncomputable def sx_rd (l : List UInt8) : Option (Instr × Nat) := match l with
  | [] => none
  | a :: r => sx_rd1 a.toNat r
theorem sx_rd_ok {cc : ByteArray} {pc n : Nat} {i : Instr} {l : List UInt8} (h : cc.data.toList.drop pc = l) (hr : sx_rd l = some (i, n)) : decode cc pc = .ok (i, n) := by
  cases l with
  | nil => cases hr
  | cons a r =>
    have hr : sx_rd1 a.toNat r = some (i, n) := hr
    unfold sx_rd1 at hr
    split at hr
    · next x hx => cases hr; exact sx_d_t0 _ (sx_look_mem hx) h rfl
    · split at hr
      · cases hr
      · next b r2 =>
        unfold sx_rd2 at hr
        split at hr
        · next f hf => cases hr; exact sx_d_t1 _ (sx_look_mem hf) h rfl
        · cases h16 : Nat.beq a.toNat 16 with
          | true => rw [h16] at hr; cases hr; exact sx_d16 h (Nat.eq_of_beq_eq_true h16)
          | false =>
            rw [h16] at hr
            dsimp only [cond] at hr
            cases h188 : Nat.beq a.toNat 188 with
            | true =>
              rw [h188] at hr
              dsimp only [cond] at hr
              split at hr
              · next t ht => cases hr; exact sx_d_t4 _ (sx_look_mem ht) h (Nat.eq_of_beq_eq_true h188) rfl
              · cases hr
            | false =>
              rw [h188] at hr
              dsimp only [cond] at hr
              split at hr
              · cases hr
              · next c r3 =>
                split at hr
                · next f hf => cases hr; exact sx_d_t2 _ (sx_look_mem hf) h rfl
                · split at hr
                  · next f hf => cases hr; exact sx_d_t3 _ (sx_look_mem hf) h rfl
                  · cases h132 : Nat.beq a.toNat 132 with
                    | true => rw [h132] at hr; cases hr; exact sx_d132 h (Nat.eq_of_beq_eq_true h132)
                    | false => rw [h132] at hr; cases hr
