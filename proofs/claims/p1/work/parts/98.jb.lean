/-! ===== SG, instruction by instruction: printed by wip/gen/gen5.py ===== -/
section
variable {S : List Int32} {ρ : Nat → Int32} {q : Nat} {Q : sx_R → Prop} {j i a b : Nat}
noncomputable def sz_o0 (a b : Nat) (k : sz_Q) : sz_Q := sz_pl sy_i0 (0, a, b, 0, 0, .nop) k
theorem sz_o0_ok {k : sz_Q} (hx : sz_is j i 0 a b = true) (hk : sz_at S ρ q Q j (i + 1) k) : sz_at S ρ q Q j i (sz_o0 a b k) := sz_pl_ok hx rfl rfl hk
noncomputable def sz_o1 (a b : Nat) (k : sz_Q) : sz_Q := sz_pl sy_i1 (1, a, b, 0, 0, .nop) k
theorem sz_o1_ok {k : sz_Q} (hx : sz_is j i 1 a b = true) (hk : sz_at S ρ q Q j (i + 1) k) : sz_at S ρ q Q j i (sz_o1 a b k) := sz_pl_ok hx rfl rfl hk
noncomputable def sz_o2 (a b : Nat) (k : sz_Q) : sz_Q := sz_pl sy_i2 (2, a, b, 0, 0, .nop) k
theorem sz_o2_ok {k : sz_Q} (hx : sz_is j i 2 a b = true) (hk : sz_at S ρ q Q j (i + 1) k) : sz_at S ρ q Q j i (sz_o2 a b k) := sz_pl_ok hx rfl rfl hk
noncomputable def sz_o3 (a b : Nat) (k : sz_Q) : sz_Q := sz_pl sy_j3 (3, a, b, 0, 0, .nop) k
theorem sz_o3_ok {k : sz_Q} (hx : sz_is j i 3 a b = true) (hk : sz_at S ρ q Q j (i + 1) k) : sz_at S ρ q Q j i (sz_o3 a b k) := sz_pl_ok hx rfl rfl hk
noncomputable def sz_o4 (a b : Nat) (k : sz_Q) : sz_Q := sz_pl sy_j4 (4, a, b, 0, 0, .nop) k
theorem sz_o4_ok {k : sz_Q} (hx : sz_is j i 4 a b = true) (hk : sz_at S ρ q Q j (i + 1) k) : sz_at S ρ q Q j i (sz_o4 a b k) := sz_pl_ok hx rfl rfl hk
noncomputable def sz_o5 (a b : Nat) (k : sz_Q) : sz_Q := sz_pl sy_j5 (5, a, b, 0, 0, .nop) k
theorem sz_o5_ok {k : sz_Q} (hx : sz_is j i 5 a b = true) (hk : sz_at S ρ q Q j (i + 1) k) : sz_at S ρ q Q j i (sz_o5 a b k) := sz_pl_ok hx rfl rfl hk
noncomputable def sz_o6 (a b : Nat) (k : sz_Q) : sz_Q := sz_pl sy_i6 (6, a, b, 0, 0, .nop) k
theorem sz_o6_ok {k : sz_Q} (hx : sz_is j i 6 a b = true) (hk : sz_at S ρ q Q j (i + 1) k) : sz_at S ρ q Q j i (sz_o6 a b k) := sz_pl_ok hx rfl rfl hk
noncomputable def sz_o7 (a b : Nat) (k : sz_Q) : sz_Q := sz_pl sy_i7 (7, a, b, 0, 0, .nop) k
theorem sz_o7_ok {k : sz_Q} (hx : sz_is j i 7 a b = true) (hk : sz_at S ρ q Q j (i + 1) k) : sz_at S ρ q Q j i (sz_o7 a b k) := sz_pl_ok hx rfl rfl hk
noncomputable def sz_o8 (a b : Nat) (k : sz_Q) : sz_Q := sz_pl sy_i8 (8, a, b, 0, 0, .nop) k
theorem sz_o8_ok {k : sz_Q} (hx : sz_is j i 8 a b = true) (hk : sz_at S ρ q Q j (i + 1) k) : sz_at S ρ q Q j i (sz_o8 a b k) := sz_pl_ok hx rfl rfl hk
noncomputable def sz_o9 (a b : Nat) (k : sz_Q) : sz_Q := sz_pe sy_w9 (sy_jbin (fun x y => x + y)) (9, a, b, 0, 0, .nop) k
theorem sz_o9_ok {k : sz_Q} (hx : sz_is j i 9 a b = true) (hk : sz_at S ρ q Q j (i + 1) k) : sz_at S ρ q Q j i (sz_o9 a b k) := sz_pe_ok hx rfl rfl hk
noncomputable def sz_o10 (a b : Nat) (k : sz_Q) : sz_Q := sz_pe sy_w9 (sy_jbin (fun x y => x - y)) (10, a, b, 0, 0, .nop) k
theorem sz_o10_ok {k : sz_Q} (hx : sz_is j i 10 a b = true) (hk : sz_at S ρ q Q j (i + 1) k) : sz_at S ρ q Q j i (sz_o10 a b k) := sz_pe_ok hx rfl rfl hk
noncomputable def sz_o11 (a b : Nat) (k : sz_Q) : sz_Q := sz_pe sy_w9 (sy_jbin (fun x y => x * y)) (11, a, b, 0, 0, .nop) k
theorem sz_o11_ok {k : sz_Q} (hx : sz_is j i 11 a b = true) (hk : sz_at S ρ q Q j (i + 1) k) : sz_at S ρ q Q j i (sz_o11 a b k) := sz_pe_ok hx rfl rfl hk
noncomputable def sz_o12 (a b : Nat) (k : sz_Q) : sz_Q := sz_pe sy_w9 sy_jand (12, a, b, 0, 0, .nop) k
theorem sz_o12_ok {k : sz_Q} (hx : sz_is j i 12 a b = true) (hk : sz_at S ρ q Q j (i + 1) k) : sz_at S ρ q Q j i (sz_o12 a b k) := sz_pe_ok hx rfl rfl hk
noncomputable def sz_o13 (a b : Nat) (k : sz_Q) : sz_Q := sz_pe sy_w9 (sy_jbin (fun x y => x ||| y)) (13, a, b, 0, 0, .nop) k
theorem sz_o13_ok {k : sz_Q} (hx : sz_is j i 13 a b = true) (hk : sz_at S ρ q Q j (i + 1) k) : sz_at S ρ q Q j i (sz_o13 a b k) := sz_pe_ok hx rfl rfl hk
noncomputable def sz_o14 (a b : Nat) (k : sz_Q) : sz_Q := sz_pe sy_w9 (sy_jbin (fun x y => x ^^^ y)) (14, a, b, 0, 0, .nop) k
theorem sz_o14_ok {k : sz_Q} (hx : sz_is j i 14 a b = true) (hk : sz_at S ρ q Q j (i + 1) k) : sz_at S ρ q Q j i (sz_o14 a b k) := sz_pe_ok hx rfl rfl hk
noncomputable def sz_o15 (a b : Nat) (k : sz_Q) : sz_Q := sz_pe sy_w9 (sy_jbin (fun x y => x <<< (y &&& 31))) (15, a, b, 0, 0, .nop) k
theorem sz_o15_ok {k : sz_Q} (hx : sz_is j i 15 a b = true) (hk : sz_at S ρ q Q j (i + 1) k) : sz_at S ρ q Q j i (sz_o15 a b k) := sz_pe_ok hx rfl rfl hk
noncomputable def sz_o16 (a b : Nat) (k : sz_Q) : sz_Q := sz_pe sy_w9 (sy_jbin (fun x y => x >>> (y &&& 31))) (16, a, b, 0, 0, .nop) k
theorem sz_o16_ok {k : sz_Q} (hx : sz_is j i 16 a b = true) (hk : sz_at S ρ q Q j (i + 1) k) : sz_at S ρ q Q j i (sz_o16 a b k) := sz_pe_ok hx rfl rfl hk
noncomputable def sz_o17 (a b : Nat) (k : sz_Q) : sz_Q := sz_pe sy_w9 (sy_jbin (fun x y => (x.toUInt32 >>> (y.toUInt32 &&& Int32.toUInt32 31)).toInt32)) (17, a, b, 0, 0, .nop) k
theorem sz_o17_ok {k : sz_Q} (hx : sz_is j i 17 a b = true) (hk : sz_at S ρ q Q j (i + 1) k) : sz_at S ρ q Q j i (sz_o17 a b k) := sz_pe_ok hx rfl rfl hk
noncomputable def sz_o18 (a b : Nat) (k : sz_Q) : sz_Q := sz_pe sy_w9 (sy_jdiv (fun x y => x / y)) (18, a, b, 0, 0, .nop) k
theorem sz_o18_ok {k : sz_Q} (hx : sz_is j i 18 a b = true) (hk : sz_at S ρ q Q j (i + 1) k) : sz_at S ρ q Q j i (sz_o18 a b k) := sz_pe_ok hx rfl rfl hk
noncomputable def sz_o19 (a b : Nat) (k : sz_Q) : sz_Q := sz_pe sy_w9 (sy_jdiv (fun x y => x - x / y * y)) (19, a, b, 0, 0, .nop) k
theorem sz_o19_ok {k : sz_Q} (hx : sz_is j i 19 a b = true) (hk : sz_at S ρ q Q j (i + 1) k) : sz_at S ρ q Q j i (sz_o19 a b k) := sz_pe_ok hx rfl rfl hk
noncomputable def sz_o20 (a b : Nat) (k : sz_Q) : sz_Q := sz_pl sy_i20 (20, a, b, 0, 0, .nop) k
theorem sz_o20_ok {k : sz_Q} (hx : sz_is j i 20 a b = true) (hk : sz_at S ρ q Q j (i + 1) k) : sz_at S ρ q Q j i (sz_o20 a b k) := sz_pl_ok hx rfl rfl hk
noncomputable def sz_o21 (a b : Nat) (k : sz_Q) : sz_Q := sz_pl sy_j21 (21, a, b, 0, 0, .nop) k
theorem sz_o21_ok {k : sz_Q} (hx : sz_is j i 21 a b = true) (hk : sz_at S ρ q Q j (i + 1) k) : sz_at S ρ q Q j i (sz_o21 a b k) := sz_pl_ok hx rfl rfl hk
noncomputable def sz_o22 (a b : Nat) (k : sz_Q) : sz_Q := sz_pl sy_i22 (22, a, b, 0, 0, .nop) k
theorem sz_o22_ok {k : sz_Q} (hx : sz_is j i 22 a b = true) (hk : sz_at S ρ q Q j (i + 1) k) : sz_at S ρ q Q j i (sz_o22 a b k) := sz_pl_ok hx rfl rfl hk
noncomputable def sz_o23 (a b : Nat) (kt kf : sz_Q) : sz_Q := sz_br (sy_w23 0) (sy_if1 0) (23, a, b, 0, 0, .nop) a kt kf
theorem sz_o23_ok {kt kf : sz_Q} (hx : sz_is j i 23 a b = true) (ht : sz_at S ρ q Q j a kt) (hk : sz_at S ρ q Q j (i + 1) kf) : sz_at S ρ q Q j i (sz_o23 a b kt kf) := sz_br_ok hx rfl rfl ht hk
noncomputable def sz_o24 (a b : Nat) (kt kf : sz_Q) : sz_Q := sz_br (sy_w23 1) (sy_if1 1) (24, a, b, 0, 0, .nop) a kt kf
theorem sz_o24_ok {kt kf : sz_Q} (hx : sz_is j i 24 a b = true) (ht : sz_at S ρ q Q j a kt) (hk : sz_at S ρ q Q j (i + 1) kf) : sz_at S ρ q Q j i (sz_o24 a b kt kf) := sz_br_ok hx rfl rfl ht hk
noncomputable def sz_o25 (a b : Nat) (kt kf : sz_Q) : sz_Q := sz_br (sy_w23 2) (sy_if1 2) (25, a, b, 0, 0, .nop) a kt kf
theorem sz_o25_ok {kt kf : sz_Q} (hx : sz_is j i 25 a b = true) (ht : sz_at S ρ q Q j a kt) (hk : sz_at S ρ q Q j (i + 1) kf) : sz_at S ρ q Q j i (sz_o25 a b kt kf) := sz_br_ok hx rfl rfl ht hk
noncomputable def sz_o26 (a b : Nat) (kt kf : sz_Q) : sz_Q := sz_br (sy_w23 3) (sy_if1 3) (26, a, b, 0, 0, .nop) a kt kf
theorem sz_o26_ok {kt kf : sz_Q} (hx : sz_is j i 26 a b = true) (ht : sz_at S ρ q Q j a kt) (hk : sz_at S ρ q Q j (i + 1) kf) : sz_at S ρ q Q j i (sz_o26 a b kt kf) := sz_br_ok hx rfl rfl ht hk
noncomputable def sz_o27 (a b : Nat) (kt kf : sz_Q) : sz_Q := sz_br (sy_w23 4) (sy_if1 4) (27, a, b, 0, 0, .nop) a kt kf
theorem sz_o27_ok {kt kf : sz_Q} (hx : sz_is j i 27 a b = true) (ht : sz_at S ρ q Q j a kt) (hk : sz_at S ρ q Q j (i + 1) kf) : sz_at S ρ q Q j i (sz_o27 a b kt kf) := sz_br_ok hx rfl rfl ht hk
noncomputable def sz_o28 (a b : Nat) (kt kf : sz_Q) : sz_Q := sz_br (sy_w23 5) (sy_if1 5) (28, a, b, 0, 0, .nop) a kt kf
theorem sz_o28_ok {kt kf : sz_Q} (hx : sz_is j i 28 a b = true) (ht : sz_at S ρ q Q j a kt) (hk : sz_at S ρ q Q j (i + 1) kf) : sz_at S ρ q Q j i (sz_o28 a b kt kf) := sz_br_ok hx rfl rfl ht hk
noncomputable def sz_o29 (a b : Nat) (kt kf : sz_Q) : sz_Q := sz_br (sy_w29 0) (sy_if2 0) (29, a, b, 0, 0, .nop) a kt kf
theorem sz_o29_ok {kt kf : sz_Q} (hx : sz_is j i 29 a b = true) (ht : sz_at S ρ q Q j a kt) (hk : sz_at S ρ q Q j (i + 1) kf) : sz_at S ρ q Q j i (sz_o29 a b kt kf) := sz_br_ok hx rfl rfl ht hk
noncomputable def sz_o30 (a b : Nat) (kt kf : sz_Q) : sz_Q := sz_br (sy_w29 1) (sy_if2 1) (30, a, b, 0, 0, .nop) a kt kf
theorem sz_o30_ok {kt kf : sz_Q} (hx : sz_is j i 30 a b = true) (ht : sz_at S ρ q Q j a kt) (hk : sz_at S ρ q Q j (i + 1) kf) : sz_at S ρ q Q j i (sz_o30 a b kt kf) := sz_br_ok hx rfl rfl ht hk
noncomputable def sz_o31 (a b : Nat) (kt kf : sz_Q) : sz_Q := sz_br (sy_w29 2) (sy_if2 2) (31, a, b, 0, 0, .nop) a kt kf
theorem sz_o31_ok {kt kf : sz_Q} (hx : sz_is j i 31 a b = true) (ht : sz_at S ρ q Q j a kt) (hk : sz_at S ρ q Q j (i + 1) kf) : sz_at S ρ q Q j i (sz_o31 a b kt kf) := sz_br_ok hx rfl rfl ht hk
noncomputable def sz_o32 (a b : Nat) (kt kf : sz_Q) : sz_Q := sz_br (sy_w29 3) (sy_if2 3) (32, a, b, 0, 0, .nop) a kt kf
theorem sz_o32_ok {kt kf : sz_Q} (hx : sz_is j i 32 a b = true) (ht : sz_at S ρ q Q j a kt) (hk : sz_at S ρ q Q j (i + 1) kf) : sz_at S ρ q Q j i (sz_o32 a b kt kf) := sz_br_ok hx rfl rfl ht hk
noncomputable def sz_o33 (a b : Nat) (kt kf : sz_Q) : sz_Q := sz_br (sy_w29 4) (sy_if2 4) (33, a, b, 0, 0, .nop) a kt kf
theorem sz_o33_ok {kt kf : sz_Q} (hx : sz_is j i 33 a b = true) (ht : sz_at S ρ q Q j a kt) (hk : sz_at S ρ q Q j (i + 1) kf) : sz_at S ρ q Q j i (sz_o33 a b kt kf) := sz_br_ok hx rfl rfl ht hk
noncomputable def sz_o34 (a b : Nat) (kt kf : sz_Q) : sz_Q := sz_br (sy_w29 5) (sy_if2 5) (34, a, b, 0, 0, .nop) a kt kf
theorem sz_o34_ok {kt kf : sz_Q} (hx : sz_is j i 34 a b = true) (ht : sz_at S ρ q Q j a kt) (hk : sz_at S ρ q Q j (i + 1) kf) : sz_at S ρ q Q j i (sz_o34 a b kt kf) := sz_br_ok hx rfl rfl ht hk
noncomputable def sz_o37 (q : Nat) (a b : Nat) (k : sz_Q) : sz_Q := sz_pl (sy_i37 q) (37, a, b, 0, 0, .nop) k
theorem sz_o37_ok {k : sz_Q} (hx : sz_is j i 37 a b = true) (hk : sz_at S ρ q Q j (i + 1) k) : sz_at S ρ q Q j i (sz_o37 q a b k) := sz_pl_ok hx rfl rfl hk
noncomputable def sz_o38 (q : Nat) (a b : Nat) (k : sz_Q) : sz_Q := sz_ps sy_wt (sy_j38 q) (38, a, b, 0, 0, .nop) k
theorem sz_o38_ok {k : sz_Q} (hx : sz_is j i 38 a b = true) (hk : sz_at S ρ q Q j (i + 1) k) : sz_at S ρ q Q j i (sz_o38 q a b k) := sz_ps_ok hx rfl rfl hk
noncomputable def sz_o39 (a b : Nat) (k : sz_Q) : sz_Q := sz_ps sy_wt sy_j39 (39, a, b, 0, 0, .nop) k
theorem sz_o39_ok {k : sz_Q} (hx : sz_is j i 39 a b = true) (hk : sz_at S ρ q Q j (i + 1) k) : sz_at S ρ q Q j i (sz_o39 a b k) := sz_ps_ok hx rfl rfl hk
noncomputable def sz_o40 (a b : Nat) (k : sz_Q) : sz_Q := sz_ps sy_wt sy_i40 (40, a, b, 0, 0, .nop) k
theorem sz_o40_ok {k : sz_Q} (hx : sz_is j i 40 a b = true) (hk : sz_at S ρ q Q j (i + 1) k) : sz_at S ρ q Q j i (sz_o40 a b k) := sz_ps_ok hx rfl rfl hk
noncomputable def sz_o41 (a b : Nat) (k : sz_Q) : sz_Q := sz_ps sy_wt sy_j41 (41, a, b, 0, 0, .nop) k
theorem sz_o41_ok {k : sz_Q} (hx : sz_is j i 41 a b = true) (hk : sz_at S ρ q Q j (i + 1) k) : sz_at S ρ q Q j i (sz_o41 a b k) := sz_ps_ok hx rfl rfl hk
noncomputable def sz_o42 (a b : Nat) (k : sz_Q) : sz_Q := sz_ps sy_ws sy_j42 (42, a, b, 0, 0, .nop) k
theorem sz_o42_ok {k : sz_Q} (hx : sz_is j i 42 a b = true) (hk : sz_at S ρ q Q j (i + 1) k) : sz_at S ρ q Q j i (sz_o42 a b k) := sz_ps_ok hx rfl rfl hk
noncomputable def sz_o43 (a b : Nat) (k : sz_Q) : sz_Q := sz_ps sy_ws sy_j43 (43, a, b, 0, 0, .nop) k
theorem sz_o43_ok {k : sz_Q} (hx : sz_is j i 43 a b = true) (hk : sz_at S ρ q Q j (i + 1) k) : sz_at S ρ q Q j i (sz_o43 a b k) := sz_ps_ok hx rfl rfl hk
noncomputable def sz_o44 (a b : Nat) (k : sz_Q) : sz_Q := sz_ps sy_ws sy_j44 (44, a, b, 0, 0, .nop) k
theorem sz_o44_ok {k : sz_Q} (hx : sz_is j i 44 a b = true) (hk : sz_at S ρ q Q j (i + 1) k) : sz_at S ρ q Q j i (sz_o44 a b k) := sz_ps_ok hx rfl rfl hk
noncomputable def sz_o45 (a b : Nat) (k : sz_Q) : sz_Q := sz_ps sy_ws sy_j45 (45, a, b, 0, 0, .nop) k
theorem sz_o45_ok {k : sz_Q} (hx : sz_is j i 45 a b = true) (hk : sz_at S ρ q Q j (i + 1) k) : sz_at S ρ q Q j i (sz_o45 a b k) := sz_ps_ok hx rfl rfl hk
noncomputable def sz_o46 (a b : Nat) (k : sz_Q) : sz_Q := sz_pl sy_i46 (46, a, b, 0, 0, .nop) k
theorem sz_o46_ok {k : sz_Q} (hx : sz_is j i 46 a b = true) (hk : sz_at S ρ q Q j (i + 1) k) : sz_at S ρ q Q j i (sz_o46 a b k) := sz_pl_ok hx rfl rfl hk
noncomputable def sz_o47 (a b : Nat) (k : sz_Q) : sz_Q := sz_ps sy_wt sy_j47 (47, a, b, 0, 0, .nop) k
theorem sz_o47_ok {k : sz_Q} (hx : sz_is j i 47 a b = true) (hk : sz_at S ρ q Q j (i + 1) k) : sz_at S ρ q Q j i (sz_o47 a b k) := sz_ps_ok hx rfl rfl hk
noncomputable def sz_o48 (a b : Nat) (k : sz_Q) : sz_Q := sz_ps sy_wt (sy_j48 sxlim sxDn) (48, a, b, 0, 0, .nop) k
theorem sz_o48_ok {k : sz_Q} (hx : sz_is j i 48 a b = true) (hk : sz_at S ρ q Q j (i + 1) k) : sz_at S ρ q Q j i (sz_o48 a b k) := sz_ps_ok hx rfl rfl hk
noncomputable def sz_o49 (a b : Nat) (k : sz_Q) : sz_Q := sz_ps sy_wt (sy_jnar sxlim 0) (49, a, b, 0, 0, .nop) k
theorem sz_o49_ok {k : sz_Q} (hx : sz_is j i 49 a b = true) (hk : sz_at S ρ q Q j (i + 1) k) : sz_at S ρ q Q j i (sz_o49 a b k) := sz_ps_ok hx rfl rfl hk
noncomputable def sz_o50 (a b : Nat) (k : sz_Q) : sz_Q := sz_ps sy_wt (sy_jnar sxlim 1) (50, a, b, 0, 0, .nop) k
theorem sz_o50_ok {k : sz_Q} (hx : sz_is j i 50 a b = true) (hk : sz_at S ρ q Q j (i + 1) k) : sz_at S ρ q Q j i (sz_o50 a b k) := sz_ps_ok hx rfl rfl hk
noncomputable def sz_o51 (a b : Nat) (k : sz_Q) : sz_Q := sz_ps sy_wt (sy_jnar sxlim 2) (51, a, b, 0, 0, .nop) k
theorem sz_o51_ok {k : sz_Q} (hx : sz_is j i 51 a b = true) (hk : sz_at S ρ q Q j (i + 1) k) : sz_at S ρ q Q j i (sz_o51 a b k) := sz_ps_ok hx rfl rfl hk
noncomputable def sz_o52 (a b : Nat) (k : sz_Q) : sz_Q := sz_ps sy_wt (sy_i52 sxlim) (52, a, b, 0, 0, .nop) k
theorem sz_o52_ok {k : sz_Q} (hx : sz_is j i 52 a b = true) (hk : sz_at S ρ q Q j (i + 1) k) : sz_at S ρ q Q j i (sz_o52 a b k) := sz_ps_ok hx rfl rfl hk
noncomputable def sz_o53 (a b : Nat) (k : sz_Q) : sz_Q := sz_ps sy_wt (sy_j53 sxlim) (53, a, b, 0, 0, .nop) k
theorem sz_o53_ok {k : sz_Q} (hx : sz_is j i 53 a b = true) (hk : sz_at S ρ q Q j (i + 1) k) : sz_at S ρ q Q j i (sz_o53 a b k) := sz_ps_ok hx rfl rfl hk
noncomputable def sz_o54 (a b : Nat) (k : sz_Q) : sz_Q := sz_pl sy_i54 (54, a, b, 0, 0, .nop) k
theorem sz_o54_ok {k : sz_Q} (hx : sz_is j i 54 a b = true) (hk : sz_at S ρ q Q j (i + 1) k) : sz_at S ρ q Q j i (sz_o54 a b k) := sz_pl_ok hx rfl rfl hk
noncomputable def sz_o55 (a b : Nat) (k : sz_Q) : sz_Q := sz_pl sy_j55 (55, a, b, 0, 0, .nop) k
theorem sz_o55_ok {k : sz_Q} (hx : sz_is j i 55 a b = true) (hk : sz_at S ρ q Q j (i + 1) k) : sz_at S ρ q Q j i (sz_o55 a b k) := sz_pl_ok hx rfl rfl hk
end
