/-! ===== SW: the instructions that look at the heap, calls, ends ===== -/
theorem sw_lglo {α : Type} {d x : α} : ∀ (l : List α) (n : Nat), sx_lo l n = some x → sx_lg d l n = x
  | [], _, h => by cases h
  | _ :: _, 0, h => Option.some.inj h
  | _ :: t, n + 1, h => sw_lglo t n h
section
variable {S : List Int32} {j i a b o : Nat} {ls : sx_L} {st r : List Value} {H : sw_H} {Q Q' : sw_Q}
theorem sw_o46i (hx : sz_is j i 46 a b = true) {q : Nat} (ht : sw_ty H q = 8 * a + 8) (ha : a < 13) (hd : sx_lo (sxD a) b = some (.int 0)) (k : ∀ v, v = sw_iv H q b → sw_c v → sw_ok S j (i + 1) ls (sw_i v :: st) H Q) : sw_ok S j i ls (sw_p q :: st) H Q :=
  sw_pl hx rfl (fun h r cd pc ln ins => by
    obtain ⟨k0, fs, e, hk, hg, har, hl, hL, hf⟩ := sw_obj r ht
    have hb : b < fs.length := by
      rw [hL ha]
      rw [sx_lo_eq] at hd
      exact (List.getElem?_eq_some_iff.mp hd).1
    have hv : fs[b]? = some fs[b] := List.getElem?_eq_getElem hb
    obtain ⟨h1, h2⟩ := hf b _ hv
    rw [sw_lglo _ _ hd] at h2
    have hlo : sx_lo fs b = some fs[b] := by rw [sx_lo_eq]; exact hv
    have hs : sx_step sxlim sxD S cd 46 (46, a, b, pc, ln, ins) ls (sw_p q :: st) h = some (none, ls, fs[b] :: st, h) := by
      show sx_i46 (46, a, b, pc, ln, ins) ls (sw_p q :: st) h = _
      unfold sx_i46
      simp only [har, Nat.beq_refl, cond_true, hlo]
    generalize fs[b] = v at *
    match v, h1, h2, hs with
    | .int x, h1, _, hs =>
      have h1 : sw_iv H q b = x.toInt := h1
      refine ⟨none, ls, _, h, H, hs, r, sw_ext_refl H, ?_⟩
      have := k x.toInt h1.symm (sw_c_to x)
      rw [sw_it] at this
      exact this
    | .ref x, _, h2, _ => cases h2
    | .null, _, h2, _ => cases h2
    | .long x, h1, _, _ => exact h1.elim
    | .float x, h1, _, _ => exact h1.elim
    | .double x, h1, _, _ => exact h1.elim
    | .retAddr x, h1, _, _ => exact h1.elim)
theorem sw_ty0 {S : List Int32} {H : sw_H} {h : sx_H} (r : sw_rel S H h) : sw_ty H 0 = 0 := r.2.2.2.2.2.1
theorem sw_o46r (hx : sz_is j i 46 a b = true) {q d : Nat} (ht : sw_ty H q = 8 * a + 8) (ha : a < 13) (hd : sx_lo (sxD a) b = some .null) (hn : sw_ty H (sw_rv H q b) = d + 1) (k : ∀ v, v = sw_rv H q b → sw_ok S j (i + 1) ls (sw_p v :: st) H Q) : sw_ok S j i ls (sw_p q :: st) H Q :=
  sw_pl hx rfl (fun h r cd pc ln ins => by
    obtain ⟨k0, fs, e, hk, hg, har, hl, hL, hf⟩ := sw_obj r ht
    have hb : b < fs.length := by
      rw [hL ha]
      rw [sx_lo_eq] at hd
      exact (List.getElem?_eq_some_iff.mp hd).1
    have hv : fs[b]? = some fs[b] := List.getElem?_eq_getElem hb
    obtain ⟨h1, h2⟩ := hf b _ hv
    rw [sw_lglo _ _ hd] at h2
    have hlo : sx_lo fs b = some fs[b] := by rw [sx_lo_eq]; exact hv
    have hs : sx_step sxlim sxD S cd 46 (46, a, b, pc, ln, ins) ls (sw_p q :: st) h = some (none, ls, fs[b] :: st, h) := by
      show sx_i46 (46, a, b, pc, ln, ins) ls (sw_p q :: st) h = _
      unfold sx_i46
      simp only [har, Nat.beq_refl, cond_true, hlo]
    generalize fs[b] = v at *
    match v, h1, h2, hs with
    | .int x, _, h2, _ => cases h2
    | .ref x, h1, _, hs =>
      have h1 : sw_rv H q b = x + 1 := h1
      exact ⟨none, ls, _, h, H, hs, r, sw_ext_refl H, k (x + 1) h1.symm⟩
    | .null, h1, _, _ =>
      have h1 : sw_rv H q b = 0 := h1
      rw [h1, sw_ty0 r] at hn
      cases hn
    | .long x, h1, _, _ => exact h1.elim
    | .float x, h1, _, _ => exact h1.elim
    | .double x, h1, _, _ => exact h1.elim
    | .retAddr x, h1, _, _ => exact h1.elim)
theorem sw_putf {h : sx_H} {q f kd : Nat} {w : Value} {G : sw_H} (r : sw_rel S H h) (ht : sw_ty H q = 8 * a + 8) (ha : a < 13) {dv : Value} (hd : sx_lo (sxD a) f = some dv) (hb : b = 1000 * kd + f) (hf : f < 1000) (hw : sx_pv kd w = true) (e1 : sw_n G = sw_n H) (e2 : sw_s G = sw_s H) (e3 : ∀ a, sw_ty G a = sw_ty H a) (e4 : ∀ a, sw_ln G a = sw_ln H a) (e5 : ∀ c, c ≠ q → sw_iv G c = sw_iv H c ∧ sw_rv G c = sw_rv H c) (e6 : ∀ g, g ≠ f → sw_iv G q g = sw_iv H q g ∧ sw_rv G q g = sw_rv H q g) (e7 : sw_fv w (sw_iv G q f) (sw_rv G q f)) (e8 : sw_kd w = sw_kd dv) (cd : List (List sx_N)) (pc ln : Nat) (ins : Instr) : ∃ h1, sx_step sxlim sxD S cd 47 (47, a, b, pc, ln, ins) ls (w :: sw_p q :: st) h = some (none, ls, st, h1) ∧ sw_rel S G h1 := by
  obtain ⟨k0, fs, e, hk, hg, har, hl, hL, hfs⟩ := sw_obj r ht
  have hlt : f < fs.length := by
    rw [hL ha]
    rw [sx_lo_eq] at hd
    exact (List.getElem?_eq_some_iff.mp hd).1
  have m1 : b % 1000 = f := by omega
  have m2 : b / 1000 = kd := by omega
  refine ⟨sx_set h k0 (.inl (a, sx_lset w w fs f)), ?_, ?_⟩
  · show sx_i47 (47, a, b, pc, ln, ins) ls (w :: sw_p q :: st) h = _
    unfold sx_i47
    simp only [har, Nat.beq_refl, m1, m2, hw, Bool.true_and, Bool.and_true]
    rw [show Nat.blt f fs.length = true from by rw [Nat.blt_eq]; exact hlt]
    rfl
  · subst e
    refine sw_rel_upd r hk e1 e2 e3 e4 e5 ⟨?_, ?_, ?_, ?_⟩
    · rw [e3]; exact ht
    · rw [e4, sx_lset_len _ _ _ _ hlt]; exact hl
    · intro _; rw [sx_lset_len _ _ _ _ hlt]; exact hL ha
    · intro g v hv
      rw [sx_lset_at _ _ _ _ hlt] at hv
      by_cases eg : g = f
      · subst eg
        rw [if_pos rfl] at hv
        have hv := Option.some.inj hv
        subst hv
        rw [sw_lglo _ _ hd]
        exact ⟨e7, e8⟩
      · rw [if_neg eg] at hv
        rw [(e6 g eg).1, (e6 g eg).2]
        exact hfs g v hv
theorem sw_o47i (hx : sz_is j i 47 a b = true) {q f : Nat} {z : Int} (ht : sw_ty H q = 8 * a + 8) (ha : a < 13) (hd : sx_lo (sxD a) f = some (.int 0)) (hb : b = 1000 * 0 + f) (hf : f < 1000) (hz : sw_c z) (k : sw_ok S j (i + 1) ls st (sw_si H q f z) Q) : sw_ok S j i ls (sw_i z :: sw_p q :: st) H Q :=
  sw_pl hx rfl (fun h r cd pc ln ins => by
    obtain ⟨h1, hs, hr⟩ := sw_putf (G := sw_si H q f z) (w := sw_i z) (st := st) (ls := ls) r ht ha hd hb hf rfl rfl rfl (fun _ => rfl) (fun _ => rfl) (fun c hc => ⟨by funext g; rw [sw_iv_si, if_neg (fun e => hc e.1)], rfl⟩) (fun g hg => ⟨by rw [sw_iv_si, if_neg (fun e => hg e.2)], rfl⟩) (by show sw_iv (sw_si H q f z) q f = (Int32.ofInt z).toInt; rw [sw_iv_si, if_pos ⟨rfl, rfl⟩, sw_c_id hz]) rfl cd pc ln ins
    exact ⟨none, ls, st, h1, _, hs, hr, sw_ext_si H q f z, k⟩)
theorem sw_o47b (hx : sz_is j i 47 a b = true) {q f : Nat} {z : Int} (ht : sw_ty H q = 8 * a + 8) (ha : a < 13) (hd : sx_lo (sxD a) f = some (.int 0)) (hb : b = 1000 * 1 + f) (hf : f < 1000) (hz : z = 0 ∨ z = 1) (k : sw_ok S j (i + 1) ls st (sw_si H q f z) Q) : sw_ok S j i ls (sw_i z :: sw_p q :: st) H Q :=
  sw_pl hx rfl (fun h r cd pc ln ins => by
    have hc : sw_c z := by unfold sw_c; omega
    obtain ⟨h1, hs, hr⟩ := sw_putf (G := sw_si H q f z) (w := sw_i z) (st := st) (ls := ls) r ht ha hd hb hf (by rcases hz with e | e <;> subst e <;> rfl) rfl rfl (fun _ => rfl) (fun _ => rfl) (fun c hc => ⟨by funext g; rw [sw_iv_si, if_neg (fun e => hc e.1)], rfl⟩) (fun g hg => ⟨by rw [sw_iv_si, if_neg (fun e => hg e.2)], rfl⟩) (by show sw_iv (sw_si H q f z) q f = (Int32.ofInt z).toInt; rw [sw_iv_si, if_pos ⟨rfl, rfl⟩, sw_c_id hc]) rfl cd pc ln ins
    exact ⟨none, ls, st, h1, _, hs, hr, sw_ext_si H q f z, k⟩)
theorem sw_o47r (hx : sz_is j i 47 a b = true) {q f v d : Nat} (ht : sw_ty H q = 8 * a + 8) (ha : a < 13) (hd : sx_lo (sxD a) f = some .null) (hb : b = 1000 * 2 + f) (hf : f < 1000) (hv : sw_ty H v = d + 1) (k : sw_ok S j (i + 1) ls st (sw_sr H q f v) Q) : sw_ok S j i ls (sw_p v :: sw_p q :: st) H Q :=
  sw_pl hx rfl (fun h r cd pc ln ins => by
    have hv0 : v ≠ 0 := fun e => by rw [e, sw_ty0 r] at hv; cases hv
    obtain ⟨h1, hs, hr⟩ := sw_putf (G := sw_sr H q f v) (w := sw_p v) (st := st) (ls := ls) r ht ha hd hb hf rfl rfl rfl (fun _ => rfl) (fun _ => rfl) (fun c hc => ⟨rfl, by funext g; rw [sw_rv_sr, if_neg (fun e => hc e.1)]⟩) (fun g hg => ⟨rfl, by rw [sw_rv_sr, if_neg (fun e => hg e.2)]⟩) (by show sw_rv (sw_sr H q f v) q f = v - 1 + 1; rw [sw_rv_sr, if_pos ⟨rfl, rfl⟩]; omega) rfl cd pc ln ins
    exact ⟨none, ls, st, h1, _, hs, hr, sw_ext_sr H q f v, k⟩)
theorem sw_o37 (hx : sz_is j i 37 a b = true) {q : Nat} (ht : sw_ty H q = 1) (k : ∀ v, v = (sw_ln H q : Int) → sw_c v → sw_ok S j (i + 1) ls (sw_i v :: st) H Q) : sw_ok S j i ls (sw_p q :: st) H Q :=
  sw_pl hx rfl (fun h r cd pc ln ins => by
    obtain ⟨k0, l, e, hk, hg, har, hl, hf⟩ := sw_ints (u := 0) r ht (by omega)
    refine ⟨none, ls, sw_i (sw_ln H q : Int) :: st, h, H, ?_, r, sw_ext_refl H, k _ rfl (by unfold sw_c; omega)⟩
    subst e
    show sx_i37 S (37, a, b, pc, ln, ins) ls (.ref (k0 + 1) :: st) h = _
    have har : sx_arr h (.ref (k0 + 1)) = some (k0, .inr (.inl (0, sw_ln H (k0 + 2), l))) := har
    unfold sx_i37
    simp only [har]
    rfl)
theorem sw_o37s (hx : sz_is j i 37 a b = true) (k : ∀ v, v = (S.length : Int) → sw_c v → v ≤ 3072 → sw_ok S j (i + 1) ls (sw_i v :: st) H Q) : sw_ok S j i ls (sw_p 1 :: st) H Q :=
  sw_pl hx rfl (fun h r cd pc ln ins => by
    have h9 : S.length ≤ 3072 := r.2.2.2.2.2.2.2.2.1
    exact ⟨none, ls, sw_i (S.length : Int) :: st, h, H, rfl, r, sw_ext_refl H, k _ rfl (by unfold sw_c; omega) (by omega)⟩)
theorem sw_o38 (hx : sz_is j i 38 a b = true) {q : Nat} {z : Int} (ht : sw_ty H q = 1) (hc : sw_c z) (h0 : 0 ≤ z) (hn : z < sw_ln H q) (k : ∀ v, v = sw_iv H q z.toNat → sw_c v → sw_ok S j (i + 1) ls (sw_i v :: st) H Q) : sw_ok S j i ls (sw_i z :: sw_p q :: st) H Q :=
  sw_pl hx rfl (fun h r cd pc ln ins => by
    obtain ⟨k0, l, e, hk, hg, har, hl, hf⟩ := sw_ints (u := 0) r ht (by omega)
    have hf := hf z.toNat (by omega)
    refine ⟨none, ls, sw_i (sw_iv H q z.toNat) :: st, h, H, ?_, r, sw_ext_refl H, k _ rfl (by rw [hf]; exact sw_c_to _)⟩
    rw [hf, sw_it]
    subst e
    show sx_i38 S (38, a, b, pc, ln, ins) ls (sw_i z :: .ref (k0 + 1) :: st) h = _
    have har : sx_arr h (.ref (k0 + 1)) = some (k0, .inr (.inl (0, sw_ln H (k0 + 2), l))) := har
    unfold sx_i38 sw_i
    simp only [har, sw_ix hc h0 hn])
theorem sw_o38s (hx : sz_is j i 38 a b = true) {z : Int} (hc : sw_c z) (h0 : 0 ≤ z) (hn : z < S.length) (k : ∀ v, v = sw_iv H 1 z.toNat → sw_c v → sw_ok S j (i + 1) ls (sw_i v :: st) H Q) : sw_ok S j i ls (sw_i z :: sw_p 1 :: st) H Q :=
  sw_pl hx rfl (fun h r cd pc ln ins => by
    have hf := r.2.2.2.2.2.2.2.2.2.1 z.toNat (by omega)
    refine ⟨none, ls, sw_i (sw_iv H 1 z.toNat) :: st, h, H, ?_, r, sw_ext_refl H, k _ rfl (by rw [hf]; exact sw_c_to _)⟩
    rw [hf, sw_it]
    show sx_i38 S (38, a, b, pc, ln, ins) ls (sw_i z :: .ref 0 :: st) h = _
    unfold sx_i38 sw_i
    simp only [sw_ix hc h0 hn])
theorem sw_o39 (hx : sz_is j i 39 a b = true) {q u : Nat} {z : Int} (ht : sw_ty H q = u + 2) (hu : u < 2) (hc : sw_c z) (h0 : 0 ≤ z) (hn : z < sw_ln H q) (k : ∀ v, v = sw_iv H q z.toNat → sw_c v → sw_ok S j (i + 1) ls (sw_i v :: st) H Q) : sw_ok S j i ls (sw_i z :: sw_p q :: st) H Q :=
  sw_pl hx rfl (fun h r cd pc ln ins => by
    obtain ⟨k0, l, e, hk, hg, har, hl, hf⟩ := sw_ints (u := u + 1) r ht (by omega)
    have hf := hf z.toNat (by omega)
    refine ⟨none, ls, sw_i (sw_iv H q z.toNat) :: st, h, H, ?_, r, sw_ext_refl H, k _ rfl (by rw [hf]; exact sw_c_to _)⟩
    rw [hf, sw_it]
    show sx_i39 (39, a, b, pc, ln, ins) ls (sw_i z :: sw_p q :: st) h = _
    have hx := sw_ix hc h0 hn
    match u, hu with
    | 0, _ =>
      unfold sx_i39
      simp only [sw_i, har, hx]
    | 1, _ =>
      unfold sx_i39
      simp only [sw_i, har, hx])
theorem sw_o41 (hx : sz_is j i 41 a b = true) {q c d : Nat} {z : Int} (ht : sw_ty H q = 8 * c + 9) (hc : sw_c z) (h0 : 0 ≤ z) (hn : z < sw_ln H q) (hv : sw_ty H (sw_rv H q z.toNat) = d + 1) (k : ∀ v, v = sw_rv H q z.toNat → sw_ok S j (i + 1) ls (sw_p v :: st) H Q) : sw_ok S j i ls (sw_i z :: sw_p q :: st) H Q :=
  sw_pl hx rfl (fun h r cd pc ln ins => by
    obtain ⟨k0, l, e, hk, hg, har, hl, hf⟩ := sw_refs r ht
    have hf := hf z.toNat (by omega)
    have hs : sx_step sxlim sxD S cd 41 (41, a, b, pc, ln, ins) ls (sw_i z :: sw_p q :: st) h = some (none, ls, va_rf (sx_ag none l z.toNat) :: st, h) := by
      show sx_i41 (41, a, b, pc, ln, ins) ls (sw_i z :: sw_p q :: st) h = _
      unfold sx_i41 sw_i
      simp only [har, sw_ix hc h0 hn]
    refine ⟨none, ls, _, h, H, hs, r, sw_ext_refl H, ?_⟩
    generalize sx_ag none l z.toNat = w at *
    match w, hf with
    | none, hf => rw [hf, sw_ty0 r] at hv; cases hv
    | some x, hf => exact k (x + 1) hf.symm)
theorem sw_o42 (hx : sz_is j i 42 a b = true) {q : Nat} {z y : Int} (ht : sw_ty H q = 1) (hc : sw_c z) (h0 : 0 ≤ z) (hn : z < sw_ln H q) (hy : sw_c y) (k : sw_ok S j (i + 1) ls st (sw_si H q z.toNat y) Q) : sw_ok S j i ls (sw_i y :: sw_i z :: sw_p q :: st) H Q :=
  sw_pl hx rfl (fun h r cd pc ln ins => by
    obtain ⟨k0, l, e, hk, hg, har, hl, hf⟩ := sw_ints (u := 0) r ht (by omega)
    refine ⟨none, ls, st, _, _, ?_, sw_rel_ast (f := z.toNat) r e hk ht (by omega) hl hf hy, sw_ext_si H q z.toNat y, k⟩
    show sx_i42 (42, a, b, pc, ln, ins) ls (sw_i y :: sw_i z :: sw_p q :: st) h = _
    unfold sx_i42 sw_i
    simp only [har, sw_ix hc h0 hn, sx_frc_eq])
theorem sw_nar_bool {y : Int} (hy : y = 0 ∨ y = 1) : vp_nar .boolean (Int32.ofInt y) = Int32.ofInt y := by rcases hy with e | e <;> subst e <;> decide
theorem sw_o43b (hx : sz_is j i 43 a b = true) {q : Nat} {z y : Int} (ht : sw_ty H q = 2) (hc : sw_c z) (h0 : 0 ≤ z) (hn : z < sw_ln H q) (hy : y = 0 ∨ y = 1) (k : sw_ok S j (i + 1) ls st (sw_si H q z.toNat y) Q) : sw_ok S j i ls (sw_i y :: sw_i z :: sw_p q :: st) H Q :=
  sw_pl hx rfl (fun h r cd pc ln ins => by
    obtain ⟨k0, l, e, hk, hg, har, hl, hf⟩ := sw_ints (u := 1) r ht (by omega)
    refine ⟨none, ls, st, _, _, ?_, sw_rel_ast (f := z.toNat) r e hk ht (by omega) hl hf (by unfold sw_c; omega : sw_c y), sw_ext_si H q z.toNat y, k⟩
    show sx_i43 (43, a, b, pc, ln, ins) ls (sw_i y :: sw_i z :: sw_p q :: st) h = _
    unfold sx_i43 sw_i
    simp only [har, sw_ix hc h0 hn, sx_frc_eq, sw_nar_bool hy])
theorem sw_byt_byt (y : Int) : vp_nar .byte (Int32.ofInt (sw_byt y)) = Int32.ofInt (sw_byt y) := by
  unfold sw_byt
  rw [vp_nar_byte, sw_of_to]
  simp
theorem sw_o43y (hx : sz_is j i 43 a b = true) {q : Nat} {z y : Int} (ht : sw_ty H q = 3) (hc : sw_c z) (h0 : 0 ≤ z) (hn : z < sw_ln H q) (hy : ∃ x, y = sw_byt x) (k : sw_ok S j (i + 1) ls st (sw_si H q z.toNat y) Q) : sw_ok S j i ls (sw_i y :: sw_i z :: sw_p q :: st) H Q :=
  sw_pl hx rfl (fun h r cd pc ln ins => by
    obtain ⟨k0, l, e, hk, hg, har, hl, hf⟩ := sw_ints (u := 2) r ht (by omega)
    obtain ⟨x, hy⟩ := hy
    have hcy : sw_c y := by rw [hy]; exact sw_c_to _
    refine ⟨none, ls, st, _, _, ?_, sw_rel_ast (f := z.toNat) r e hk ht (by omega) hl hf hcy, sw_ext_si H q z.toNat y, k⟩
    show sx_i43 (43, a, b, pc, ln, ins) ls (sw_i y :: sw_i z :: sw_p q :: st) h = _
    have hb : vp_nar .byte (Int32.ofInt y) = Int32.ofInt y := by rw [hy]; exact sw_byt_byt x
    unfold sx_i43 sw_i
    simp only [har, sw_ix hc h0 hn, sx_frc_eq, hb])
theorem sw_o21 (hx : sz_is j i 21 a b = true) {x : Int} (k : sw_ok S j (i + 1) ls (sw_i (sw_byt x) :: st) H Q) : sw_ok S j i ls (sw_i x :: st) H Q :=
  sw_pp (t := none) hx rfl (fun cd pc ln ins h => rfl) (by unfold sw_byt at k; rw [sw_it] at k; exact k)
theorem sw_o35 (hx : sz_is j i 35 a b = true) (k : sw_ok S j a ls st H Q) : sw_ok S j i ls st H Q :=
  sw_pp (t := some a) hx rfl (fun cd pc ln ins h => rfl) k
theorem sw_o45 (hx : sz_is j i 45 a b = true) {q c v : Nat} {z : Int} (ht : sw_ty H q = 8 * c + 9) (hc : sw_c z) (h0 : 0 ≤ z) (hn : z < sw_ln H q) (hv : sw_ty H v = 8 * c + 8) (k : sw_ok S j (i + 1) ls st (sw_sr H q z.toNat v) Q) : sw_ok S j i ls (sw_p v :: sw_i z :: sw_p q :: st) H Q :=
  sw_pl hx rfl (fun h r cd pc ln ins => by
    obtain ⟨k0, l, e, hk, hg, har, hl, hf⟩ := sw_refs r ht
    obtain ⟨k1, fs, e1, hk1, hg1, har1, _⟩ := sw_obj r hv
    refine ⟨none, ls, st, sx_set h k0 (.inr (.inr (.inr (c, sw_ln H q, sx_as none l z.toNat (some (k1 + 1)))))), _, ?_, ?_, sw_ext_sr H q z.toNat v, k⟩
    · subst e1
      show sx_i45 (45, a, b, pc, ln, ins) ls (.ref (k1 + 1) :: sw_i z :: sw_p q :: st) h = _
      unfold sx_i45 sw_i
      simp only [har, hg1, Nat.beq_refl, cond_true, sw_ix hc h0 hn]
    · subst e
      refine sw_rel_upd r hk rfl rfl (fun _ => rfl) (fun _ => rfl) (fun x hx => ⟨rfl, ?_⟩) ?_
      · funext g
        rw [sw_rv_sr, if_neg (fun e => hx e.1)]
      · refine ⟨ht, rfl, hl, fun g hg => ?_⟩
        rw [sw_rv_sr, sx_ag_as]
        by_cases eg : g = z.toNat
        · rw [if_pos ⟨rfl, eg⟩, if_pos eg, e1]
        · rw [if_neg (fun x => eg x.2), if_neg eg]
          exact hf g hg)
theorem sw_o48 (hx : sz_is j i 48 a b = true) {n : Nat} (hn : (sxD a).length = n) (hD : (sxD a).all (fun v => decide (v = .null) || decide (v = .int 0)) = true) (l1 : sw_n H < sxlim.1) (l2 : sw_s H + n ≤ sxlim.2) (k : sw_ext H (sw_nw H (8 * a + 8) n n) → sw_ok S j (i + 1) ls (sw_p (sw_n H + 2) :: st) (sw_nw H (8 * a + 8) n n) Q) : sw_ok S j i ls st H Q :=
  sw_pl hx rfl (fun h r cd pc ln ins => by
    have e1 := r.1
    have e2 := r.2.1
    obtain ⟨r1, x1⟩ := sw_rel_new (c := .inl (a, sxD a)) (t := 8 * a + 8) (n := n) (m := n) r l1 l2 ⟨rfl, hn.symm, fun _ => rfl, fun f v hv => by
      have hm := List.all_eq_true.mp hD v (List.mem_of_getElem? hv)
      have hk : sw_kd v = sw_kd (sx_lg .null (sxD a) f) := by rw [sw_lglo (d := .null) (x := v) (sxD a) f (by rw [sx_lo_eq]; exact hv)]
      rw [Bool.or_eq_true, decide_eq_true_iff, decide_eq_true_iff] at hm
      refine ⟨?_, hk⟩
      rcases hm with e | e
      · subst e; rfl
      · subst e; rfl⟩
    refine ⟨none, ls, _, _, _, ?_, r1, x1 (by omega), k (x1 (by omega))⟩
    show sx_new sxlim ls st h (sxD a).length (.inl (a, sxD a)) = _
    unfold sx_new
    rw [hn, e1, e2, show Nat.blt (sw_n H) sxlim.1 = true from by rw [Nat.blt_eq]; exact l1, show Nat.ble (sw_s H + n) sxlim.2 = true from Nat.ble_eq.mpr l2]
    rfl)
theorem sw_nar {u : Nat} {z : Int} (hx : sz_is j i o a b = true) (ho : Nat.blt o 56 = true) (hs : ∀ cd pc ln ins (h : sx_H), sx_step sxlim sxD S cd o (o, a, b, pc, ln, ins) ls (sw_i z :: st) h = sx_nar sxlim u (o, a, b, pc, ln, ins) ls (sw_i z :: st) h) (hu : u < 3) (hc : sw_c z) (h0 : 0 ≤ z) (h1 : z ≤ 134217728) (l1 : sw_n H < sxlim.1) (l2 : sw_s H + z.toNat ≤ sxlim.2) (k : sw_ext H (sw_nw H (u + 1) z.toNat z.toNat) → sw_ok S j (i + 1) ls (sw_p (sw_n H + 2) :: st) (sw_nw H (u + 1) z.toNat z.toNat) Q) : sw_ok S j i ls (sw_i z :: st) H Q :=
  sw_pl hx ho (fun h r cd pc ln ins => by
    have e1 := r.1
    have e2 := r.2.1
    obtain ⟨r1, x1⟩ := sw_rel_new (c := .inr (.inl (u, z.toNat, []))) (t := u + 1) (n := z.toNat) (m := z.toNat) r l1 l2 ⟨rfl, hu, rfl, by omega, fun f hf => rfl⟩
    refine ⟨none, ls, _, _, _, ?_, r1, x1 (by omega), k (x1 (by omega))⟩
    rw [hs]
    unfold sx_nar sw_i
    simp only [sw_ix hc h0 (by omega : z < (134217729 : Nat))]
    unfold sx_new
    rw [e1, e2, show Nat.blt (sw_n H) sxlim.1 = true from by rw [Nat.blt_eq]; exact l1, show Nat.ble (sw_s H + z.toNat) sxlim.2 = true from Nat.ble_eq.mpr l2]
    rfl)
theorem sw_o49 (hx : sz_is j i 49 a b = true) {z : Int} (hc : sw_c z) (h0 : 0 ≤ z) (h1 : z ≤ 134217728) (l1 : sw_n H < sxlim.1) (l2 : sw_s H + z.toNat ≤ sxlim.2) (k : sw_ext H (sw_nw H 1 z.toNat z.toNat) → sw_ok S j (i + 1) ls (sw_p (sw_n H + 2) :: st) (sw_nw H 1 z.toNat z.toNat) Q) : sw_ok S j i ls (sw_i z :: st) H Q := sw_nar (u := 0) hx rfl (fun _ _ _ _ _ => rfl) (by omega) hc h0 h1 l1 l2 k
theorem sw_o54 (hx : sz_is j i 54 a b = true) {q : Nat} (hc : Nat.ble (st.map fun v => v.category).sum 8 = true) (k : sw_ok S j (i + 1) ls st H Q) : sw_ok S j i ls (sw_p q :: st) H Q :=
  sw_pp (t := none) hx rfl (fun cd pc ln ins h => by
    show (bif Nat.ble (st.map fun v => v.category).sum 8 then some (none, ls, st, h) else none) = _
    rw [hc]
    rfl) k
theorem sw_o55 (hx : sz_is j i 55 a b = true) {q p : Nat} {n dp sp : Int} (hq : sw_ty H q = 1) (hp : sw_ty H p = 1) (hcn : sw_c n) (hcd : sw_c dp) (hcs : sw_c sp) (hn : 0 ≤ n) (hd : 0 ≤ dp) (hs : 0 ≤ sp) (h1 : sp + n ≤ sw_ln H q) (h2 : dp + n ≤ sw_ln H p) (hc : Nat.ble (st.map fun v => v.category).sum 8 = true) (k : sw_ok S j (i + 1) ls st (sw_cp H q sp.toNat p dp.toNat n.toNat) Q) : sw_ok S j i ls (sw_i n :: sw_i dp :: sw_p p :: sw_i sp :: sw_p q :: st) H Q :=
  sw_pl hx rfl (fun h r cd pc ln ins => by
    obtain ⟨k0, l, e, hk, hg, har, hl, hf⟩ := sw_ints (u := 0) r hq (by omega)
    obtain ⟨k1, m, e1, hk1, hg1, har1, hl1, hf1⟩ := sw_ints (u := 0) r hp (by omega)
    refine ⟨none, ls, st, sx_set h k1 (.inr (.inl (0, sw_ln H p, sx_cpy l m sp.toNat dp.toNat n.toNat))), _, ?_, ?_, sw_ext_cp H q sp.toNat p dp.toNat n.toNat, k⟩
    · show sx_i55 (55, a, b, pc, ln, ins) ls (sw_i n :: sw_i dp :: sw_p p :: sw_i sp :: sw_p q :: st) h = _
      unfold sx_i55 sw_i
      simp only [har, har1, sw_ix hcs hs (by omega : sp < (134217729 : Nat)), sw_ix hcd hd (by omega : dp < (134217729 : Nat)), sw_ix hcn hn (by omega : n < (134217729 : Nat)), hc]
      rw [show Nat.ble (sp.toNat + n.toNat) (sw_ln H q) = true from Nat.ble_eq.mpr (by omega), show Nat.ble (dp.toNat + n.toNat) (sw_ln H p) = true from Nat.ble_eq.mpr (by omega)]
      rfl
    · subst e1
      refine sw_rel_upd r hk1 rfl rfl (fun _ => rfl) (fun _ => rfl) (fun x hx => ⟨?_, rfl⟩) ?_
      · funext g
        rw [sw_iv_cp, if_neg (fun e => hx e.1)]
      · refine ⟨hp, by omega, rfl, hl1, fun g hg => ?_⟩
        rw [sw_iv_cp, sw_cpy]
        by_cases eg : dp.toNat ≤ g ∧ g < dp.toNat + n.toNat
        · rw [if_pos ⟨rfl, eg⟩, if_pos eg]
          exact hf _ (by omega)
        · rw [if_neg (fun x => eg x.2), if_neg eg]
          exact hf1 g hg)
end
