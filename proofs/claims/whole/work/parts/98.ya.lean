/-! ===== SR: the reference's methods over its ints alone: I f k: place k of the array in field f; I 1000 f: the int in field f. Its object lies at 1423, its arrays behind it ===== -/
noncomputable def sr_t (f : Nat) : Nat := sx_lg 0 [0, 3, 1, 0, 0, 0, 1, 1, 1, 1, 1, 1, 1, 1, 1, 1, 2, 1, 0, 0, 1, 1, 0, 0, 1, 1, 1, 2, 2, 1, 1, 1, 1, 1, 1, 1, 1, 1, 1, 1, 1, 1, 1, 1, 1, 1, 1, 1, 1, 1, 1, 1, 1, 1, 1, 1, 0, 0, 0, 0, 0, 0, 0, 0, 0, 0, 0, 0, 0, 0, 0, 0, 0, 0, 0, 0, 0, 1, 1, 1, 1, 1, 2, 0, 0, 1, 1, 1, 1, 1, 1, 1, 0, 0, 2, 0, 1, 1, 1, 1, 0, 0, 0, 0, 0, 0, 0, 0, 1, 0, 0, 0, 0, 0, 0, 0, 0, 0, 0, 0, 0] f
noncomputable def sr_l (f : Nat) : Nat := sx_lg 0 [0, 20, 1200, 0, 0, 0, 45000, 45000, 45000, 45000, 45000, 45000, 45000, 45000, 45000, 4096, 45000, 1400000, 0, 0, 24, 24, 0, 0, 300, 300, 362000, 24, 24, 49, 49, 49, 49, 49, 49, 24, 1519, 1519, 1519, 1519, 1519, 1519, 1519, 1519, 1519, 24, 24, 24, 192, 192, 192, 8160, 8160, 960, 960, 6000, 0, 0, 0, 0, 0, 0, 0, 0, 0, 0, 0, 0, 0, 0, 0, 0, 0, 0, 0, 0, 0, 1100, 1100, 1100, 1100, 1100, 1100, 0, 0, 64, 64, 31, 200, 64, 8, 8, 0, 0, 8, 0, 1100, 1100, 1100, 8, 0, 0, 0, 0, 0, 0, 0, 0, 8, 0, 0, 0, 0, 0, 0, 0, 0, 0, 0, 0, 0] f
noncomputable def sr_a (f : Nat) : Nat := sx_lg 0 [0, 1424, 1425, 0, 0, 0, 1426, 1427, 1428, 1429, 1430, 1431, 1432, 1433, 1434, 1435, 1436, 1437, 0, 0, 1438, 1439, 0, 0, 1440, 1441, 1442, 1443, 1444, 1445, 1446, 1447, 1448, 1449, 1450, 1451, 1452, 1453, 1454, 1455, 1456, 1457, 1458, 1459, 1460, 1461, 1462, 1463, 1464, 1465, 1466, 1467, 1468, 1469, 1470, 1471, 0, 0, 0, 0, 0, 0, 0, 0, 0, 0, 0, 0, 0, 0, 0, 0, 0, 0, 0, 0, 0, 1472, 1473, 1474, 1475, 1476, 1477, 0, 0, 1478, 1479, 1480, 1481, 1482, 1483, 1484, 0, 0, 1485, 0, 1486, 1487, 1488, 1489, 0, 0, 0, 0, 0, 0, 0, 0, 1490, 0, 0, 0, 0, 0, 0, 0, 0, 0, 0, 0, 0] f
noncomputable def sr_inv (f : Nat) : Nat := sx_lg 0 [1, 2, 6, 7, 8, 9, 10, 11, 12, 13, 14, 15, 16, 17, 20, 21, 24, 25, 26, 27, 28, 29, 30, 31, 32, 33, 34, 35, 36, 37, 38, 39, 40, 41, 42, 43, 44, 45, 46, 47, 48, 49, 50, 51, 52, 53, 54, 55, 77, 78, 79, 80, 81, 82, 85, 86, 87, 88, 89, 90, 91, 94, 96, 97, 98, 99, 108] f
abbrev sr_V : Type := Nat → Nat → Int
def su (I : sr_V) (f k : Nat) (z : Int) : sr_V := fun g i => if g = f ∧ i = k then z else I g i
def sr_m (H : sw_H) (I : sr_V) : Prop := sw_ty H 1423 = 16 ∧ (∀ f, sw_iv H 1423 f = I 1000 f) ∧ ∀ f, sr_t f ≠ 0 → sw_rv H 1423 f = sr_a f ∧ sw_ty H (sr_a f) = sr_t f ∧ sw_ln H (sr_a f) = sr_l f ∧ ∀ k, sw_iv H (sr_a f) k = I f k
def sr_fr (H G : sw_H) : Prop := sw_n G = sw_n H ∧ sw_s G = sw_s H ∧ (∀ a, sw_ty G a = sw_ty H a ∧ sw_ln G a = sw_ln H a ∧ ∀ f, sw_rv G a f = sw_rv H a f) ∧ ∀ a, a < 1423 ∨ 1490 < a → ∀ f, sw_iv G a f = sw_iv H a f
theorem sr_fr_refl (H : sw_H) : sr_fr H H := ⟨rfl, rfl, fun _ => ⟨rfl, rfl, fun _ => rfl⟩, fun _ _ _ => rfl⟩
theorem sr_fr_trans {H G K : sw_H} (a : sr_fr H G) (b : sr_fr G K) : sr_fr H K := ⟨b.1.trans a.1, b.2.1.trans a.2.1, fun x => ⟨(b.2.2.1 x).1.trans (a.2.2.1 x).1, (b.2.2.1 x).2.1.trans (a.2.2.1 x).2.1, fun f => ((b.2.2.1 x).2.2 f).trans ((a.2.2.1 x).2.2 f)⟩, fun x hx f => (b.2.2.2 x hx f).trans (a.2.2.2 x hx f)⟩
theorem sr_lt {f : Nat} (h : sr_t f ≠ 0) : f < 121 := by
  by_cases c : f < 121
  · exact c
  · exfalso
    apply h
    have : ∀ (l : List Nat) (n : Nat), l.length ≤ n → sx_lg 0 l n = 0 := by
      intro l
      induction l with
      | nil => intro n _; rfl
      | cons a t ih =>
        intro n hn
        cases n with
        | zero => simp at hn
        | succ n => exact ih n (by simpa using hn)
    exact this _ _ (by show 121 ≤ f; omega)
theorem sr_bnd {f : Nat} (h : sr_t f ≠ 0) : 1424 ≤ sr_a f ∧ sr_a f ≤ 1490 ∧ sr_inv (sr_a f - 1424) = f := by
  have key : ∀ f : Fin 121, sr_t f.val ≠ 0 → 1424 ≤ sr_a f.val ∧ sr_a f.val ≤ 1490 ∧ sr_inv (sr_a f.val - 1424) = f.val := by decide +kernel
  exact key ⟨f, sr_lt h⟩ h
theorem sr_inj {f g : Nat} (hf : sr_t f ≠ 0) (hg : sr_t g ≠ 0) (e : sr_a f = sr_a g) : f = g := by rw [← (sr_bnd hf).2.2, ← (sr_bnd hg).2.2, e]
theorem sr_m_ast {H : sw_H} {I : sr_V} (h : sr_m H I) {f k : Nat} (hf : sr_t f ≠ 0) (z : Int) : sr_m (sw_si H (sr_a f) k z) (su I f k z) := by
  have b := sr_bnd hf
  refine ⟨h.1, fun g => ?_, fun g hg => ?_⟩
  · rw [sw_iv_si, if_neg (by omega)]
    show _ = if 1000 = f ∧ g = k then z else I 1000 g
    rw [if_neg (by have := sr_lt hf; omega)]
    exact h.2.1 g
  · obtain ⟨h1, h2, h3, h4⟩ := h.2.2 g hg
    refine ⟨h1, h2, h3, fun i => ?_⟩
    rw [sw_iv_si]
    show _ = if g = f ∧ i = k then z else I g i
    by_cases c : g = f
    · subst c
      by_cases c2 : i = k
      · rw [if_pos ⟨rfl, c2⟩, if_pos ⟨rfl, c2⟩]
      · rw [if_neg (fun e => c2 e.2), if_neg (fun e => c2 e.2)]
        exact h4 i
    · rw [if_neg (fun e => c (sr_inj hg hf e.1)), if_neg (fun e => c e.1)]
      exact h4 i
theorem sr_m_put {H : sw_H} {I : sr_V} (h : sr_m H I) {f : Nat} (z : Int) : sr_m (sw_si H 1423 f z) (su I 1000 f z) := by
  refine ⟨h.1, fun g => ?_, fun g hg => ?_⟩
  · rw [sw_iv_si]
    show _ = if 1000 = 1000 ∧ g = f then z else I 1000 g
    by_cases c : g = f
    · rw [if_pos ⟨rfl, c⟩, if_pos ⟨rfl, c⟩]
    · rw [if_neg (fun e => c e.2), if_neg (fun e => c e.2)]
      exact h.2.1 g
  · obtain ⟨h1, h2, h3, h4⟩ := h.2.2 g hg
    have b := sr_bnd hg
    refine ⟨h1, h2, h3, fun i => ?_⟩
    rw [sw_iv_si, if_neg (by omega)]
    show _ = if g = 1000 ∧ i = f then z else I g i
    rw [if_neg (by have := sr_lt hg; omega)]
    exact h4 i
theorem sr_fr_si {H : sw_H} {a f : Nat} (z : Int) (ha : 1423 ≤ a ∧ a ≤ 1490) : sr_fr H (sw_si H a f z) := ⟨rfl, rfl, fun _ => ⟨rfl, rfl, fun _ => rfl⟩, fun x hx g => by rw [sw_iv_si, if_neg (by omega)]⟩
theorem sr_fr_ext {H G : sw_H} (h : sr_fr H G) : sw_ext H G := ⟨by rw [h.1]; exact Nat.le_refl _, fun a _ => ⟨(h.2.2.1 a).1, (h.2.2.1 a).2.1⟩⟩
abbrev sr_Q : Type := Option Value ⊕ Nat → sr_V → Prop
def sr_q0 (Q : sr_V → Prop) : sr_Q := fun r J => match r with
  | .inl none => Q J
  | _ => False
def sr_q1 (Q : Int → sr_V → Prop) : sr_Q := fun r J => match r with
  | .inl (some (.int x)) => Q x.toInt J
  | _ => False
abbrev sr_p (H : sw_H) (Q : sr_Q) : sw_Q := fun r G => ∃ J, sr_m G J ∧ sr_fr H G ∧ Q r J
def sr_ok (S : List Int32) (j i : Nat) (ls : sx_L) (st : List Value) (I : sr_V) (Q : sr_Q) : Prop := ∀ H, sr_m H I → sw_ok S j i ls st H (sr_p H Q)
section
variable {S : List Int32} {j i a b o : Nat} {ls : sx_L} {st : List Value} {H H0 : sw_H} {I : sr_V} {Q : sw_Q} {R : sr_Q} {M N : sx_Mt} {as rest : List Value}
theorem sr_go (hf : sr_ok S j i ls st I R) (hm : sr_m H I) (fr : sr_fr H0 H) : sw_ok S j i ls st H (sr_p H0 R) := sw_mono (hf H hm) (fun r G _ q => by
  obtain ⟨J, q1, q2, q3⟩ := q
  exact ⟨J, q1, sr_fr_trans fr q2, q3⟩)
theorem sr_geti (hx : sz_is j i 46 1 b = true) (hd : sx_lo (sxD 1) b = some (.int 0)) (hm : sr_m H I) (k : ∀ v, v = I 1000 b → sw_c v → sw_ok S j (i + 1) ls (sw_i v :: st) H Q) : sw_ok S j i ls (sw_p 1423 :: st) H Q :=
  sw_o46i hx hm.1 (by decide) hd (fun v e c => k v (e.trans (hm.2.1 b)) c)
theorem sr_geta (hx : sz_is j i 46 1 b = true) (hd : sx_lo (sxD 1) b = some .null) {d : Nat} (ht : sr_t b = d + 1) (hm : sr_m H I) (k : sw_ok S j (i + 1) ls (sw_p (sr_a b) :: st) H Q) : sw_ok S j i ls (sw_p 1423 :: st) H Q := by
  obtain ⟨h1, h2, h3, h4⟩ := hm.2.2 b (by rw [ht]; exact Nat.succ_ne_zero d)
  exact sw_o46r (d := d) hx hm.1 (by decide) hd (by rw [h1, h2, ht]) (fun v e => by rw [e, h1]; exact k)
theorem sr_ald (hx : sz_is j i 38 a b = true) {f n : Nat} {z : Int} (ht : sr_t f = 1) (hl : sr_l f = n) (hm : sr_m H I) (hc : sw_c z) (h0 : 0 ≤ z) (hn : z < (n : Int)) (k : ∀ v, v = I f z.toNat → sw_c v → sw_ok S j (i + 1) ls (sw_i v :: st) H Q) : sw_ok S j i ls (sw_i z :: sw_p (sr_a f) :: st) H Q := by
  obtain ⟨h1, h2, h3, h4⟩ := hm.2.2 f (by rw [ht]; decide)
  exact sw_o38 hx (by rw [h2, ht]) hc h0 (by rw [h3, hl]; exact hn) (fun v e c => k v (e.trans (h4 _)) c)
theorem sr_ald2 (hx : sz_is j i 39 a b = true) {f n u : Nat} {z : Int} (ht : sr_t f = u + 2) (hu : u < 2) (hl : sr_l f = n) (hm : sr_m H I) (hc : sw_c z) (h0 : 0 ≤ z) (hn : z < (n : Int)) (k : ∀ v, v = I f z.toNat → sw_c v → sw_ok S j (i + 1) ls (sw_i v :: st) H Q) : sw_ok S j i ls (sw_i z :: sw_p (sr_a f) :: st) H Q := by
  obtain ⟨h1, h2, h3, h4⟩ := hm.2.2 f (by rw [ht]; omega)
  exact sw_o39 hx (by rw [h2, ht]) hu hc h0 (by rw [h3, hl]; exact hn) (fun v e c => k v (e.trans (h4 _)) c)
theorem sr_ast (hx : sz_is j i 42 a b = true) {f n : Nat} {z y : Int} (ht : sr_t f = 1) (hl : sr_l f = n) (hm : sr_m H I) (hc : sw_c z) (h0 : 0 ≤ z) (hn : z < (n : Int)) (hy : sw_c y) (k : ∀ G J, J = su I f z.toNat y → sr_m G J → sr_fr H G → sw_ok S j (i + 1) ls st G Q) : sw_ok S j i ls (sw_i y :: sw_i z :: sw_p (sr_a f) :: st) H Q := by
  have hf : sr_t f ≠ 0 := by rw [ht]; decide
  have b := sr_bnd hf
  obtain ⟨h1, h2, h3, h4⟩ := hm.2.2 f hf
  exact sw_o42 hx (by rw [h2, ht]) hc h0 (by rw [h3, hl]; exact hn) hy (k _ _ rfl (sr_m_ast hm hf y) (sr_fr_si y (by omega)))
theorem sr_asb (hx : sz_is j i 43 a b = true) {f n : Nat} {z y : Int} (ht : sr_t f = 2) (hl : sr_l f = n) (hm : sr_m H I) (hc : sw_c z) (h0 : 0 ≤ z) (hn : z < (n : Int)) (hy : y = 0 ∨ y = 1) (k : ∀ G J, J = su I f z.toNat y → sr_m G J → sr_fr H G → sw_ok S j (i + 1) ls st G Q) : sw_ok S j i ls (sw_i y :: sw_i z :: sw_p (sr_a f) :: st) H Q := by
  have hf : sr_t f ≠ 0 := by rw [ht]; decide
  have b := sr_bnd hf
  obtain ⟨h1, h2, h3, h4⟩ := hm.2.2 f hf
  exact sw_o43b hx (by rw [h2, ht]) hc h0 (by rw [h3, hl]; exact hn) hy (k _ _ rfl (sr_m_ast hm hf y) (sr_fr_si y (by omega)))
theorem sr_asy (hx : sz_is j i 43 a b = true) {f n : Nat} {z y : Int} (ht : sr_t f = 3) (hl : sr_l f = n) (hm : sr_m H I) (hc : sw_c z) (h0 : 0 ≤ z) (hn : z < (n : Int)) (hy : ∃ x, y = sw_byt x) (k : ∀ G J, J = su I f z.toNat y → sr_m G J → sr_fr H G → sw_ok S j (i + 1) ls st G Q) : sw_ok S j i ls (sw_i y :: sw_i z :: sw_p (sr_a f) :: st) H Q := by
  have hf : sr_t f ≠ 0 := by rw [ht]; decide
  have b := sr_bnd hf
  obtain ⟨h1, h2, h3, h4⟩ := hm.2.2 f hf
  exact sw_o43y hx (by rw [h2, ht]) hc h0 (by rw [h3, hl]; exact hn) hy (k _ _ rfl (sr_m_ast hm hf y) (sr_fr_si y (by omega)))
theorem sr_puti (hx : sz_is j i 47 1 b = true) {f : Nat} {z : Int} (hd : sx_lo (sxD 1) f = some (.int 0)) (hb : b = 1000 * 0 + f) (hf : f < 1000) (hm : sr_m H I) (hz : sw_c z) (k : ∀ G J, J = su I 1000 f z → sr_m G J → sr_fr H G → sw_ok S j (i + 1) ls st G Q) : sw_ok S j i ls (sw_i z :: sw_p 1423 :: st) H Q :=
  sw_o47i hx hm.1 (by decide) hd hb hf hz (k _ _ rfl (sr_m_put hm z) (sr_fr_si z (by omega)))
theorem sr_putb (hx : sz_is j i 47 1 b = true) {f : Nat} {z : Int} (hd : sx_lo (sxD 1) f = some (.int 0)) (hb : b = 1000 * 1 + f) (hf : f < 1000) (hm : sr_m H I) (hz : z = 0 ∨ z = 1) (k : ∀ G J, J = su I 1000 f z → sr_m G J → sr_fr H G → sw_ok S j (i + 1) ls st G Q) : sw_ok S j i ls (sw_i z :: sw_p 1423 :: st) H Q :=
  sw_o47b hx hm.1 (by decide) hd hb hf hz (k _ _ rfl (sr_m_put hm z) (sr_fr_si z (by omega)))
theorem sr_v0 (hx : sz_is j i o a b = true) (h1 : Nat.blt o 56 = false) (h2 : Nat.blt o 59 = true) (hP : sxP j = some M) (hM : M.2.2.2.1 = []) (hN : sxP a = some N) (hargs : sx_args b st [] = some (as, rest)) (hc : (Nat.ble (rest.map fun v => v.category).sum 8 && as.all (fun v => Nat.beq v.category 1)) = true) (hr : ∀ h, sw_rel S H h → sx_recv o N.2.1 h as = true) (hm : sr_m H I) {q0 : sr_V → Prop} (hf : sr_ok S a 0 (sx_locs as 0) [] I (sr_q0 q0)) (k : ∀ G J, sr_m G J → sr_fr H G → q0 J → sw_ok S j (i + 1) ls rest G Q) : sw_ok S j i ls st H Q :=
  sw_call hx h1 h2 hP hM hN hargs hc hr (hf H hm) (fun v G x q => by
    obtain ⟨J, m1, m2, q⟩ := q
    match v, q with
    | none, q => exact k G J m1 m2 q) (fun x G e q => by
    obtain ⟨J, m1, m2, q⟩ := q
    exact q.elim)
theorem sr_v1 (hx : sz_is j i o a b = true) (h1 : Nat.blt o 56 = false) (h2 : Nat.blt o 59 = true) (hP : sxP j = some M) (hM : M.2.2.2.1 = []) (hN : sxP a = some N) (hargs : sx_args b st [] = some (as, rest)) (hc : (Nat.ble (rest.map fun v => v.category).sum 8 && as.all (fun v => Nat.beq v.category 1)) = true) (hr : ∀ h, sw_rel S H h → sx_recv o N.2.1 h as = true) (hm : sr_m H I) {q1 : Int → sr_V → Prop} (hf : sr_ok S a 0 (sx_locs as 0) [] I (sr_q1 q1)) (k : ∀ z G J, sw_c z → sr_m G J → sr_fr H G → q1 z J → sw_ok S j (i + 1) ls (sw_i z :: rest) G Q) : sw_ok S j i ls st H Q :=
  sw_call hx h1 h2 hP hM hN hargs hc hr (hf H hm) (fun v G x q => by
    obtain ⟨J, m1, m2, q⟩ := q
    match v, q with
    | some (.int z), q =>
      have := k z.toInt G J (sw_c_to z) m1 m2 q
      rw [sw_it] at this
      exact this) (fun x G e q => by
    obtain ⟨J, m1, m2, q⟩ := q
    exact q.elim)
theorem sr_r0 (hx : sz_is j i 59 a b = true) (hP : sxP j = some M) (hM : M.2.2.1 = 0) (hm : sr_m H I) (fr : sr_fr H0 H) {q0 : sr_V → Prop} (k : q0 I) : sw_ok S j i ls [] H (sr_p H0 (sr_q0 q0)) :=
  sw_mono (sw_o59 (q0 := fun G => G = H) (ef := fun _ _ => False) hx hP hM rfl) (fun r G _ q => by
    match r, q with
    | .inl none, q => exact ⟨I, by rw [q]; exact hm, by rw [q]; exact fr, k⟩)
theorem sr_r1 (hx : sz_is j i 60 a b = true) (hP : sxP j = some M) (hM : M.2.2.1 = 1) (hm : sr_m H I) (fr : sr_fr H0 H) {q1 : Int → sr_V → Prop} {z : Int} (hz : sw_c z) (k : q1 z I) : sw_ok S j i ls [sw_i z] H (sr_p H0 (sr_q1 q1)) :=
  sw_mono (sw_o60 (q1 := fun y G => y = z ∧ G = H) (ef := fun _ _ => False) hx hP hM hz ⟨rfl, rfl⟩) (fun r G _ q => by
    match r, q with
    | .inl (some (.int x)), q =>
      have q : x.toInt = z ∧ G = H := q
      exact ⟨I, by rw [q.2]; exact hm, by rw [q.2]; exact fr, by show q1 x.toInt I; rw [q.1]; exact k⟩)
theorem sr_r1b (hx : sz_is j i 60 a b = true) (hP : sxP j = some M) (hM : M.2.2.1 = 2) (hm : sr_m H I) (fr : sr_fr H0 H) {q1 : Int → sr_V → Prop} {z : Int} (hz : z = 0 ∨ z = 1) (k : q1 z I) : sw_ok S j i ls [sw_i z] H (sr_p H0 (sr_q1 q1)) :=
  sw_mono (sw_o60b (q1 := fun y G => y = z ∧ G = H) (ef := fun _ _ => False) hx hP hM hz ⟨rfl, rfl⟩) (fun r G _ q => by
    match r, q with
    | .inl (some (.int x)), q =>
      have q : x.toInt = z ∧ G = H := q
      exact ⟨I, by rw [q.2]; exact hm, by rw [q.2]; exact fr, by show q1 x.toInt I; rw [q.1]; exact k⟩)
end
