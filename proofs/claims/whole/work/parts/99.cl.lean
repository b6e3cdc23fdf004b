/-! ===== the reference: isSigned, isMac ===== -/
noncomputable section
variable {I J : sr_V} {nn fr : Nat} {K : Wt → Prop} {tl mk mm l L1 L2 : List Wt} {t key x y to m : Int} {Q : Int → sr_V → Prop} {R : sr_V → Prop} {w g p : Wt}
/-- the row of a term -/
theorem m_L_rw (hL : m_L I mk nn K tl) (ht : w_at mk t g) : 1 ≤ t ∧ t ≤ I 1000 4 ∧ I 1000 4 ≤ 44999 ∧ m_rw I (w_d mk) nn t.toNat ∧ w_d mk t.toNat = g ∧ I 1000 5 ≤ 1400000 := by
  obtain ⟨T, hK, hN, h4, h5⟩ := hL
  obtain ⟨a, b⟩ := w_at_le ht
  have e : (t.toNat : Int) = t := by omega
  exact ⟨a, by omega, T.2.1, T.2.2.2.2.1 t.toNat (by omega) (by omega), w_at_d ht, T.2.2.2.1⟩
/-- a term that is MAC or SIGNED: its key and its signs -/
theorem m_part_iff {st : Nat} {wk : Wt} {k0 : Int} {sg : List Int} {L : List Wt} (hst : st = 2 ∨ st = 7) (hL : m_L I mk nn K tl) (ht : w_at mk t g) (hk : w_at mk k0 wk) (hv : ∀ x ∈ sg, m_vs mk.length x) (hs : sg.map (w_sg (w_d mk)) = L) : g = w_t st wk [] [] L ↔ (I 6 t.toNat = st ∧ I 7 t.toNat = k0 ∧ m_sn I t.toNat = sg) := by
  obtain ⟨t1, t2, t3, rw', eg, _⟩ := m_L_rw hL ht
  obtain ⟨va, f0, f1, f2, hsn, hd, hn⟩ := rw'
  have T := hL.1
  have e4 := hL.2.2.2.1
  have sn : ∀ x ∈ m_sn I t.toNat, m_vs (I 1000 4) x := fun x hx => m_vs_up (by omega) (hsn x hx)
  have kle := w_at_le hk
  have kd := w_at_d hk
  have dk : w_dz (w_d mk) k0 = wk := by unfold w_dz; rw [if_neg (by omega)]; exact kd
  have va2 : 0 ≤ I 6 t.toNat ∧ I 6 t.toNat ≤ 8 ∧ 0 ≤ I 7 t.toNat ∧ I 7 t.toNat ≤ I 1000 4 ∧ (I 6 t.toNat = 2 ∨ I 6 t.toNat = 5 ∨ I 6 t.toNat = 7 → 1 ≤ I 7 t.toNat ∧ I 8 t.toNat = 0 ∧ I 9 t.toNat = 0) := by
    obtain ⟨v0, v1, v2, v3, v4, v5, v6, v7, v8, v9, v10, _⟩ := va
    exact ⟨v0, v1, v2, by omega, v10⟩
  clear va
  obtain ⟨v0, v1, v2, v3, v10⟩ := va2
  have form : I 6 t.toNat = st → g = w_t st (w_dz (w_d mk) (I 7 t.toNat)) [] [] ((m_sn I t.toNat).map (w_sg (w_d mk))) := by
    clear hn
    intro c
    obtain ⟨w1, w2, w3⟩ := v10 (by omega)
    rw [← eg, hd (by omega), c, w2, w3]
    unfold w_tm w_t
    have c3 : ¬ ((st : Int) = 3) := by omega
    rw [if_neg c3, Int.toNat_natCast]
    rfl
  constructor
  · intro h
    have c : I 6 t.toNat = st := by
      by_cases c8 : I 6 t.toNat = 8
      · obtain ⟨i, _, hi⟩ := hn c8
        rw [eg, h] at hi
        have := (w_mk_inj hi).1
        omega
      · have hd := hd c8
        rw [eg, h] at hd
        have := (w_mk_inj hd).1
        omega
    have fm := form c
    rw [h] at fm
    obtain ⟨_, fm⟩ := w_mk_inj fm
    simp only [List.cons.injEq, true_and] at fm
    obtain ⟨f1, f2⟩ := fm
    refine ⟨c, ?_, ?_⟩
    · exact (m_dz_inj T (by omega) (by omega) v2 v3 (by rw [dk]; exact f1)).symm
    · refine (m_sgs_inj T _ _ (fun x hx => by rw [e4]; exact hv x hx) sn ?_).symm
      rw [hs]; exact f2
  · rintro ⟨c, c1, c2⟩
    rw [form c, c1, dk, c2, hs]
theorem m_two {f : Nat → Int} {a n1 n2 : Nat} {u v : List Int} (h1 : u.length = n1) (h2 : v.length = n2) : m_sl f a (n1 + n2) = u ++ v ↔ (∀ i, i < n1 → u[i]? = some (f (a + i))) ∧ ∀ i, i < n2 → v[i]? = some (f (a + n1 + i)) := by
  constructor
  · intro h
    refine ⟨fun i hi => ?_, fun i hi => ?_⟩
    · have := m_sl_at (f := f) (a := a) (n := n1 + n2) (k := i) (by omega)
      rw [h, List.getElem?_append_left (by omega)] at this
      exact this
    · have := m_sl_at (f := f) (a := a) (n := n1 + n2) (k := n1 + i) (by omega)
      rw [h, List.getElem?_append_right (by omega), h1, Nat.add_sub_cancel_left, ← Nat.add_assoc] at this
      exact this
  · rintro ⟨ha, hb⟩
    refine List.ext_getElem? (fun i => ?_)
    by_cases c : i < n1 + n2
    · rw [m_sl_at c]
      by_cases c1 : i < n1
      · rw [List.getElem?_append_left (by omega)]
        exact (ha i c1).symm
      · rw [List.getElem?_append_right (by omega), h1]
        have := hb (i - n1) (by omega)
        rw [this]
        have e : a + n1 + (i - n1) = a + i := by omega
        rw [e]
    · rw [List.getElem?_eq_none (by rw [m_sl_len]; omega), List.getElem?_eq_none (by rw [List.length_append]; omega)]
theorem r_sig_75 {x4 x5 : Int} {n1 n2 f : Nat} (hf : f + n1 + n2 ≤ 1400000) (h2 : n2 ≤ 6000) (e45 : x5 - x4 = n1) (b4 : 0 ≤ x4) (b5 : x5 ≤ 362000) (q1 : (∀ i, i < n2 → I 17 (f + n1 + i) = I 55 i) → Q 1 I) (q0 : (¬ ∀ i, i < n2 → I 17 (f + n1 + i) = I 55 i) → Q 0 I) : ∀ (n k : Nat), k ≤ n2 → n2 - k < n → (∀ i, i < k → I 17 (f + n1 + i) = I 55 i) → rl_218_75 Q n x4 x5 n2 f k I
  | 0, _, _, h, _ => by omega
  | n + 1, k, hk, hn, inv => by
    unfold rl_218_75
    refine ⟨fun c => q1 (fun i hi => inv i (by omega)), fun c => ?_⟩
    rw [sw_w_s (z := (f : Int) + x5) (by omega) (by omega), sw_w_s (z := (f : Int) + x5 - x4) (by omega) (by omega), show (f : Int) + x5 - x4 = ((f + n1 : Nat) : Int) by omega, sw_w_s (by omega) (by omega), show ((f + n1 : Nat) : Int) + (k : Int) = ((f + n1 + k : Nat) : Int) by omega]
    refine ⟨by omega, by omega, ?_⟩
    intro v1 e1 _
    rw [Int.toNat_natCast] at e1
    refine ⟨by omega, by omega, ?_⟩
    intro v4 e4 _
    rw [Int.toNat_natCast] at e4
    refine ⟨fun c1 => ?_, fun c1 => q0 (fun h => c1 (by rw [e1, e4]; exact h k (by omega)))⟩
    intro y7 e7
    rw [e7, sw_w_s (by omega) (by omega), show (k : Int) + 1 = ((k + 1 : Nat) : Int) by omega]
    refine r_sig_75 hf h2 e45 b4 b5 q1 q0 n (k + 1) (by omega) (by omega) (fun i hi => ?_)
    by_cases ci : i = k
    · rw [ci, ← e1, ← e4]; exact c1
    · exact inv i (by omega)
theorem r_sig_51 {x4 x5 : Int} {n1 n2 f fr : Nat} (hf : f + n1 + n2 ≤ 1400000) (h2 : n2 ≤ 6000) (e4 : x4 = fr) (e45 : x5 = ((fr + n1 : Nat) : Int)) (b5 : x5 ≤ 362000) (q1 : (∀ i, i < n1 → I 17 (f + i) = I 26 (fr + i)) → (∀ i, i < n2 → I 17 (f + n1 + i) = I 55 i) → Q 1 I) (q0 : (¬ ((∀ i, i < n1 → I 17 (f + i) = I 26 (fr + i)) ∧ ∀ i, i < n2 → I 17 (f + n1 + i) = I 55 i)) → Q 0 I) : ∀ (n k : Nat), k ≤ n1 → n1 - k < n → (∀ i, i < k → I 17 (f + i) = I 26 (fr + i)) → rl_218_51 Q n x4 x5 n2 f k I
  | 0, _, _, h, _ => by omega
  | n + 1, k, hk, hn, inv => by
    unfold rl_218_51
    rw [sw_w_s (z := x5 - x4) (by omega) (by omega)]
    refine ⟨fun c => ⟨n2 + 1, ?_⟩, fun c => ?_⟩
    · have inv' : ∀ i, i < n1 → I 17 (f + i) = I 26 (fr + i) := fun i hi => inv i (by omega)
      exact r_sig_75 (n1 := n1) hf h2 (by omega) (by omega) b5 (fun h => q1 inv' h) (fun h => q0 (fun g => h g.2)) (n2 + 1) 0 (by omega) (by omega) (fun i hi => by omega)
    · rw [sw_w_s (by omega) (by omega), show (f : Int) + (k : Int) = ((f + k : Nat) : Int) by omega]
      refine ⟨by omega, by omega, ?_⟩
      intro v1 e1 _
      rw [Int.toNat_natCast] at e1
      rw [sw_w_s (by omega) (by omega), show x4 + (k : Int) = ((fr + k : Nat) : Int) by omega]
      refine ⟨by omega, by omega, ?_⟩
      intro v2 e2 _
      rw [Int.toNat_natCast] at e2
      refine ⟨fun c1 => ?_, fun c1 => q0 (fun h => c1 (by rw [e1, e2]; exact h.1 k (by omega)))⟩
      intro y7 e7
      rw [e7, sw_w_s (by omega) (by omega), show (k : Int) + 1 = ((k + 1 : Nat) : Int) by omega]
      refine r_sig_51 hf h2 e4 e45 b5 q1 q0 n (k + 1) (by omega) (by omega) (fun i hi => ?_)
      by_cases ci : i = k
      · rw [ci, ← e1, ← e2]; exact c1
      · exact inv i (by omega)
theorem r_isSigned (hL : m_L I mk nn K tl) (hM : m_me I mk) (ht : w_at mk t g) (hk : w_at mk key p) (ha : m_at mk.length (w_d mk) (I 26) fr L1) (hb : fr + L1.length ≤ 362000) (hr : m_rr I mk L2) (hl : L2.length ≤ 6000) (eto : to = ((fr + L1.length : Nat) : Int)) (q : ∀ z J, ((z = 1 ∧ w_sok m p g (L1 ++ L2)) ∨ (z = 0 ∧ ¬ w_sok m p g (L1 ++ L2))) → m_L J mk nn K tl → m_rr J mk [] → m_fr [55] [56] I J → Q z J) : rm_218 t m key fr to I Q := by
  have r2 := m_rr_len hr
  obtain ⟨t1, t2, t3, rw', eg, t5⟩ := m_L_rw hL ht
  have f10 : 0 ≤ I 10 t.toNat := rw'.2.1
  have f11 : 0 ≤ I 11 t.toNat := rw'.2.2.1
  have f12 : I 10 t.toNat + I 11 t.toNat ≤ I 1000 5 := rw'.2.2.2.1
  clear rw'
  obtain ⟨i1, i2⟩ := m_sl_mapA ha
  have nd := m_L_nd hL
  have iff7 : ∀ k : Nat, k < 24 → (g = w_t 7 (w_nm k) [] [] (L1 ++ L2) ↔ (I 6 t.toNat = 7 ∧ I 7 t.toNat = I 20 k ∧ m_sn I t.toNat = m_sl (I 26) fr L1.length ++ m_row I)) := by
    intro k hk24
    refine m_part_iff (st := 7) (Or.inr rfl) hL ht (hM k hk24).1 (fun x hx => ?_) (by rw [List.map_append, i1, hr.2.2])
    rw [List.mem_append] at hx
    rcases hx with hx | hx
    · exact i2 x hx
    · exact hr.2.1 x hx
  unfold rm_218
  intro v28 e28 _ I35 e35
  have fr35 : m_fr [55] [56] I I35 := by rw [e35]; exact m_fr_sub (m_su_fr (F := [56]) (by simp)) (by simp) (by simp)
  have L35 : m_L I35 mk nn K tl := m_f0_L hL fr35
  have r35 : m_rr I35 mk [] := m_rr_0 (by rw [e35, su_eq])
  have sa : ∀ f k, f ≠ 1000 → I35 f k = I f k := fun f k hf => by rw [e35, su_f (by omega)]
  have no : ¬ w_sok m p g (L1 ++ L2) → Q 0 I35 := fun h => q 0 I35 (Or.inr ⟨rfl, h⟩) L35 r35 fr35
  refine ⟨fun c => no (fun h => by have := h.1; omega), fun c => ⟨fun c1 => no (fun h => by have := h.2.1; omega), fun c1 => ⟨c, c1, ?_⟩⟩⟩
  obtain ⟨k, ek⟩ : ∃ k : Nat, m = k := ⟨m.toNat, by omega⟩
  subst ek
  have k24 : k < 24 := by omega
  obtain ⟨me1, me2⟩ := hM k k24
  intro v39 e39 _
  rw [sa _ _ (by decide), Int.toNat_natCast] at e39
  have pk : key = I 21 k ↔ p = w_pub k := ⟨fun h => by
      rw [h] at hk
      have h1 := w_at_d hk
      rw [w_at_d me2] at h1
      exact h1.symm, fun h => by rw [h] at hk; exact w_at_inj nd hk me2⟩
  refine ⟨fun c2 => no (fun h => c2 (by rw [e39]; exact pk.mpr (by have := h.2.2.1; rw [Int.toNat_natCast] at this; exact this))), fun c2 => ⟨by omega, by omega, ?_⟩⟩
  have pk' := pk.mp (by rw [← e39]; exact c2)
  have no7 : ¬ (I 6 t.toNat = 7 ∧ I 7 t.toNat = I 20 k ∧ m_sn I t.toNat = m_sl (I 26) fr L1.length ++ m_row I) → Q 0 I35 := fun h => no (fun g => h ((iff7 k k24).mp (by have := g.2.2.2; rw [Int.toNat_natCast] at this; exact this)))
  intro v42 e42 _
  rw [sa _ _ (by decide)] at e42
  refine ⟨fun c3 => no7 (fun h => c3 (by rw [e42]; exact h.1)), fun c3 => ⟨by omega, by omega, ?_⟩⟩
  intro v45 e45 _
  rw [sa _ _ (by decide)] at e45
  refine ⟨by omega, by omega, ?_⟩
  intro v48 e48 _
  rw [sa _ _ (by decide), Int.toNat_natCast] at e48
  refine ⟨fun c4 => no7 (fun h => c4 (by rw [e45, e48]; exact h.2.1)), fun c4 => ⟨by omega, by omega, ?_⟩⟩
  intro v51 e51 _
  rw [sa _ _ (by decide)] at e51
  have rl : (m_row I).length = L2.length := by rw [m_row_len]; omega
  have el : sw_w ((sw_w (to - (fr : Int))) + v28) = ((L1.length + L2.length : Nat) : Int) := by
    rw [sw_w_s (z := to - (fr : Int)) (by omega) (by omega), sw_w_s (by omega) (by omega)]
    omega
  rw [el]
  have snl : (m_sn I t.toNat).length = (I 11 t.toNat).toNat := m_sl_len _ _ _
  refine ⟨fun c5 => ⟨by omega, by omega, ?_⟩, fun c5 => no7 (fun h => c5 ?_)⟩
  · intro v54 e54 _
    rw [sa _ _ (by decide)] at e54
    have en : (I 11 t.toNat).toNat = L1.length + L2.length := by omega
    have s17 : ∀ i, I35 17 i = I 17 i := fun i => sa _ _ (by decide)
    have s26 : ∀ i, I35 26 i = I 26 i := fun i => sa _ _ (by decide)
    have s55 : ∀ i, I35 55 i = I 55 i := fun i => sa _ _ (by decide)
    obtain ⟨f, ef⟩ : ∃ f : Nat, I 10 t.toNat = f := ⟨(I 10 t.toNat).toNat, by omega⟩
    rw [e54, ef]
    have eq3 : m_sn I t.toNat = m_sl (I 26) fr L1.length ++ m_row I ↔ (∀ i, i < L1.length → I 17 (f + i) = I 26 (fr + i)) ∧ ∀ i, i < L2.length → I 17 (f + L1.length + i) = I 55 i := by
      unfold m_sn
      rw [en, ef, Int.toNat_natCast, m_two (m_sl_len _ _ _) rl]
      refine and_congr ⟨fun h i hi => ?_, fun h i hi => ?_⟩ ⟨fun h i hi => ?_, fun h i hi => ?_⟩
      · have := h i hi
        rw [m_sl_at hi] at this
        exact (Option.some.inj this).symm
      · rw [m_sl_at hi, h i hi]
      · have := h i hi
        rw [m_row_at (by omega)] at this
        exact (Option.some.inj this).symm
      · rw [m_row_at (by omega), h i hi]
    refine ⟨L1.length + 1, ?_⟩
    have e28' : v28 = ((L2.length : Nat) : Int) := by omega
    rw [e28']
    refine r_sig_51 (n1 := L1.length) (n2 := L2.length) (fr := fr) (by omega) hl rfl eto (by omega) (fun h1 h2 => ?_) (fun h => no7 (fun g => h ?_)) (L1.length + 1) 0 (by omega) (by omega) (fun i hi => by omega)
    · refine q 1 I35 (Or.inl ⟨rfl, by omega, by omega, by rw [Int.toNat_natCast]; exact pk', ?_⟩) L35 r35 fr35
      rw [Int.toNat_natCast]
      refine (iff7 k k24).mpr ⟨by rw [← e42]; exact c3, by rw [← e45, ← e48]; exact c4, eq3.mpr ⟨fun i hi => ?_, fun i hi => ?_⟩⟩
      · have := h1 i hi
        rw [s17, s26] at this; exact this
      · have := h2 i hi
        rw [s17, s55] at this; exact this
    · obtain ⟨g1, g2⟩ := eq3.mp g.2.2
      exact ⟨fun i hi => by rw [s17, s26]; exact g1 i hi, fun i hi => by rw [s17, s55]; exact g2 i hi⟩
  · rw [h.2.2, List.length_append, m_sl_len, rl] at snl
    omega
theorem r_mac_l {n1 f fr : Nat} {x3 x4 : Int} (h1 : 0 ≤ t) (h2 : t < 45000) (e10 : I 10 t.toNat = f) (hf : f + n1 ≤ 1400000) (e4 : x3 = fr) (e45 : x4 = ((fr + n1 : Nat) : Int)) (b5 : x4 ≤ 362000) (q1 : (∀ i, i < n1 → I 17 (f + i) = I 26 (fr + i)) → Q 1 I) (q0 : (¬ ∀ i, i < n1 → I 17 (f + i) = I 26 (fr + i)) → Q 0 I) : ∀ (n k : Nat), k ≤ n1 → n1 - k < n → (∀ i, i < k → I 17 (f + i) = I 26 (fr + i)) → rl_220_24 Q n t x3 x4 k I
  | 0, _, _, h, _ => by omega
  | n + 1, k, hk, hn, inv => by
    unfold rl_220_24
    rw [sw_w_s (z := x4 - x3) (by omega) (by omega)]
    refine ⟨fun c => q1 (fun i hi => inv i (by omega)), fun c => ⟨h1, h2, ?_⟩⟩
    intro v1 e1 _
    rw [e10] at e1
    rw [e1, sw_w_s (by omega) (by omega), show (f : Int) + (k : Int) = ((f + k : Nat) : Int) by omega]
    refine ⟨by omega, by omega, ?_⟩
    intro v2 e2 _
    rw [Int.toNat_natCast] at e2
    rw [sw_w_s (by omega) (by omega), show x3 + (k : Int) = ((fr + k : Nat) : Int) by omega]
    refine ⟨by omega, by omega, ?_⟩
    intro v3 e3 _
    rw [Int.toNat_natCast] at e3
    refine ⟨fun c1 => ?_, fun c1 => q0 (fun h => c1 (by rw [e2, e3]; exact h k (by omega)))⟩
    intro y7 e7
    rw [e7, sw_w_s (by omega) (by omega), show (k : Int) + 1 = ((k + 1 : Nat) : Int) by omega]
    refine r_mac_l h1 h2 e10 hf e4 e45 b5 q1 q0 n (k + 1) (by omega) (by omega) (fun i hi => ?_)
    by_cases ci : i = k
    · rw [ci, ← e2, ← e3]; exact c1
    · exact inv i (by omega)
theorem r_isMac (hL : m_L I mk nn K tl) (ht : w_at mk t g) (hk : w_at mk key p) (ha : m_at mk.length (w_d mk) (I 26) fr L1) (hb : fr + L1.length ≤ 362000) (eto : to = ((fr + L1.length : Nat) : Int)) (q1 : g = w_t 2 p [] [] L1 → Q 1 I) (q0 : g ≠ w_t 2 p [] [] L1 → Q 0 I) : rm_220 t key fr to I Q := by
  obtain ⟨t1, t2, t3, rw', eg, t5⟩ := m_L_rw hL ht
  have f10 : 0 ≤ I 10 t.toNat := rw'.2.1
  have f11 : 0 ≤ I 11 t.toNat := rw'.2.2.1
  have f12 : I 10 t.toNat + I 11 t.toNat ≤ I 1000 5 := rw'.2.2.2.1
  clear rw'
  obtain ⟨i1, i2⟩ := m_sl_mapA ha
  have iff2 := m_part_iff (st := 2) (Or.inl rfl) hL ht hk i2 i1
  have no : ¬ (I 6 t.toNat = 2 ∧ I 7 t.toNat = key ∧ m_sn I t.toNat = m_sl (I 26) fr L1.length) → Q 0 I := fun h => q0 (fun g => h (iff2.mp g))
  have snl : (m_sn I t.toNat).length = (I 11 t.toNat).toNat := m_sl_len _ _ _
  unfold rm_220
  refine ⟨by omega, by omega, ?_⟩
  intro v16 e16 _
  refine ⟨fun c => no (fun h => c (by rw [e16]; exact h.1)), fun c => ⟨by omega, by omega, ?_⟩⟩
  intro v19 e19 _
  refine ⟨fun c1 => no (fun h => c1 (by rw [e19]; exact h.2.1)), fun c1 => ⟨by omega, by omega, ?_⟩⟩
  intro v22 e22 _
  rw [sw_w_s (z := to - (fr : Int)) (by omega) (by omega)]
  refine ⟨fun c2 => ?_, fun c2 => no (fun h => c2 ?_)⟩
  · obtain ⟨f, ef⟩ : ∃ f : Nat, I 10 t.toNat = f := ⟨(I 10 t.toNat).toNat, by omega⟩
    have en : (I 11 t.toNat).toNat = L1.length := by omega
    have eq3 : m_sn I t.toNat = m_sl (I 26) fr L1.length ↔ ∀ i, i < L1.length → I 17 (f + i) = I 26 (fr + i) := by
      unfold m_sn
      rw [en, ef, Int.toNat_natCast]
      constructor
      · intro h i hi
        have := m_sl_at (f := I 17) (a := f) hi
        rw [h, m_sl_at hi] at this
        exact (Option.some.inj this).symm
      · intro h
        unfold m_sl
        refine List.map_congr_left (fun i hi => ?_)
        rw [List.mem_range] at hi
        exact h i hi
    refine ⟨L1.length + 1, ?_⟩
    exact r_mac_l (n1 := L1.length) (fr := fr) (by omega) (by omega) ef (by omega) rfl eto (by omega) (fun h => q1 (iff2.mpr ⟨by rw [← e16]; exact c, by rw [← e19]; exact c1, eq3.mpr h⟩)) (fun h => no (fun g => h (eq3.mp g.2.2))) (L1.length + 1) 0 (by omega) (by omega) (fun i hi => by omega)
  · rw [h.2.2, m_sl_len] at snl
    omega
end
