/-! ===== the reference: sign, ofTerm, term, isKnown, count ===== -/
noncomputable section
section
variable {I J : sr_V} {d e : Nat → Wt} {nn : Nat} {K : Wt → Prop} {x : Int} {tl tp : List Wt} {ms : List (List Wt)} {rd : Nat → Int}
/-- a sign, as it is answered: the number, and the numbers behind it -/
def w_ts (tl : List Wt) (w : Wt) : Int × List Wt := if w.head? = some 1000 then ((w.getD 1 0 : Nat), tl) else (256 + ((w_tl tl w).idxOf w + 1), w_tl tl w)
theorem w_mk_head (s : Nat) (l : List Wt) : (w_mk s l).head? = some s := rfl
theorem m_T_head (T : m_T I d nn) {t : Nat} (h : m_R I t) : (d t).head? ≠ some 1000 := by
  obtain ⟨s, l, hs, e⟩ := m_T_d0 T h.1 h.2
  rw [e, w_mk_head]
  intro h
  have := Option.some.inj h
  omega
theorem m_toldSign {Q : Int → sr_V → Prop} (T : m_T I d nn) (hN : m_N I d tl) (hb : tl.length < 44998) (hv : m_vs (I 1000 4) x) (k : ∀ J, m_N J d (w_ts tl (w_sg d x)).2 → m_fr [13, 14] [18] I J → Q (w_ts tl (w_sg d x)).1 J) : rm_129 x I Q := by
  have hn := T.2.1
  have hv' := hv
  unfold m_vs at hv
  unfold rm_129
  refine ⟨fun c => ?_, fun c => ?_⟩
  · have hR : m_R I (x - 256).toNat := ⟨by omega, by omega⟩
    have e1 : w_sg d x = d (x - 256).toNat := by unfold w_sg; rw [if_neg (by omega)]
    have e2 : w_ts tl (w_sg d x) = ((256 : Int) + (((w_tl tl (d (x - 256).toNat)).idxOf (d (x - 256).toNat) : Nat) + 1), w_tl tl (d (x - 256).toNat)) := by
      rw [e1]
      unfold w_ts
      rw [if_neg (m_T_head T hR)]
    rw [e2] at k
    rw [sw_w_s (by omega) (by omega)]
    have hlen : (w_tl tl (d (x - 256).toNat)).idxOf (d (x - 256).toNat) < tl.length + 1 := by
      have : (w_tl tl (d (x - 256).toNat)).length ≤ tl.length + 1 := by
        unfold w_tl
        split
        · omega
        · simp
      have hm : d (x - 256).toNat ∈ w_tl tl (d (x - 256).toNat) := by
        unfold w_tl
        split
        · assumption
        · simp
      have := List.idxOf_lt_length_of_mem hm
      omega
    refine m_tell T hN hb (by omega) (by omega) (fun J hJ fr _ => ?_)
    rw [sw_w_s (by omega) (by omega)]
    exact k J hJ fr
  · have e1 : w_sg d x = [1000, x.toNat] := by unfold w_sg; rw [if_pos c]
    have e2 : w_ts tl (w_sg d x) = (x, tl) := by
      rw [e1]
      unfold w_ts
      rw [if_pos (show [1000, x.toNat].head? = some 1000 from rfl)]
      show (((x.toNat : Nat) : Int), tl) = (x, tl)
      rw [Int.toNat_of_nonneg hv.1]
    rw [e2] at k
    exact k I hN (m_fr_refl _ _ _)
theorem m_su0 (I : sr_V) (z : Int) : m_fr [] [0] I (su I 1000 0 z) := ⟨fun g _ h => su_f h, fun f h => su_k (by simpa using h)⟩
theorem m_sign {Q : Int → sr_V → Prop} {y : Int} (T : m_T I d nn) (hN : m_N I d tl) (hb : tl.length < 44998) (hM : m_M I d ms) (q0 : (∀ l w, ¬ (0 ≤ x ∧ 0 ≤ y ∧ ms[x.toNat]? = some l ∧ l[y.toNat]? = some w)) → Q (-1) (su I 1000 0 0)) (q1 : ∀ l w J, 0 ≤ x → 0 ≤ y → ms[x.toNat]? = some l → l[y.toNat]? = some w → m_N J d (w_ts tl w).2 → m_fr [13, 14] [0, 18] I J → Q (w_ts tl w).1 J) : rm_37 x y I Q := by
  unfold rm_37
  have fr0 := m_su0 I 0
  refine m_message hM (fun c _ => ?_) (fun l hx hl _ => ?_)
  · have none0 : ∀ l w, ¬ (0 ≤ x ∧ 0 ≤ y ∧ ms[x.toNat]? = some l ∧ l[y.toNat]? = some w) := fun l w ⟨a, b, c1, c2⟩ => by
      have := (List.getElem?_eq_some_iff.mp c1).1
      omega
    exact ⟨fun _ => q0 none0, fun _ => ⟨fun h => by omega, fun _ => q0 none0⟩⟩
  · have none0 : ∀ (l' : List Wt) (w : Wt), (y < 0 ∨ (l.length : Int) ≤ y) → ¬ (0 ≤ x ∧ 0 ≤ y ∧ ms[x.toNat]? = some l' ∧ l'[y.toNat]? = some w) := fun l' w c ⟨a, b, c1, c2⟩ => by
      rw [hl] at c1
      have c1 := Option.some.inj c1
      subst c1
      have := (List.getElem?_eq_some_iff.mp c2).1
      omega
    refine ⟨fun c => q0 (fun l' w => none0 l' w (Or.inl c)), fun c => ⟨fun c1 => ?_, fun c1 => q0 (fun l' w => none0 l' w (Or.inr c1))⟩⟩
    obtain ⟨m1, m2, m3, m4, m5⟩ := hM
    have hxl := (List.getElem?_eq_some_iff.mp hl).1
    obtain ⟨b1, b2, b3, b4, b5⟩ := m5 x.toNat l hl
    refine ⟨hx, by omega, ?_⟩
    intro v11 e11 _
    rw [su_f (by decide)] at e11
    subst e11
    rw [sw_w_s (by omega) (by omega)]
    refine ⟨by omega, by omega, ?_⟩
    intro v14 e14 _
    rw [su_f (by decide), show (I 24 x.toNat + y).toNat = (I 24 x.toNat).toNat + y.toNat by omega] at e14
    have hyl : y.toNat < l.length := by omega
    obtain ⟨g1, g2⟩ := b5 y.toNat _ (List.getElem?_eq_getElem hyl)
    rw [← e14] at g1 g2
    have T0 := m_T_fr fr0 (by simp) (by decide) (by decide) T
    have N0 := m_N_same (fr0.1 13 (by decide) (by decide)) (fr0.1 14 (by decide) (by decide)) (fr0.2 18 (by decide)) (fr0.2 4 (by decide)) hN
    refine m_toldSign T0 N0 hb (by rw [fr0.2 4 (by decide)]; exact g1) (fun J hJ fr _ => ?_)
    rw [g2] at hJ ⊢
    refine q1 l _ J hx c hl (List.getElem?_eq_getElem hyl) hJ ⟨fun g a b => (fr.1 g a b).trans (fr0.1 g (by simp) b), fun f a => ?_⟩
    simp at a
    rw [fr.2 f (by simp; omega), fr0.2 f (by simp; omega)]
/-- the signs that a term is of -/
theorem m_ofTerm {Q : Int → sr_V → Prop} {y : Int} (T : m_T I d nn) (hN : m_N I d tl) (hb : tl.length < 44998) (q0 : (∀ w t, w_no tl x = some w → m_R I t → d t = w → ¬ (0 ≤ y ∧ y < I 11 t)) → Q (-1) (su I 1000 0 0)) (q1 : ∀ w t s J, w_no tl x = some w → m_R I t → d t = w → 0 ≤ y → y < I 11 t → (m_sn I t)[y.toNat]? = some s → m_N J d (w_ts tl (w_sg d s)).2 → m_fr [13, 14] [0, 18] I J → Q (w_ts tl (w_sg d s)).1 J) : rm_33 x y I Q := by
  unfold rm_33
  intro I2 e2
  have fr0 := m_su0 I 0
  rw [← e2] at fr0 q0
  have T0 := m_T_fr fr0 (by simp) (by decide) (by decide) T
  have N0 := m_N_same (fr0.1 13 (by decide) (by decide)) (fr0.1 14 (by decide) (by decide)) (fr0.2 18 (by decide)) (fr0.2 4 (by decide)) hN
  have f4 : I2 1000 4 = I 1000 4 := fr0.2 4 (by decide)
  have hn := T.2.1
  have sg4 := T.2.2.2.1
  refine m_isTold N0 (fun hno _ => ⟨fun _ => q0 (fun w t h => by rw [hno] at h; cases h), fun h => absurd rfl h⟩) (fun w t a1 a2 a3 a4 a5 a6 _ => ⟨fun h => absurd h (by decide), fun _ => ⟨fun c => q0 (fun w t _ _ _ => by omega), fun c => ⟨by omega, by omega, ?_⟩⟩⟩)
  have a2' : m_R I t := ⟨a2.1, by have := a2.2; omega⟩
  have ht := a2'.2
  have rw_ := T.2.2.2.2.1 t a2'.1 a2'.2
  have w1 := rw_.2.1
  have w2 := rw_.2.2.1
  have w3 := rw_.2.2.2.1
  have w4 := rw_.2.2.2.2.1
  clear rw_
  have uniq : ∀ w' t', w_no tl x = some w' → m_R I t' → d t' = w' → t' = t := fun w' t' h1 h2 h3 => by
    rw [a1] at h1
    have h1 := Option.some.inj h1
    subst h1
    exact T.2.2.2.2.2.1 t' t h2.1 h2.2 a2'.1 a2'.2 (h3.trans a4.symm)
  intro v13 e13 _
  rw [a3] at e13
  subst e13
  refine ⟨by omega, by omega, ?_⟩
  intro v16 e16 _
  rw [Int.toNat_natCast, fr0.1 11 (by decide) (by decide)] at e16
  subst e16
  refine ⟨fun c1 => q0 (fun w' t' h1 h2 h3 => by rw [uniq w' t' h1 h2 h3]; omega), fun c1 => ⟨by omega, by omega, ?_⟩⟩
  intro v19 e19 _
  rw [a3] at e19
  subst e19
  refine ⟨by omega, by omega, ?_⟩
  intro v22 e22 _
  rw [Int.toNat_natCast, fr0.1 10 (by decide) (by decide)] at e22
  subst e22
  rw [sw_w_s (by omega) (by omega)]
  refine ⟨by omega, by omega, ?_⟩
  intro v25 e25 _
  rw [fr0.1 17 (by decide) (by decide), show (I 10 t + y).toNat = (I 10 t).toNat + y.toNat by omega] at e25
  have hs : (m_sn I t)[y.toNat]? = some v25 := by
    unfold m_sn m_sl
    rw [List.getElem?_map, List.getElem?_range (by omega), e25]
    rfl
  have hv : m_vs (I 1000 4) v25 := m_vs_up (by omega) (w4 v25 (List.mem_of_getElem? hs))
  refine m_toldSign T0 N0 hb (by rw [f4]; exact hv) (fun J hJ fr _ => ?_)
  refine q1 w t v25 J a1 a2' a4 c c1 hs hJ ⟨fun g a b => (fr.1 g a b).trans (fr0.1 g (by simp) b), fun f a => ?_⟩
  simp at a
  rw [fr.2 f (by simp; omega), fr0.2 f (by simp; omega)]
theorem m_isKnown {Q : Int → sr_V → Prop} (T : m_T I d nn) (hK : m_K I d K) (hb : tl.length < 44999) (hN : m_N I d tl) (q0 : ∀ J, ¬ w_has tl K x → m_K J d K → m_fr [16] [0, 19] I J → Q 0 J) (q1 : ∀ J, w_has tl K x → m_K J d K → m_fr [16] [0, 19] I J → Q 1 J) : rm_29 x I Q := by
  unfold rm_29
  intro I2 e2
  have fr0 := m_su0 I 0
  rw [← e2] at fr0
  have T0 := m_T_fr fr0 (by simp) (by decide) (by decide) T
  have K0 := m_K_same (fun g hg => fr0.1 g (by simp) (by omega)) (fr0.2 4 (by decide)) (fr0.2 19 (by decide)) hK
  have hn := T.2.1
  have f4 := fr0.2 4 (by decide)
  refine m_infer T0 K0.1 K0.2.2.1 K0.2.2.2.1 (fun J hi => ?_)
  obtain ⟨k1, k2, k3⟩ := m_K_infer T0 K0 hi
  have fr := m_infd_fr hi
  have g4 := fr.2 4 (by decide)
  have frJ : m_fr [16] [0, 19] I J := ⟨fun g a b => (fr.1 g a b).trans (fr0.1 g (by simp) b), fun f a => by
    simp at a
    rw [fr.2 f (by simp; omega), fr0.2 f (by simp; omega)]⟩
  refine m_has (K := K) (tl := tl) (d := d) (by omega) hb (m_N_same (frJ.1 13 (by decide) (by decide)) (frJ.1 14 (by decide) (by decide)) (frJ.2 18 (by decide)) (by omega) hN) k1.1 k3 (fun h _ => ?_) (fun h _ => ?_)
  · exact ⟨Or.inl rfl, q0 J h k1 frJ⟩
  · exact ⟨Or.inr rfl, q1 J h k1 frJ⟩
theorem m_count {Q : Int → sr_V → Prop} (T : m_T I d nn) (hK : m_K I d K) (hb : tl.length < 44999) (hN : m_N I d tl) (hM : m_M I d ms) (hP : m_P I d tp) (qn : x < 0 ∨ 3 < x → Q (-1) (su I 1000 0 0)) (q0 : x = 0 → Q tl.length (su I 1000 0 0)) (q1 : x = 1 → Q ms.length (su I 1000 0 0)) (q2 : ∀ J, x = 2 → m_K J d K → m_fr [16] [0, 19] I J → Q (w_cnt K tl) J) (q3 : x = 3 → Q tp.length (su I 1000 0 0)) : rm_43 x I Q := by
  unfold rm_43
  intro I2 e2
  have fr0 := m_su0 I 0
  rw [← e2] at fr0 qn q0 q1 q3
  have T0 := m_T_fr fr0 (by simp) (by decide) (by decide) T
  have K0 := m_K_same (fun g hg => fr0.1 g (by simp) (by omega)) (fr0.2 4 (by decide)) (fr0.2 19 (by decide)) hK
  have N0 := m_N_same (fr0.1 13 (by decide) (by decide)) (fr0.1 14 (by decide) (by decide)) (fr0.2 18 (by decide)) (fr0.2 4 (by decide)) hN
  refine ⟨qn, fun c v e _ => ?_, fun c v e _ => ?_, fun c => ?_, fun c v e _ => ?_⟩
  · rw [e, N0.1]; exact q0 c
  · rw [e, fr0.2 22 (by decide), hM.1]; exact q1 c
  · refine m_knownTold T0 K0 hb N0 (fun J k1 _ fr _ => q2 J c k1 ⟨fun g a b => (fr.1 g a b).trans (fr0.1 g (by simp) b), fun f a => ?_⟩)
    simp at a
    rw [fr.2 f (by simp; omega), fr0.2 f (by simp; omega)]
  · rw [e, fr0.2 3 (by decide), hP.1]; exact q3 c
end
end
