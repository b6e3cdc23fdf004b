/-! ===== the reference: messages written ===== -/
noncomputable section
section
variable {I J : sr_V} {nn us : Nat} {K : Wt → Prop} {tl mk mm l l0 l1 l2 cx : List Wt} {ms : List (List Wt)} {a b c x wo : Int} {Q : Int → sr_V → Prop} {R : sr_V → Prop} {T : w_T} {s : Nat} {G : w_G} {P : Nat → Nat → Prop}
theorem m_sl_mapA {n : Int} {d : Nat → Wt} {f : Nat → Int} : ∀ {l : List Wt} {a : Nat}, m_at n d f a l → (m_sl f a l.length).map (w_sg d) = l ∧ ∀ s ∈ m_sl f a l.length, m_vs n s
  | [], a, h => ⟨rfl, fun s hs => by simp [m_sl] at hs⟩
  | w :: l, a, h => by
    obtain ⟨⟨h1, h2⟩, h3⟩ := m_at_drop h
    obtain ⟨i1, i2⟩ := m_sl_mapA h3
    have e : m_sl f a (w :: l).length = f a :: m_sl f (a + 1) l.length := by
      unfold m_sl
      rw [List.length_cons, List.range_succ_eq_map, List.map_cons, List.map_map]
      congr 1
      refine List.map_congr_left (fun k _ => ?_)
      show f (a + (k + 1)) = f (a + 1 + k)
      congr 1
      omega
    rw [e]
    refine ⟨by rw [List.map_cons, h2, i1], fun s hs => ?_⟩
    rw [List.mem_cons] at hs
    rcases hs with hs | hs
    · rw [hs]; exact h1
    · exact i2 s hs
theorem m_at_le {f : Nat → Int} {a : Nat} (h : m_at mk.length (w_d mk) f a l) (hl : w_le mk mm) : m_at mm.length (w_d mm) f a l := by
  have := w_le_len hl
  exact m_at_e (by omega) (fun u hu => w_le_d hl (by omega)) h
theorem m_at_cg {n : Int} {d : Nat → Wt} {f g : Nat → Int} {a : Nat} (h : m_at n d f a l) (e : ∀ k, k < l.length → g (a + k) = f (a + k)) : m_at n d g a l := fun k w hk => by
  have : k < l.length := by
    rcases Nat.lt_or_ge k l.length with c | c
    · exact c
    · rw [List.getElem?_eq_none c] at hk
      exact absurd hk (by simp)
  rw [e k this]
  exact h k w hk
/-- bText: a part of the text to the row -/
theorem r_bText {fr : Nat} {to : Int} (h : m_rr I mk l0) (ha : m_at mk.length (w_d mk) (I 26) fr l) (eto : to = ((fr + l.length : Nat) : Int)) (hb : fr + l.length ≤ 362000) (hl : l0.length + l.length ≤ 6000) (k : ∀ J, m_rr J mk (l0 ++ l) → m_fr [55] [56] I J → R J) : rm_88 fr to I R := by
  have ln := m_rr_len h
  have e1 : (to - (fr : Int)).toNat = l.length := by omega
  refine m_bText (by omega) (by omega) h.1 (by omega) (fun J E e56 er => k J ?_ (m_e0_fr E))
  rw [e1, Int.toNat_natCast] at er
  obtain ⟨h0, h1, h2⟩ := h
  obtain ⟨i1, i2⟩ := m_sl_mapA ha
  refine ⟨by omega, fun y hy => ?_, ?_⟩
  · rw [er, List.mem_append] at hy
    rcases hy with hy | hy
    · exact h1 y hy
    · exact i2 y hy
  · rw [er, List.map_append, h2, i1]
/-- the text written so far -/
def m_tx (I : sr_V) (mk : List Wt) (us : Nat) (l : List Wt) : Prop := I 1000 23 = us ∧ I 1000 110 = ((us + l.length : Nat) : Int) ∧ m_at mk.length (w_d mk) (I 26) us l ∧ us ≤ 360000
theorem m_tx_gp (h : m_tx I mk us l) (f : m_gp P I J) (p : ∀ f k, P f k → f ≠ 26 ∧ (f = 1000 → k ≠ 23 ∧ k ≠ 110)) : m_tx J mk us l := by
  obtain ⟨h1, h2, h3, h4⟩ := h
  refine ⟨by rw [f 1000 23 (fun q => ((p _ _ q).2 rfl).1 rfl)]; exact h1, by rw [f 1000 110 (fun q => ((p _ _ q).2 rfl).2 rfl)]; exact h2, m_at_cg h3 (fun k _ => f 26 _ (fun q => (p _ _ q).1 rfl)), h4⟩
theorem m_tx_p2 (h : m_tx I mk us l) (f : m_gp m_p2 I J) : m_tx J mk us l := m_tx_gp h f (fun f k p => by unfold m_p2 at p; omega)
theorem m_tx_le (h : m_tx I mk us l) (hl : w_le mk mm) : m_tx I mm us l := ⟨h.1, h.2.1, m_at_le h.2.2.1 hl, h.2.2.2⟩
/-- where flush writes -/
def m_pf (us : Nat) (f k : Nat) : Prop := (f = 26 ∧ us ≤ k) ∨ f = 55 ∨ (f = 1000 ∧ (k = 56 ∨ k = 110))
theorem r_flush (h : m_rr I mk l2) (t : m_tx I mk us l1) (hl : l1.length + l2.length ≤ 2000) (k : ∀ J, m_tx J mk us (l1 ++ l2) → m_rr J mk [] → m_gp (m_pf us) I J → R J) : rm_78 I R := by
  have ln := m_rr_len h
  obtain ⟨t1, t2, t3, t4⟩ := t
  refine m_flush h.1 (by omega) (by omega) (by omega) (fun J f e56 e110 hq => ?_)
  have hrow : ∀ k w, l2[k]? = some w → m_vs mk.length (I 55 k) ∧ w_sg (w_d mk) (I 55 k) = w := by
    intro k w hk
    obtain ⟨h0, h1, h2⟩ := h
    have kl : k < l2.length := by
      rcases Nat.lt_or_ge k l2.length with c | c
      · exact c
      · rw [List.getElem?_eq_none c] at hk
        exact absurd hk (by simp)
    have er : (m_row I)[k]? = some (I 55 k) := by
      unfold m_row
      rw [List.getElem?_map, List.getElem?_range (by omega)]
      rfl
    refine ⟨h1 _ (List.mem_of_getElem? er), ?_⟩
    have : (l2)[k]? = some (w_sg (w_d mk) (I 55 k)) := by rw [← h2, List.getElem?_map, er]; rfl
    rw [hk] at this
    exact (Option.some.inj this).symm
  refine k J ⟨by rw [f.2 23 (by decide)]; exact t1, ?_, ?_, t4⟩ (m_rr_0 e56) ?_
  · rw [e110, t2, ln, List.length_append]
    omega
  · intro k w hk
    rcases Nat.lt_or_ge k l1.length with c | c
    · rw [List.getElem?_append_left c] at hk
      rw [hq, if_neg (by omega)]
      exact t3 k w hk
    · rw [List.getElem?_append_right c] at hk
      have kl : k - l1.length < l2.length := by
        rcases Nat.lt_or_ge (k - l1.length) l2.length with c | c
        · exact c
        · rw [List.getElem?_eq_none c] at hk
          exact absurd hk (by simp)
      rw [hq, if_pos (by omega)]
      have := hrow (k - l1.length) w hk
      rw [show (((us + k : Nat) : Int) - I 1000 110).toNat = k - l1.length by omega]
      exact this
  · intro g i hp
    unfold m_pf at hp
    by_cases c26 : g = 26
    · subst c26
      rw [hq, if_neg (by omega)]
    · by_cases c1000 : g = 1000
      · subst c1000
        exact f.2 i (by simp; omega)
      · rw [f.1 g (by simpa using c26) c1000]
theorem m_L_pf (h : m_L I mk nn K tl) (f : m_gp (m_pf us) I J) : m_L J mk nn K tl := m_L_gp h f (fun f k p => by unfold m_pf at p; omega)
/-- messages stay where the text behind them is written -/
theorem m_M_gp {d : Nat → Wt} (h : m_M I d ms) (hu : I 1000 23 = us) (f : m_gp P I J) (p : ∀ f k, P f k → f ≠ 24 ∧ f ≠ 25 ∧ (f = 26 → us ≤ k) ∧ (f = 1000 → k ≠ 22 ∧ k ≠ 23 ∧ k ≠ 4)) : m_M J d ms := by
  obtain ⟨h1, h2, h3, h4, h5⟩ := h
  have e4 : J 1000 4 = I 1000 4 := f 1000 4 (fun q => ((p _ _ q).2.2.2 rfl).2.2 rfl)
  have e22 : J 1000 22 = I 1000 22 := f 1000 22 (fun q => ((p _ _ q).2.2.2 rfl).1 rfl)
  have e23 : J 1000 23 = I 1000 23 := f 1000 23 (fun q => ((p _ _ q).2.2.2 rfl).2.1 rfl)
  unfold m_M
  rw [e4, e22, e23]
  refine ⟨h1, h2, h3, h4, fun i l hi => ?_⟩
  obtain ⟨k1, k2, k3, k4, k5⟩ := h5 i l hi
  rw [f 24 i (fun q => (p _ _ q).1 rfl), f 25 i (fun q => (p _ _ q).2.1 rfl)]
  refine ⟨k1, k2, k3, k4, m_at_cg k5 (fun k hk => f 26 _ (fun q => ?_))⟩
  have := (p _ _ q).2.2.1 rfl
  omega
/-- messages stay where terms are made -/
theorem m_M_p2 (hL : m_L I mk nn K tl) {nm : Nat} {K' : Wt → Prop} {tl' : List Wt} (hJ : m_L J mm nm K' tl') (hl : w_le mk mm) (h : m_M I (w_d mk) ms) (f : m_gp m_p2 I J) : m_M J (w_d mm) ms := by
  have l1 := w_le_len hl
  have e : ∀ g, g = 24 ∨ g = 25 ∨ g = 26 → J g = I g := fun g hg => funext fun k => f g k (by unfold m_p2; omega)
  exact m_M_e (e 24 (by omega)) (e 25 (by omega)) (e 26 (by omega)) (f 1000 22 (by unfold m_p2; omega)) (f 1000 23 (by unfold m_p2; omega)) (by rw [hL.2.2.2.1, hJ.2.2.2.1]; omega) (fun u hu => w_le_d hl (by rw [hL.2.2.2.1] at hu; omega)) h
/-- the context kept -/
def m_cx (I : sr_V) (mk cx : List Wt) : Prop := I 1000 109 = cx.length ∧ cx.length ≤ 8 ∧ m_at mk.length (w_d mk) (I 108) 0 cx
theorem m_cx_gp (h : m_cx I mk cx) (f : m_gp P I J) (p : ∀ f k, P f k → f ≠ 108 ∧ (f = 1000 → k ≠ 109)) : m_cx J mk cx := ⟨by rw [f 1000 109 (fun q => (p _ _ q).2 rfl rfl)]; exact h.1, h.2.1, m_at_cg h.2.2 (fun k _ => f 108 _ (fun q => (p _ _ q).1 rfl))⟩
theorem m_cx_le (h : m_cx I mk cx) (hl : w_le mk mm) : m_cx I mm cx := ⟨h.1, h.2.1, m_at_le h.2.2 hl⟩
theorem r_bContext (h : m_rr I mk l0) (hc : m_cx I mk cx) (hl : l0.length + cx.length ≤ 6000) (k : ∀ J, m_rr J mk (l0 ++ cx) → m_fr [55] [56] I J → R J) : rm_166 I R := by
  have lp : ∀ (n i : Nat) {Z : sr_V}, i ≤ cx.length → cx.length - i < n → m_rr Z mk (l0 ++ cx.take i) → m_fr [55] [56] I Z → rl_166_2 R n i Z := by
    intro n
    induction n with
    | zero => intro i Z h1 h2; omega
    | succ n ih =>
      intro i Z h1 h2 hr hf
      have ln := m_rr_len hr
      rw [List.length_append, List.length_take] at ln
      have z109 : Z 1000 109 = cx.length := by rw [hf.2 109 (by decide)]; exact hc.1
      have c8 := hc.2.1
      unfold rl_166_2
      intro v1 e1 _
      refine ⟨fun c => ?_, fun c => ?_⟩
      · have ei : i = cx.length := by omega
        rw [ei, List.take_length] at hr
        exact k Z hr hf
      · have hi : i < cx.length := by omega
        intro v4 e4 _
        refine ⟨by omega, by omega, ?_⟩
        intro v7 e7 _
        refine ⟨by omega, by omega, ?_⟩
        intro I11 e11 v15 e15 _ I19 e19 y23 e23
        rw [Int.toNat_natCast, hf.1 108 (by decide) (by decide)] at e7
        obtain ⟨w, ew⟩ : ∃ w, cx[i]? = some w := ⟨cx[i], List.getElem?_eq_getElem hi⟩
        have hv := hc.2.2 i w ew
        rw [Nat.zero_add, ← e7] at hv
        rw [sw_w_s (by omega) (by omega)] at e23
        rw [e23, show (i : Int) + 1 = ((i + 1 : Nat) : Int) by omega]
        have e15' : v15 = Z 1000 56 := by rw [e15, e11, su_f (by decide)]
        have f19 : m_fr [55] [56] Z I19 := by
          refine ⟨fun g h1 h2 => ?_, fun f hf => ?_⟩
          · rw [e19, su_f h2, e11, su_f (by simpa using h1)]
          · rw [e19, su_k (by simpa using hf), e11, su_f (by decide)]
        have r56 : I19 1000 56 = Z 1000 56 + 1 := by rw [e19, su_eq, e15', sw_w_s (by omega) (by omega)]
        have er : m_row I19 = m_row Z ++ [v7] := by
          unfold m_row
          rw [r56, show (Z 1000 56 + 1).toNat = (Z 1000 56).toNat + 1 by omega, List.range_succ, List.map_append]
          have e55 : I19 55 = su Z 55 v4.toNat v7 55 := by rw [e19, su_f (by decide), e11]
          rw [e55]
          congr 1
          · refine List.map_congr_left (fun j hj => ?_)
            rw [List.mem_range] at hj
            exact su_k (by omega)
          · rw [e4, List.map_singleton, su_eq]
        have rr := m_rr_push hr r56 er hv
        rw [List.append_assoc] at rr
        refine ih (i + 1) (by omega) (by omega) ?_ (m_fr_trans hf f19)
        rw [List.take_add_one, ew]
        exact rr
  exact ⟨cx.length + 1, lp (cx.length + 1) 0 (by omega) (by omega) (by simpa using h) (m_fr_refl _ _ _)⟩
theorem r_signSoFar {m : Nat} (hm : m < 24) (hL : m_L I mk nn K tl) (hM : m_me I mk) (t : m_tx I mk us l) (hc : m_cx I mk cx) (hl : l.length ≤ 2000) (bd : m_bd (w_tl mk (w_t 7 (w_nm m) [] [] (l ++ cx)))) (q : ∀ t J, m_L J (w_tl mk (w_t 7 (w_nm m) [] [] (l ++ cx))) nn K tl → w_at (w_tl mk (w_t 7 (w_nm m) [] [] (l ++ cx))) t (w_t 7 (w_nm m) [] [] (l ++ cx)) → m_f1 I J → Q t J) : rm_79 m I Q := by
  have c8 := hc.2.1
  obtain ⟨t1, t2, t3, t4⟩ := t
  unfold rm_79
  intro I2 e2
  obtain ⟨L2, r2, f2⟩ := r_rs0 hL e2
  intro v6 e6 _ v9 e9 _
  rw [f2.2 23 (by decide), t1] at e6
  rw [f2.2 110 (by decide), t2] at e9
  rw [e6]
  refine r_bText r2 (by rw [f2.1 26 (by decide) (by decide)]; exact t3) e9 (by omega) (by simp; omega) (fun J3 r3 f3 => ?_)
  have f13 := m_fr_trans f2 f3
  rw [List.nil_append] at r3
  refine r_bContext r3 (m_cx_gp hc (m_fr_gp f13) (fun f k p => by simp at p; omega)) (by omega) (fun J4 r4 f4 => ⟨by omega, by omega, ?_⟩)
  have f14 := m_fr_trans f13 f4
  intro v26 e26 _
  rw [Int.toNat_natCast, f14.1 20 (by decide) (by decide)] at e26
  subst e26
  refine r_part (Or.inr rfl) (m_f0_L hL f14) (hM m hm).1 r4 (by rw [List.length_append]; omega) bd (fun t J a1 a2 a3 a4 _ => ?_)
  exact q t J a1 a4 (m_fr_trans (m_f0_f1 f14) a2)
theorem r_tagSoFar {wk : Wt} (hL : m_L I mk nn K tl) (t : m_tx I mk us l) (ha : w_at mk a wk) (hl : l.length ≤ 2000) (bd : m_bd (w_tl mk (w_t 2 wk [] [] l))) (q : ∀ t J, m_L J (w_tl mk (w_t 2 wk [] [] l)) nn K tl → w_at (w_tl mk (w_t 2 wk [] [] l)) t (w_t 2 wk [] [] l) → m_f1 I J → Q t J) : rm_90 a I Q := by
  obtain ⟨t1, t2, t3, t4⟩ := t
  unfold rm_90
  intro I2 e2
  obtain ⟨L2, r2, f2⟩ := r_rs0 hL e2
  intro v6 e6 _ v9 e9 _
  rw [f2.2 23 (by decide), t1] at e6
  rw [f2.2 110 (by decide), t2] at e9
  rw [e6]
  refine r_bText r2 (by rw [f2.1 26 (by decide) (by decide)]; exact t3) e9 (by omega) (by simp; omega) (fun J3 r3 f3 => ?_)
  have f13 := m_fr_trans f2 f3
  rw [List.nil_append] at r3
  refine r_part (Or.inl rfl) (m_f0_L hL f13) ha r3 (by omega) bd (fun t J a1 a2 a3 a4 _ => ?_)
  exact q t J a1 a4 (m_fr_trans (m_f0_f1 f13) a2)
theorem r_flushTerm {w : Wt} (hL : m_L I mk nn K tl) (hm : mk.length ≤ 44999) (t : m_tx I mk us l) (ha : w_at mk a w) (hl : l.length ≤ 1900) (k : ∀ J, m_L J mk nn K tl → m_tx J mk us (l ++ [w]) → m_rr J mk [] → m_gp (m_pf us) I J → R J) : rm_80 a I R := by
  unfold rm_80
  intro I2 e2
  obtain ⟨L2, r2, f2⟩ := r_rs0 hL e2
  refine r_term r2 (by simp) hm ha (fun J3 r3 f3 => ?_)
  have f13 := m_fr_trans f2 f3
  have L3 := m_f0_L hL f13
  have g13 : m_gp (m_pf us) I J3 := m_gp_sub (m_fr_gp f13) (fun f k p => by simp at p; unfold m_pf; omega)
  refine r_flush r3 (m_tx_p2 t (m_f0_gp f13)) (by simp; omega) (fun J4 t4 r4 g4 => ?_)
  exact k J4 (m_L_pf L3 g4) t4 r4 (m_gp_trans g13 g4)
/-- textHash -/
theorem r_textHash {m : Nat} (hL : m_L I mk nn K tl) (hM : m_M I (w_d mk) ms) (hm : ms[m]? = some l) (bd : m_bd (w_tl mk (w_t 1 [] [] [] l))) (q : ∀ t J, m_L J (w_tl mk (w_t 1 [] [] [] l)) nn K tl → w_at (w_tl mk (w_t 1 [] [] [] l)) t (w_t 1 [] [] [] l) → m_f1 I J → Q t J) : rm_91 m I Q := by
  obtain ⟨h1, h2, h3, h4, h5⟩ := hM
  obtain ⟨k1, k2, k3, k4, k5⟩ := h5 m l hm
  have ml : m < ms.length := by
    rcases Nat.lt_or_ge m ms.length with c | c
    · exact c
    · rw [List.getElem?_eq_none c] at hm
      exact absurd hm (by simp)
  rw [hL.2.2.2.1] at k5
  unfold rm_91
  intro I2 e2
  obtain ⟨L2, r2, f2⟩ := r_rs0 hL e2
  refine ⟨by omega, by omega, ?_⟩
  intro v6 e6 _
  refine ⟨by omega, by omega, ?_⟩
  intro v9 e9 _
  refine ⟨by omega, by omega, ?_⟩
  intro v12 e12 _
  rw [Int.toNat_natCast, f2.1 24 (by decide) (by decide)] at e6 e9
  rw [Int.toNat_natCast, f2.1 25 (by decide) (by decide), k2] at e12
  obtain ⟨fr, efr⟩ : ∃ fr : Nat, I 24 m = fr := ⟨(I 24 m).toNat, by omega⟩
  rw [efr, Int.toNat_natCast] at k5
  rw [e9, e12, e6, efr]
  rw [sw_w_s (by omega) (by omega)]
  refine r_bText r2 (by rw [f2.1 26 (by decide) (by decide)]; exact k5) (by omega) (by omega) (by simp; omega) (fun J3 r3 f3 => ?_)
  have f13 := m_fr_trans f2 f3
  rw [List.nil_append] at r3
  refine r_hash (m_f0_L hL f13) r3 (by omega) bd (fun t J a1 a2 a3 a4 _ => ?_)
  exact q t J a1 a4 (m_fr_trans (m_f0_f1 f13) a2)
end
end
