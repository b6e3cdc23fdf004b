/-! ===== the reference: terms by their list ===== -/
noncomputable section
section
variable {I J : sr_V} {nn : Nat} {K : Wt → Prop} {tl mk mm l : List Wt} {s a b c x : Int} {Q : Int → sr_V → Prop} {R : sr_V → Prop}
theorem w_sz_tm (d : Nat → Wt) (s a b c : Int) (l : List Int) : w_sz (w_tm d s a b c l) = l.length := by
  unfold w_sz w_tm
  rw [w_pts_mk]
  simp
/-- there is room for these terms -/
def m_bd (mk : List Wt) : Prop := mk.length ≤ 44999 ∧ w_tot mk ≤ 1400000
theorem m_bd_le (h : w_le mk mm) (b : m_bd mm) : m_bd mk := by
  have := w_le_len h
  unfold m_bd at *
  omega
theorem m_mkT (h : m_L I mk nn K tl) (v : m_va I (I 1000 4) s a b c) (h8 : s ≠ 8) (hr0 : 0 ≤ I 1000 56) (hr : I 1000 56 ≤ 6000) (hv : ∀ x ∈ m_row I, m_vs (I 1000 4) x) (bd : m_bd (w_tl mk (w_tm (w_d mk) s a b c (m_row I)))) (k : ∀ (t : Int) (J : sr_V), m_L J (w_tl mk (w_tm (w_d mk) s a b c (m_row I))) nn K tl → m_f1 I J → J 1000 56 = 0 → w_at (w_tl mk (w_tm (w_d mk) s a b c (m_row I))) t (w_tm (w_d mk) s a b c (m_row I)) → J 6 t.toNat = s → Q t J) : rm_53 s a b c I Q := by
  have h' := h
  obtain ⟨T, hK, hN, h4, h5⟩ := h'
  unfold rm_53
  refine m_chain hr (fun _ => ?_)
  have hb := m_h_b s a b c (m_row I)
  refine ⟨hb.1, hb.2, ?_⟩
  intro v71 e71 _
  have T' := T
  obtain ⟨t1, t2, t3, t4, t5, t6, ch, c1, c2, c3⟩ := T'
  have hlk : m_lk I v71 (ch (m_h s a b c (m_row I)).toNat) := by
    rcases c1 (m_h s a b c (m_row I)).toNat with h | h
    · rw [e71]; exact h
    · omega
  refine ⟨_, m_find_l hr0 hr T _ ((ch (m_h s a b c (m_row I)).toNat).length + 1) _ (by omega) hlk (c2 _) (fun t ht hc => ?_) (fun hno => ?_)⟩
  · have hrng := c2 _ t ht
    obtain ⟨w0, w1, w2, w3, w4, w5, w6⟩ := t5 t hrng.1 hrng.2
    obtain ⟨x1, x2, x3, x4, x5⟩ := hc
    unfold rb_53_49
    refine ⟨fun _ => ?_, fun h => by omega⟩
    unfold rb_53_72
    intro I2 e2
    subst e2
    have hw : w_d mk t = w_tm (w_d mk) s a b c (m_row I) := by rw [w5 (by omega), x1, x2, x3, x4, x5]
    have hm : w_tm (w_d mk) s a b c (m_row I) ∈ mk := (m_L_row h).mp ⟨t, hrng, hw⟩
    have et : w_tl mk (w_tm (w_d mk) s a b c (m_row I)) = mk := if_pos hm
    rw [et] at k
    have hat : w_at mk t (w_d mk ((t : Int).toNat)) := w_at_of (by omega) (by omega)
    rw [Int.toNat_natCast, hw] at hat
    refine k t _ (m_L_e0 h (m_e0_56 I 0)) (m_e1_f1 (m_e0_e1 (m_e0_56 I 0))) (su_eq _ _ _ _) hat ?_
    rw [Int.toNat_natCast, su_f (by decide)]; exact x1
  · have no : ∀ t : Nat, 1 ≤ t → (t : Int) ≤ I 1000 4 → ¬ (I 6 t = s ∧ I 7 t = a ∧ I 8 t = b ∧ I 9 t = c ∧ m_sn I t = m_row I) := by
      intro t a1 a2 hc
      have := c3 t a1 a2 (by rw [hc.1]; exact h8)
      rw [hc.1, hc.2.1, hc.2.2.1, hc.2.2.2.1, hc.2.2.2.2] at this
      exact hno t this hc
    have hm : w_tm (w_d mk) s a b c (m_row I) ∉ mk := fun hm => by
      obtain ⟨t, ht, e⟩ := (m_L_row h).mpr hm
      have r := t5 t ht.1 ht.2
      have ht2 := ht.2
      by_cases c8 : I 6 t = 8
      · obtain ⟨i, _, q⟩ := r.2.2.2.2.2.2 c8
        rw [q] at e
        have := (w_mk_inj e).1
        have := v.1
        have := v.2.1
        omega
      · rw [r.2.2.2.2.2.1 c8] at e
        obtain ⟨y1, y2, y3, y4, y5⟩ := m_tm_inj T (m_va_up (J := I) (n' := I 1000 4) (by omega) (fun _ _ => rfl) r.1) v (fun x hx => m_vs_up (by omega) (r.2.2.2.2.1 x hx)) hv e
        exact no t ht.1 ht.2 ⟨y1, y2, y3, y4, y5⟩
    have et : w_tl mk (w_tm (w_d mk) s a b c (m_row I)) = mk ++ [w_tm (w_d mk) s a b c (m_row I)] := if_neg hm
    rw [et] at k bd
    obtain ⟨bd1, bd2⟩ := bd
    rw [List.length_append, List.length_singleton] at bd1
    rw [w_tot_snoc, w_sz_tm, m_row_len] at bd2
    unfold rb_53_49
    refine ⟨fun h => absurd rfl h, fun _ => ?_⟩
    refine m_newTerm t1 (by omega) hr0 hr t3 (by omega) (fun J N _ => ⟨hb.1, hb.2, ?_⟩)
    have N' := N
    obtain ⟨n1, n2, n3, n4, n5, n6, n7, n8, n9, n10, n11, n12, n13, n14⟩ := N'
    intro v16 e16 _
    refine ⟨by omega, by omega, ?_⟩
    intro I20 e20
    refine ⟨hb.1, hb.2, ?_⟩
    intro I25 e25
    unfold rb_53_72
    intro I2 e2
    have hK2 : ∀ g, g ≠ 12 → g ≠ 15 → g ≠ 1000 → I2 g = J g := fun g g1 g2 g3 => by rw [e2, su_f g3, e25, su_f g2, e20, su_f g1]
    have hf : ∀ f, f ≠ 56 → I2 1000 f = J 1000 f := fun f h => by rw [e2, su_k h, e25, su_f (by decide), e20, su_f (by decide)]
    have j15 : J 15 = I 15 := n1 15 (by decide) (by omega) (by decide)
    have j12 : J 12 = I 12 := n1 12 (by decide) (by omega) (by decide)
    have h12 : ∀ t, I2 12 t = if t = (I 1000 4 + 1).toNat then I 15 (m_h s a b c (m_row I)).toNat else I 12 t := fun t => by
      rw [e2, su_f (by decide), e25, su_f (by decide), e20, su_at, e16, j15, j12]
      by_cases c : t = (I 1000 4 + 1).toNat
      · rw [if_pos ⟨rfl, c⟩, if_pos c]
      · rw [if_neg (fun x => c x.2), if_neg c]
    have h15 : ∀ x, I2 15 x = if x = (m_h s a b c (m_row I)).toNat then I 1000 4 + 1 else I 15 x := fun x => by
      rw [e2, su_f (by decide), e25, su_at, e20, su_f (by decide), j15]
      by_cases c : x = (m_h s a b c (m_row I)).toNat
      · rw [if_pos ⟨rfl, c⟩, if_pos c]
      · rw [if_neg (fun x => c x.2), if_neg c]
    have f4 := hf 4 (by decide)
    have f5 := hf 5 (by decide)
    have TK := m_T_term T N v h8 hr0 hv (by omega) (by omega) hK2 hf h12 h15 no
    have E := m_nw_e1 hr0 N hK2 hf t1
    have eT : (((I 1000 4 + 1).toNat : Nat) : Int) = I 1000 4 + 1 := by omega
    have LK := m_L_new h nn hm TK E (fun u hu => w_up_ne (by omega)) (by omega) w_up_eq (by rw [w_sz_tm, m_row_len]; omega)
    refine k _ I2 LK (m_e1_f1 E) (by rw [e2, su_eq]) ⟨by omega, ?_⟩ ?_
    · rw [List.getElem?_append_right (by omega), show (I 1000 4 + 1 - 1).toNat - mk.length = 0 by omega]
      rfl
    · rw [hK2 6 (by decide) (by decide) (by decide)]; exact n7
theorem m_nameL (h : m_L I mk nn K tl) (bd : m_bd (mk ++ [w_nm nn])) (k : ∀ (t : Int) (J : sr_V), m_L J (mk ++ [w_nm nn]) (nn + 1) K tl → m_f1 I J → J 1000 56 = 0 → w_at (mk ++ [w_nm nn]) t (w_nm nn) → Q t J) : rm_55 I Q := by
  have h' := h
  obtain ⟨T, hK, hN, h4, h5⟩ := h'
  have t1 := T.1
  obtain ⟨bd1, bd2⟩ := bd
  rw [List.length_append, List.length_singleton] at bd1
  have nm : w_nm nn ∉ mk := fun hm => by
    obtain ⟨t, ht, e⟩ := (m_L_row h).mpr hm
    have r := T.2.2.2.2.1 t ht.1 ht.2
    by_cases c8 : I 6 t = 8
    · obtain ⟨i, hi, q⟩ := r.2.2.2.2.2.2 c8
      rw [q] at e
      have := (w_mk_inj e).2
      simp at this
      omega
    · rw [r.2.2.2.2.2.1 c8] at e
      have := (w_mk_inj e).1
      have := r.1.1
      have := r.1.2.1
      omega
  refine m_name T (by omega) (fun J e TJ E he ew e6 e56 e4 e5 => ?_)
  have s0 : w_sz (w_nm nn) = 0 := by
    unfold w_sz w_nm
    rw [w_pts_mk]
    rfl
  refine k _ J (m_L_new h (nn + 1) nm TJ E he e4 ew (by rw [s0]; omega)) (m_e1_f1 E) e56 ⟨by omega, ?_⟩
  rw [List.getElem?_append_right (by omega), show (I 1000 4 + 1 - 1).toNat - mk.length = 0 by omega]
  rfl
/-- a term without signs -/
def w_t0 (s : Nat) (a b c : Wt) : Wt := w_mk s [a, b, c]
def w_t (s : Nat) (a b c : Wt) (l : List Wt) : Wt := w_mk s (a :: b :: c :: l)
/-- the row stands for l -/
def m_rr (I : sr_V) (mk l : List Wt) : Prop := 0 ≤ I 1000 56 ∧ w_sgs mk (m_row I) l
theorem m_rr_len (h : m_rr I mk l) : I 1000 56 = l.length := by
  obtain ⟨h0, h1, h2⟩ := h
  rw [← h2, List.length_map, m_row_len]
  omega
theorem m_rr_0 (e : I 1000 56 = 0) : m_rr I mk [] := by
  have : m_row I = [] := by unfold m_row; rw [e]; rfl
  refine ⟨by omega, ?_, ?_⟩
  · rw [this]; intro x hx; cases hx
  · rw [this]; rfl
theorem m_rr_le (h : m_rr I mk l) (hl : w_le mk mm) : m_rr I mm l := by
  obtain ⟨h0, h1, h2⟩ := h
  have ln := (w_le_len hl).1
  refine ⟨h0, fun x hx => m_vs_up (by omega) (h1 x hx), ?_⟩
  rw [← h2]
  apply List.map_congr_left
  intro x hx
  have := h1 x hx
  unfold m_vs at this
  unfold w_sg
  by_cases c : x < 256
  · rw [if_pos c, if_pos c]
  · rw [if_neg c, if_neg c, w_le_d hl (by omega)]
theorem w_sg_term {x : Int} {w : Wt} (h : w_at mk x w) : m_vs mk.length (256 + x) ∧ w_sg (w_d mk) (256 + x) = w := by
  have := w_at_le h
  refine ⟨⟨by omega, Or.inr ⟨by omega, by omega⟩⟩, ?_⟩
  unfold w_sg
  rw [if_neg (by omega), show (256 + x - 256) = x by omega]
  exact w_at_d h
theorem w_sg_byte {x : Int} (h0 : 0 ≤ x) (h1 : x < 256) : m_vs mk.length x ∧ w_sg (w_d mk) x = w_by x := ⟨⟨h0, Or.inl h1⟩, if_pos h1⟩
theorem m_rr_push {y : Int} {w : Wt} (h : m_rr I mk l) (e56 : J 1000 56 = I 1000 56 + 1) (er : m_row J = m_row I ++ [y]) (hy : m_vs mk.length y ∧ w_sg (w_d mk) y = w) : m_rr J mk (l ++ [w]) := by
  obtain ⟨h0, h1, h2⟩ := h
  refine ⟨by omega, fun x hx => ?_, ?_⟩
  · rw [er, List.mem_append, List.mem_singleton] at hx
    rcases hx with hx | hx
    · exact h1 x hx
    · rw [hx]; exact hy.1
  · rw [er, List.map_append, h2, List.map_singleton, hy.2]
theorem m_e0_fr (h : m_e0 I J) : m_fr [55] [56] I J := ⟨fun g a b => h.1 g (by simpa using a) b, fun f a => h.2 f (by simpa using a)⟩
theorem r_b8 (h : m_rr I mk l) (hl : l.length < 6000) (k : ∀ J, m_rr J mk (l ++ [w_by (x % 256)]) → m_fr [55] [56] I J → R J) : rm_75 x I R := by
  have ln := m_rr_len h
  refine m_b8 h.1 (by omega) (fun J E e56 er => k J (m_rr_push h e56 er ?_) (m_e0_fr E))
  rw [sw_and_255]
  exact w_sg_byte (by omega) (by omega)
theorem r_term {w : Wt} (h : m_rr I mk l) (hl : l.length < 6000) (hm : mk.length ≤ 44999) (hw : w_at mk x w) (k : ∀ J, m_rr J mk (l ++ [w]) → m_fr [55] [56] I J → R J) : rm_76 x I R := by
  have ln := m_rr_len h
  have := w_at_le hw
  exact m_bTerm h.1 (by omega) (by omega) (by omega) (fun J E e56 er => k J (m_rr_push h e56 er (w_sg_term hw)) (m_e0_fr E))
/-- two bytes of a number -/
def w_b16 (x : Int) : List Wt := [w_by (x / 256 % 256), w_by (x % 256)]
theorem r_b16 (hx : sw_c x) (h : m_rr I mk l) (hl : l.length < 5999) (k : ∀ J, m_rr J mk (l ++ w_b16 x) → m_fr [55] [56] I J → R J) : rm_87 x I R := by
  have ln := m_rr_len h
  refine m_b16 h.1 (by omega) (fun J E e56 er => k J ?_ (m_e0_fr E))
  obtain ⟨h0, h1, h2⟩ := h
  have e8 : sw_shr x 8 = x / 256 := sw_shr_k hx (k := 8) (by decide) (by decide)
  rw [sw_and_255, sw_and_255, e8] at er
  refine ⟨by omega, fun y hy => ?_, ?_⟩
  · rw [er, List.mem_append] at hy
    rcases hy with hy | hy
    · exact h1 y hy
    · simp at hy
      rcases hy with hy | hy <;> rw [hy] <;> exact ⟨by omega, Or.inl (by omega)⟩
  · rw [er, List.map_append, h2]
    unfold w_b16
    rw [List.map_cons, List.map_cons, List.map_nil, (w_sg_byte (mk := mk) (x := x / 256 % 256) (by omega) (by omega)).2, (w_sg_byte (mk := mk) (x := x % 256) (by omega) (by omega)).2]
/-- a hash or the byte 0 -/
def w_pb (w : Wt) : Wt := if w = [] then w_by 0 else w
theorem w_at_ne (h : m_L I mk nn K tl) {w : Wt} (hw : w_at mk x w) : w ≠ [] := by
  have hle := w_at_le hw
  have h4 := h.2.2.2.1
  obtain ⟨s, l, _, q⟩ := m_T_d0 h.1 (t := x.toNat) (by omega) (by omega)
  rw [w_at_d hw] at q
  rw [q]
  intro h
  cases h
theorem r_perhaps {w : Wt} (hL : m_L I mk nn K tl) (h : m_rr I mk l) (hl : l.length < 6000) (hm : mk.length ≤ 44999) (hw : w_az mk x w) (k : ∀ J, m_rr J mk (l ++ [w_pb w]) → m_fr [55] [56] I J → R J) : rm_159 x I R := by
  have ln := m_rr_len h
  have hz := w_az_le hw
  refine m_bPerhaps h.1 (by omega) (by omega) (by omega) (fun J E e56 er => k J (m_rr_push h e56 er ?_) (m_e0_fr E))
  rcases hw with ⟨h1, h2⟩ | h1
  · rw [if_pos h1, h2]
    exact w_sg_byte (by omega) (by omega)
  · have := h1.1
    rw [if_neg (by omega)]
    have e : w_pb w = w := if_neg (w_at_ne hL h1)
    rw [e]
    exact w_sg_term h1
/-- a HASH of the row -/
theorem r_hash (hL : m_L I mk nn K tl) (h : m_rr I mk l) (hl : l.length ≤ 6000) (bd : m_bd (w_tl mk (w_t 1 [] [] [] l))) (k : ∀ (t : Int) J, m_L J (w_tl mk (w_t 1 [] [] [] l)) nn K tl → m_f1 I J → J 1000 56 = 0 → w_at (w_tl mk (w_t 1 [] [] [] l)) t (w_t 1 [] [] [] l) → Q t J) : rm_53 1 0 0 0 I Q := by
  have ln := m_rr_len h
  have h4 := hL.2.2.2.1
  have t1 := hL.1.1
  have e : w_tm (w_d mk) 1 0 0 0 (m_row I) = w_t 1 [] [] [] l := by
    unfold w_tm w_t
    rw [h.2.2, if_neg (by decide)]
    rfl
  refine m_mkT hL (by unfold m_va; omega) (by decide) h.1 (by omega) (by rw [h4]; exact h.2.1) (by rw [e]; exact bd) (fun t J a1 a2 a3 a4 _ => ?_)
  rw [e] at a1 a4
  exact k t J a1 a2 a3 a4
/-- a MAC, a DERIVED, a SIGNED of the row: of a known sort, with one part -/
theorem r_part {w : Wt} (hs : s = 2 ∨ s = 7) (hL : m_L I mk nn K tl) (ha : w_at mk a w) (h : m_rr I mk l) (hl : l.length ≤ 6000) (bd : m_bd (w_tl mk (w_t s.toNat w [] [] l))) (k : ∀ (t : Int) J, m_L J (w_tl mk (w_t s.toNat w [] [] l)) nn K tl → m_f1 I J → J 1000 56 = 0 → w_at (w_tl mk (w_t s.toNat w [] [] l)) t (w_t s.toNat w [] [] l) → Q t J) : rm_53 s a 0 0 I Q := by
  have ln := m_rr_len h
  have h4 := hL.2.2.2.1
  have t1 := hL.1.1
  have hle := w_at_le ha
  have e : w_tm (w_d mk) s a 0 0 (m_row I) = w_t s.toNat w [] [] l := by
    unfold w_tm w_t
    rw [h.2.2, if_neg (by omega), w_dz_pos (by omega), w_at_d ha]
    rfl
  refine m_mkT hL (by unfold m_va; omega) (by omega) h.1 (by omega) (by rw [h4]; exact h.2.1) (by rw [e]; exact bd) (fun t J a1 a2 a3 a4 _ => ?_)
  rw [e] at a1 a4
  exact k t J a1 a2 a3 a4
theorem r_derl {w : Wt} (hL : m_L I mk nn K tl) (ha : w_at mk a w) (b0 : 0 ≤ b) (b9 : b ≤ 9) (h : m_rr I mk l) (hl : l.length ≤ 6000) (bd : m_bd (w_tl mk (w_t 3 w [b.toNat] [] l))) (k : ∀ (t : Int) J, m_L J (w_tl mk (w_t 3 w [b.toNat] [] l)) nn K tl → m_f1 I J → J 1000 56 = 0 → w_at (w_tl mk (w_t 3 w [b.toNat] [] l)) t (w_t 3 w [b.toNat] [] l) → Q t J) : rm_53 3 a b 0 I Q := by
  have ln := m_rr_len h
  have h4 := hL.2.2.2.1
  have t1 := hL.1.1
  have hle := w_at_le ha
  have e : w_tm (w_d mk) 3 a b 0 (m_row I) = w_t 3 w [b.toNat] [] l := by
    unfold w_tm w_t
    rw [h.2.2, if_pos rfl, w_dz_pos (by omega), w_at_d ha]
    rfl
  refine m_mkT hL (by unfold m_va; omega) (by omega) h.1 (by omega) (by rw [h4]; exact h.2.1) (by rw [e]; exact bd) (fun t J a1 a2 a3 a4 _ => ?_)
  rw [e] at a1 a4
  exact k t J a1 a2 a3 a4
theorem r_derived {w : Wt} (hL : m_L I mk nn K tl) (ha : w_at mk a w) (b0 : 0 ≤ b) (b9 : b ≤ 9) (bd : m_bd (w_tl mk (w_t 3 w [b.toNat] [] []))) (k : ∀ (t : Int) J, m_L J (w_tl mk (w_t 3 w [b.toNat] [] [])) nn K tl → m_f1 I J → J 1000 56 = 0 → w_at (w_tl mk (w_t 3 w [b.toNat] [] [])) t (w_t 3 w [b.toNat] [] []) → Q t J) : rm_158 a b I Q := by
  unfold rm_158
  intro I2 e2
  have E := m_e0_56 I 0
  rw [← e2] at E
  have f56 : I2 1000 56 = 0 := by rw [e2, su_eq]
  refine r_derl (m_L_e0 hL E) ha b0 b9 (m_rr_0 f56) (by simp) bd (fun t J a1 a2 a3 a4 _ => k t J a1 ?_ a3 a4)
  exact m_fr_trans (m_fr_sub (m_e0_fr E) (by simp) (by simp)) a2
theorem r_public {w : Wt} (hL : m_L I mk nn K tl) (ha : w_at mk a w) (bd : m_bd (w_tl mk (w_t 5 w [] [] []))) (k : ∀ (t : Int) J, m_L J (w_tl mk (w_t 5 w [] [] [])) nn K tl → m_f1 I J → J 1000 56 = 0 → w_at (w_tl mk (w_t 5 w [] [] [])) t (w_t 5 w [] [] []) → Q t J) : rm_66 a I Q := by
  unfold rm_66
  intro I2 e2
  have E := m_e0_56 I 0
  rw [← e2] at E
  have f56 : I2 1000 56 = 0 := by rw [e2, su_eq]
  have L2 := m_L_e0 hL E
  have h4 := L2.2.2.2.1
  have t1 := L2.1.1
  have hle := w_at_le ha
  have hr := m_rr_0 (mk := mk) f56
  have e : w_tm (w_d mk) 5 a 0 0 (m_row I2) = w_t 5 w [] [] [] := by
    unfold w_tm w_t
    rw [hr.2.2, if_neg (by omega), w_dz_pos (by omega), w_at_d ha]
    rfl
  refine m_mkT L2 (by unfold m_va; omega) (by omega) hr.1 (by omega) (by rw [h4]; exact hr.2.1) (by rw [e]; exact bd) (fun t J a1 a2 a3 a4 _ _ => ?_)
  rw [e] at a1 a4
  exact k t J a1 (m_fr_trans (m_fr_sub (m_e0_fr E) (by simp) (by simp)) a2) a3 a4
end
end
