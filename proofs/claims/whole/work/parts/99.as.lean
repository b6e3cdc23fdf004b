/-! ===== the class: make ===== -/
noncomputable section
section
variable {H G X Y Z : sw_H} {d e : Nat → Wt} {nn : Nat} {K : Wt → Prop} {tl tp : List Wt} {ms : List (List Wt)} {rd : Nat → Int} {t : Nat} {x y z m cn cs cn' cs' N U M : Int} {Q : sw_H → Prop} {P : Int → sw_H → Prop} {E : Nat → sw_H → Prop} {A B : List Nat}
theorem c_bd_ex {n u m n1 u1 : Int} (b : c_bd H tl N U M n u m) (h1 : c_n X ≤ c_n H + n1) (h2 : sw_iv X 3 4 ≤ sw_iv H 3 4 + u1) : c_bd X tl N U M (n - n1) (u - u1) m := by
  unfold c_bd at *
  omega
theorem c_make {s a b : Int} (lm : c_lm cn cs N U M) (h : c_I H d nn K tl tp rd ms cn cs) (bd : c_bd H tl N U M 2 tp.length 0) (q1 : w_mk1 tl K s a b → c_I (sw_nw H 112 0 6) d nn K tl tp rd ms (cn + 1) (cs + 6) → c_ch [] H (sw_nw H 112 0 6) → E (sw_n H + 2) (sw_nw H 112 0 6)) (q2 : ¬ w_mk1 tl K s a b → w_mk2 tl tp s a → c_I (sw_nw H 128 0 6) d nn K tl tp rd ms (cn + 1) (cs + 6) → c_ch [] H (sw_nw H 128 0 6) → E (sw_n H + 2) (sw_nw H 128 0 6)) (k : ∀ w G e nn' K', ¬ w_mk1 tl K s a b → ¬ w_mk2 tl tp s a → (s = 0 → w = w_nm nn ∧ nn' = nn + 1 ∧ K' = w_add K w) → (s ≠ 0 → w = w_mkt s (if 1 < s then w_nz tl a else []) (if s = 3 then [b.toNat] else if s = 4 ∨ s = 6 then w_nz tl b else []) tp ∧ nn' = nn ∧ K' = K) → c_I G e nn' K' (w_tl tl w) (if s = 1 ∨ s = 2 ∨ s = 3 ∨ s = 7 then [] else tp) rd ms cn cs → (∀ u : Nat, (u : Int) ≤ c_n H → e u = d u) → c_ch [1417] H G → c_n G ≤ c_n H + 1 → sw_iv G 3 4 ≤ sw_iv H 3 4 + tp.length → P (((w_tl tl w).idxOf w : Nat) + 1) G) : wm_114 2 s a b H P E := by
  have h' := h
  obtain ⟨A, F, q, fl, ad, O, hP, hY, hM⟩ := h'
  have hKc := c_K_clo A.2.2.2.2.2.1
  have sm := c_A_sm lm q A (c_bd_le bd (by omega) (by omega) (by omega))
  have tt : sw_ty H (sw_rv H 2 0) = 96 := by rw [O.2.1]; exact A.1.1.1
  have o2 := O.2.1
  have r5 := O.2.2.2.2.2.1
  have ln := c_sg_len hP.1
  have ty5 : sw_ty H (sw_rv H 2 5) = 80 := by
    obtain ⟨l, p1, _⟩ := hP.1
    rw [r5]; exact p1.1
  have s1 := c_A_sh A
  unfold wm_114
  refine c_isMakeable h (fun hm _ _ => ⟨fun e => absurd rfl e, fun _ => ⟨by omega, by omega, ?_⟩⟩) (fun hm _ _ => ⟨fun _ => ⟨tt, ?_⟩, fun e => absurd e (by decide)⟩)
  · intro H79 e79
    rw [e79]
    have := c_I_throw h 112
    exact q1 hm this.1 this.2
  intro q56 e56
  rw [e56, o2]
  have hs0 : 0 ≤ s ∧ s ≤ 7 := by
    unfold w_mk1 at hm
    refine ⟨?_, ?_⟩
    · exact Int.not_lt.mp (fun c => hm (Or.inl c))
    · exact Int.not_lt.mp (fun c => hm (Or.inr (Or.inl c)))
  have hA : 1 < s → w_has tl K a := fun c => Classical.byContradiction (fun g => hm (Or.inr (Or.inr (Or.inl ⟨c, g⟩))))
  have hB : s = 4 ∨ s = 6 → w_has tl K b := fun c => Classical.byContradiction (fun g => hm (Or.inr (Or.inr (Or.inr (Or.inl ⟨c, g⟩)))))
  have h3 : s = 3 → 0 ≤ b ∧ b ≤ 9 := fun c => by
    refine ⟨?_, ?_⟩
    · exact Int.not_lt.mp (fun g => hm (Or.inr (Or.inr (Or.inr (Or.inr ⟨c, Or.inl g⟩)))))
    · exact Int.not_lt.mp (fun g => hm (Or.inr (Or.inr (Or.inr (Or.inr ⟨c, Or.inr g⟩)))))
  -- from the first part on
  have go : ∀ f : Nat, (f : Int) ≤ c_n H → (1 < s → 1 ≤ f ∧ d f = w_nz tl a ∧ K (d f)) → (s = 6 → c_d H f 0 = 5) → (s = 6 → ∀ w, w_no tl a = some w → w.head? = some 5) → wb_114_30 P E 2 s b f H := by
    intro f hf hf1 hf6 hf7
    have last : ∀ z : Int, (z = 1 ∧ (s = 1 ∨ s = 2 ∨ s = 3 ∨ s = 7) ∨ z = 0 ∧ ¬ (s = 1 ∨ s = 2 ∨ s = 3 ∨ s = 7)) → ¬ w_mk2 tl tp s a → wb_114_58 P E 2 s b f z H := by
      intro z hz nm2
      unfold wb_114_58
      refine c_makeTerm lm h (c_bd_le bd (by omega) (by omega) (by omega)) hs0.1 hs0.2 (by omega) hf (fun c => by
        have := hf1 c
        rw [Int.toNat_natCast]
        exact ⟨by omega, this.2.2⟩) hB h3 (fun c => by rw [Int.toNat_natCast]; exact hf6 c) (fun w X e nn' t w0 w1 IX ex ht he nX uX _ _ => ?_)
      have fin : ∀ Y, c_I Y e nn' K tl (if s = 1 ∨ s = 2 ∨ s = 3 ∨ s = 7 then [] else tp) rd ms cn cs → c_ch [1417] X Y → c_n Y = c_n X → sw_iv Y 3 4 = sw_iv X 3 4 → wb_114_69 P E 2 t Y := by
        intro Y IY cY nY uY
        have tY : c_R Y t := ⟨ht.1, by rw [nY]; exact ht.2⟩
        refine c_make_t lm IY (c_bd_le (c_bd_ex (n1 := 1) (u1 := tp.length) bd (by omega) (by omega)) (by omega) (by omega) (by omega)) tY he (fun G IG cG nG uG => ?_)
        have ch : c_ch [1417] H G := c_ch_sub (c_ch_trans (c_ft_ch ex.1) (c_ch_trans cY cG)) (by simp)
        by_cases cs0 : s = 0
        · obtain ⟨g1, g2⟩ := w0 cs0
          exact k w G e nn' (w_add K w) hm nm2 (fun _ => ⟨g1, g2, rfl⟩) (fun c => absurd cs0 c) IG ex.2.2 ch (by omega) (by omega)
        · obtain ⟨g1, g2, g3⟩ := w1 cs0
          have eK : w_add K w = K := w_add_in hKc g3
          rw [eK] at IG
          refine k w G e nn' K hm nm2 (fun c => absurd c cs0) (fun _ => ⟨?_, g2, rfl⟩) IG ex.2.2 ch (by omega) (by omega)
          rw [g1, Int.toNat_natCast]
          by_cases c1 : 1 < s
          · rw [if_pos c1, if_pos c1, (hf1 c1).2.1]
          · rw [if_neg c1, if_neg c1]
      refine ⟨fun c => ?_, fun c => ⟨?_, ?_⟩⟩
      · have ns : ¬ (s = 1 ∨ s = 2 ∨ s = 3 ∨ s = 7) := by
          rcases hz with g | g
          · omega
          · exact g.2
        refine fin X ?_ (c_ch_sub (c_ft_ch (c_ft_refl X)) (by simp)) rfl rfl
        rw [if_neg ns]
        exact IX
      · have OX := IX.2.2.2.2.2.1
        obtain ⟨l, p1, _⟩ := IX.2.2.2.2.2.2.1.1
        rw [OX.2.2.2.2.2.1]; exact p1.1
      · intro q25 e25
        have OX := IX.2.2.2.2.2.1
        have PX := IX.2.2.2.2.2.2.1
        obtain ⟨l, p1, _⟩ := PX.1
        rw [e25, OX.2.2.2.2.2.1]
        refine c_clear p1 (fun D rD fD _ => ?_)
        have ys : s = 1 ∨ s = 2 ∨ s = 3 ∨ s = 7 := by
          rcases hz with g | g
          · exact g.2
          · exact absurd g.1 c
        obtain ⟨y1, y2, y3, y4, y5, y6, y7⟩ := c_I_fr IX fD (by simp)
        have ad2 := IX.2.2.2.2.1
        have fl2 := IX.2.2.2.1
        refine fin D ?_ y6 y7 (by rw [fD.2.2.2.2.2 3 (by simp)])
        rw [if_pos ys]
        exact ⟨y1, y2, y3, y4, y5, c_O_ch OX y6 ad2 fl2 (by simp), ⟨⟨[], rD, by simp, rfl⟩, by rw [fD.2.2.2.1]; exact PX.2⟩, c_Y_ch IX.2.2.2.2.2.2.2.1 y6 ad2 (by simp), c_M_ch IX.2.2.2.2.2.2.2.2 y6 ad2 fl2 (by simp) (by simp) (by simp) (by omega) (fun _ _ => rfl)⟩
    have mid : ∀ z : Int, (z = 1 ∧ (s = 1 ∨ s = 2 ∨ s = 3 ∨ s = 7) ∨ z = 0 ∧ ¬ (s = 1 ∨ s = 2 ∨ s = 3 ∨ s = 7)) → wb_114_45 P E 2 s b f z H := by
      intro z hz
      have no6 : (s = 1 ∨ s = 2 ∨ s = 3 ∨ s = 7 → tp.length ≤ 300) → ¬ w_mk2 tl tp s a := fun g hm2 => by
        unfold w_mk2 at hm2
        rcases hm2 with ⟨c6, g6⟩ | ⟨g1, g2⟩
        · obtain ⟨w, hw, _⟩ := hA (by omega)
          exact g6 w hw (hf7 c6 w hw)
        · have := g g1; omega
      unfold wb_114_45
      refine ⟨fun c => last z hz (no6 (fun g => ?_)), fun c => ⟨ty5, ?_⟩⟩
      · rcases hz with g' | g'
        · omega
        · exact absurd g g'.2
      · intro q37 e37 v40 e40 _
        rw [e37, r5, ln.1] at e40
        subst e40
        refine ⟨fun c2 => last z hz (no6 (fun _ => by omega)), fun c2 => ⟨by omega, by omega, ?_⟩⟩
        intro H43 e43
        rw [e43]
        have := c_I_throw h 128
        refine q2 hm (Or.inr ⟨?_, by omega⟩) this.1 this.2
        rcases hz with g' | g'
        · exact g'.2
        · exact absurd g'.1 c
    unfold wb_114_30
    exact ⟨fun c => mid 1 (Or.inl ⟨rfl, Or.inl c⟩), fun c1 => ⟨fun c => mid 1 (Or.inl ⟨rfl, Or.inr (Or.inl c)⟩), fun c2 => ⟨fun c => mid 1 (Or.inl ⟨rfl, Or.inr (Or.inr (Or.inl c))⟩), fun c3 => ⟨fun c => mid 0 (Or.inr ⟨rfl, by omega⟩), fun c => mid 1 (Or.inl ⟨rfl, Or.inr (Or.inr (Or.inr c))⟩)⟩⟩⟩⟩
  refine c_numbered A (fun hno _ _ => ⟨fun c6 => ?_, fun c6 => ?_⟩) (fun w f hw hf hd _ _ => ⟨fun c6 => ?_, fun c6 => ⟨tt, ?_⟩⟩)
  · refine go 0 (by have := A.1.2.2.1; omega) (fun c => ?_) (fun c => absurd c c6) (fun c => absurd c c6)
    obtain ⟨w, hw, _⟩ := hA c
    rw [hno] at hw
    cases hw
  · obtain ⟨w, hw, _⟩ := hA (by omega)
    rw [hno] at hw
    cases hw
  · refine go f hf.2 (fun c => ?_) (fun c => absurd c c6) (fun c => absurd c c6)
    obtain ⟨w', hw', hk⟩ := hA c
    rw [hw] at hw'
    cases hw'
    have e : w_nz tl a = w := by unfold w_nz; rw [hw]; rfl
    exact ⟨hf.1, by rw [e, hd], by rw [hd]; exact hk⟩
  · intro q67 e67
    rw [e67, o2]
    have s5 := c_sort5 A.1 hf
    refine c_sortOf s1 hf.2 (fun _ _ => ⟨fun c5 => ?_, fun c5 => ⟨by omega, by omega, ?_⟩⟩)
    · refine go f hf.2 (fun c => ?_) (fun _ => c5) (fun _ w' hw' => ?_)
      · obtain ⟨w', hw', hk⟩ := hA c
        rw [hw] at hw'
        cases hw'
        have e : w_nz tl a = w := by unfold w_nz; rw [hw]; rfl
        exact ⟨hf.1, by rw [e, hd], by rw [hd]; exact hk⟩
      · rw [hw] at hw'
        cases hw'
        rw [← hd]
        exact s5.mp c5
    · intro H75 e75
      rw [e75]
      have := c_I_throw h 128
      refine q2 hm (Or.inl ⟨c6, fun w' hw' hh => ?_⟩) this.1 this.2
      rw [hw] at hw'
      cases hw'
      rw [← hd] at hh
      exact c5 (s5.mpr hh)
end
end
