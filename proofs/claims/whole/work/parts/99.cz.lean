/-! ===== the class: keepProposal ===== -/
noncomputable section
variable {H Z X Y : sw_H} {nn nm r ra g m n : Nat} {K K' S : Wt → Prop} {tl tl' tp mk mm l : List Wt} {ms : List (List Wt)} {rd : Nat → Int} {a b c x y cn cs cn' cs' N U M : Int} {Q : sw_H → Prop} {P : Int → sw_H → Prop} {A B : List Nat} {w h : Wt} {La : Nat → List (Wt × Nat)} {L : List (Wt × Nat)}
def w_upd {A : Type} (f : Nat → A) (m : Nat) (v : A) : Nat → A := fun i => if i = m then v else f i
theorem w_upd_eq {A : Type} (f : Nat → A) (m : Nat) (v : A) : w_upd f m v m = v := if_pos rfl
theorem w_upd_ne {A : Type} (f : Nat → A) {m i : Nat} (v : A) (h : i ≠ m) : w_upd f m v i = f i := if_neg h
theorem c_kput {x : Int} (hm : m < 24) (hW : c_W H mk nn K tl cn cs) (hX : c_X H mk tp rd ms) (hMS : c_MS H mk) (hK : c_KS H mk ms La) (hlt : (La m).length < sw_ln H (c_ka H m 8)) (hx : w_at mk x h) (q : ∀ G, c_W G mk nn K tl cn cs → c_X G mk tp rd ms → c_KS G mk ms (w_upd La m (La m ++ [(h, n)])) → (∀ f, f ≠ 9 → sw_iv G (120 + 54 * m) f = sw_iv H (120 + 54 * m) f) → c_fr [120 + 54 * m, c_ka H m 7, c_ka H m 8] H G → Q G) : wb_174_32 Q (120 + 54 * m) n x H := by
  obtain ⟨kp, p1, p2, p3⟩ := hK.1 m hm
  have kp0 := kp
  obtain ⟨⟨t7, t8⟩, e1, e2, e3, ⟨o7, o8⟩, l7, l8⟩ := kp
  have ne78 : c_ka H m 7 ≠ c_ka H m 8 := fun e => by
    have := (hK.2.1 m m 7 8 hm hm (Or.inl rfl) (Or.inr rfl) e).2
    omega
  have tm : sw_ty H (120 + 54 * m) = 56 := (hMS.2.2 m hm).2.1
  have m7 : 120 + 54 * m ≠ c_ka H m 7 := fun e => by rw [← e, tm] at t7; exact absurd t7 (by decide)
  have m8 : 120 + 54 * m ≠ c_ka H m 8 := fun e => by rw [← e, tm] at t8; exact absurd t8 (by decide)
  unfold wb_174_32
  refine ⟨t7, ?_⟩
  intro q1 eq1 v4 e4 _
  have eq1 : q1 = c_ka H m 7 := eq1
  rw [p1] at e4
  rw [eq1, e4]
  refine ⟨by omega, by omega, ?_⟩
  intro H7 e7
  rw [Int.toNat_natCast] at e7
  have f7 : c_fr [c_ka H m 7] H H7 := by rw [e7]; exact c_fr_si _ _ _ _
  rw [f7.2.2.2.2.1]
  refine ⟨by rw [f7.2.2.1]; exact t8, ?_⟩
  intro q10 eq10 v13 e13 _
  have eq10 : q10 = c_ka H m 8 := eq10
  rw [f7.2.2.2.2.2 _ (by simpa using m7), p1] at e13
  rw [eq10, e13]
  refine ⟨by omega, by rw [f7.2.2.2.1]; omega, ?_⟩
  intro H16 e16
  rw [Int.toNat_natCast] at e16
  have f16 : c_fr [c_ka H m 8] H7 H16 := by rw [e16]; exact c_fr_si _ _ _ _
  intro v19 e19 _
  rw [f16.2.2.2.2.2 _ (by simpa using m8), f7.2.2.2.2.2 _ (by simpa using m7), p1] at e19
  intro H22 e22
  rw [e19, sw_w_s (by omega) (by omega)] at e22
  have f22 : c_fr [120 + 54 * m] H16 H22 := by rw [e22]; exact c_fr_si _ _ _ _
  have fr : c_fr [120 + 54 * m, c_ka H m 7, c_ka H m 8] H H22 := c_fr_sub (c_fr_trans (c_fr_trans f7 f16) f22) (by simp)
  have iM : ∀ f, sw_iv H22 (120 + 54 * m) f = if f = 9 then ((La m).length : Int) + 1 else sw_iv H (120 + 54 * m) f := fun f => by
    rw [e22, sw_iv_si]
    by_cases c : f = 9
    · rw [if_pos ⟨rfl, c⟩, if_pos c]
    · rw [if_neg (fun e => c e.2), if_neg c, f16.2.2.2.2.2 _ (by simpa using m8), f7.2.2.2.2.2 _ (by simpa using m7)]
  have i7 : ∀ j, sw_iv H22 (c_ka H m 7) j = if j = (La m).length then (n : Int) else sw_iv H (c_ka H m 7) j := fun j => by
    rw [f22.2.2.2.2.2 _ (by simpa using m7.symm), f16.2.2.2.2.2 _ (by simpa using ne78), e7, sw_iv_si]
    by_cases c : j = (La m).length
    · rw [if_pos ⟨rfl, c⟩, if_pos c]
    · rw [if_neg (fun e => c e.2), if_neg c]
  have i8 : ∀ j, sw_iv H22 (c_ka H m 8) j = if j = (La m).length then x else sw_iv H (c_ka H m 8) j := fun j => by
    rw [f22.2.2.2.2.2 _ (by simpa using m8.symm), e16, sw_iv_si]
    by_cases c : j = (La m).length
    · rw [if_pos ⟨rfl, c⟩, if_pos c]
    · rw [if_neg (fun e => c e.2), if_neg c, f7.2.2.2.2.2 _ (by simpa using ne78.symm)]
  clear e7 e16 e22 f7 f16 f22
  have om : ¬ c_ow H (120 + 54 * m) := c_fix_no hW.1.2.2.2.2 (by unfold c_fix; omega)
  have k15 := c_kp_15 kp0
  have FZ : c_F H22 := fun c hc => by rw [fr.2.2.1]; exact hW.1.2.1 c (by rw [← fr.1]; exact hc)
  obtain ⟨WZ, CZ⟩ := c_W_al2 (cn' := cn) (cs' := cs) hW (c_fr_al fr) FZ (fun a ha => by
    simp only [List.mem_cons, List.not_mem_nil, or_false] at ha
    rcases ha with e | e | e
    · rw [e]; exact ⟨om, by omega⟩
    · rw [e]; exact ⟨o7, k15.1⟩
    · rw [e]; exact ⟨o8, k15.2⟩) (by rw [fr.1]; omega) (by rw [fr.2.1]; omega)
  have XZ := c_X_ch2 hW.1 hX CZ WZ.1 (w_le_refl _) (fun a ha => by
    simp only [List.mem_cons, List.not_mem_nil, or_false] at ha
    rcases ha with e | e | e
    · rw [e]
      intro c
      rcases c with c | c | ⟨i, hi, c | c⟩
      · omega
      · omega
      · obtain ⟨l, hl⟩ : ∃ l, ms[i]? = some l := ⟨ms[i]'hi, List.getElem?_eq_getElem hi⟩
        obtain ⟨g1, _⟩ := hX.2.2.2.2.2 i l hl
        omega
      · obtain ⟨l, hl⟩ : ∃ l, ms[i]? = some l := ⟨ms[i]'hi, List.getElem?_eq_getElem hi⟩
        obtain ⟨_, _, _, a, g4, _, s, qq, _⟩ := hX.2.2.2.2.2 i l hl
        rw [qq.2.1] at c
        omega
    · rw [e]; exact c_kp_ml hX hK hm (Or.inl rfl)
    · rw [e]; exact c_kp_ml hX hK hm (Or.inr rfl))
  have ka : ∀ m' f, c_ka H22 m' f = c_ka H m' f := fun m' f => fr.2.2.2.2.1 _ _
  have ow : ∀ a, sw_ty H a ≠ 0 → ¬ c_ow H a → ¬ c_ow H22 a := fun a h1 h2 => c_ch_no CZ h1 h2
  refine q H22 WZ XZ ⟨fun m' hm' => ?_, ?_, ?_⟩ (fun f hf => by rw [iM, if_neg hf]) fr
  · obtain ⟨kp', pp'⟩ := hK.1 m' hm'
    obtain ⟨⟨t7', t8'⟩, e1', e2', e3', ⟨o7', o8'⟩, l7', l8'⟩ := kp'
    refine ⟨?_, ?_⟩
    · unfold c_kp
      rw [ka, ka, fr.2.2.1, fr.2.2.1, fr.2.2.2.1, fr.2.2.2.1]
      exact ⟨⟨t7', t8'⟩, e1', e2', e3', ⟨ow _ (by rw [t7']; decide) o7', ow _ (by rw [t8']; decide) o8'⟩, l7', l8'⟩
    · unfold c_pp
      rw [ka, ka, fr.2.2.2.1]
      by_cases cm : m' = m
      · subst cm
        rw [w_upd_eq, iM, if_pos rfl]
        refine ⟨by simp, by rw [List.length_append]; simp; omega, fun i k h' hi => ?_⟩
        rw [i7, i8]
        by_cases ci : i < (La m').length
        · rw [List.getElem?_append_left ci] at hi
          rw [if_neg (by omega), if_neg (by omega)]
          exact p3 i k h' hi
        · have ei : i = (La m').length := by
            have := (List.getElem?_eq_some_iff.mp hi).1
            rw [List.length_append] at this
            simp at this
            omega
          subst ei
          rw [List.getElem?_append_right (by omega), Nat.sub_self] at hi
          have hi := Option.some.inj hi
          rw [Prod.mk.injEq] at hi
          rw [if_pos rfl, if_pos rfl, ← hi.1, ← hi.2]
          exact ⟨rfl, hx⟩
      · rw [w_upd_ne _ _ cm]
        obtain ⟨pp1, pp2, pp3⟩ := pp'
        have na : ∀ f f', f = 7 ∨ f = 8 → f' = 7 ∨ f' = 8 → c_ka H m' f ≠ c_ka H m f' := fun f f' hf hf' e => cm (hK.2.1 m' m f f' hm' hm hf hf' e).1
        have nM : ∀ f, f = 7 ∨ f = 8 → c_ka H m' f ≠ 120 + 54 * m := fun f hf e => by
          rcases hf with ef | ef
          · rw [ef] at e; rw [e, tm] at t7'; exact absurd t7' (by decide)
          · rw [ef] at e; rw [e, tm] at t8'; exact absurd t8' (by decide)
        have q7 : sw_iv H22 (c_ka H m' 7) = sw_iv H (c_ka H m' 7) := fr.2.2.2.2.2 _ (by
          simp only [List.mem_cons, List.not_mem_nil, or_false, not_or]
          exact ⟨nM 7 (Or.inl rfl), na 7 7 (Or.inl rfl) (Or.inl rfl), na 7 8 (Or.inl rfl) (Or.inr rfl)⟩)
        have q8 : sw_iv H22 (c_ka H m' 8) = sw_iv H (c_ka H m' 8) := fr.2.2.2.2.2 _ (by
          simp only [List.mem_cons, List.not_mem_nil, or_false, not_or]
          exact ⟨nM 8 (Or.inr rfl), na 8 7 (Or.inr rfl) (Or.inl rfl), na 8 8 (Or.inr rfl) (Or.inr rfl)⟩)
        have q9 : sw_iv H22 (120 + 54 * m') = sw_iv H (120 + 54 * m') := fr.2.2.2.2.2 _ (by
          simp only [List.mem_cons, List.not_mem_nil, or_false, not_or]
          refine ⟨by omega, fun e => ?_, fun e => ?_⟩
          · have := (hMS.2.2 m' hm').2.1
            rw [e, t7] at this
            exact absurd this (by decide)
          · have := (hMS.2.2 m' hm').2.1
            rw [e, t8] at this
            exact absurd this (by decide))
        rw [q7, q8, q9]
        exact ⟨pp1, pp2, pp3⟩
  · intro m' m'' f f' h1 h2 h3 h4 e
    rw [ka, ka] at e
    exact hK.2.1 m' m'' f f' h1 h2 h3 h4 e
  · intro m' f i h1 h2 h3
    rw [ka, fr.2.2.2.2.1, fr.2.2.2.2.1]
    exact hK.2.2 m' f i h1 h2 h3
/-- both arrays made anew, twice as long -/
theorem c_kgrow {Z : sw_H} (hm : m < 24) (hW : c_W H mk nn K tl cn cs) (hX : c_X H mk tp rd ms) (hMS : c_MS H mk) (hK : c_KS H mk ms La) (h400 : sw_ln H (c_ka H m 8) ≤ 400) (z1 : sw_n Z = sw_n H + 2) (z2 : sw_s Z = sw_s H + 4 * sw_ln H (c_ka H m 8)) (z3 : ∀ c, sw_ty Z c = if c = sw_n H + 3 ∨ c = sw_n H + 2 then 1 else sw_ty H c) (z4 : ∀ c, sw_ln Z c = if c = sw_n H + 3 ∨ c = sw_n H + 2 then 2 * sw_ln H (c_ka H m 8) else sw_ln H c) (z5 : ∀ c f, c ≠ sw_n H + 3 → c ≠ sw_n H + 2 → sw_iv Z c f = sw_iv H c f) (z6 : ∀ c f, c ≠ sw_n H + 3 → c ≠ sw_n H + 2 → ¬ (c = 120 + 54 * m ∧ (f = 7 ∨ f = 8)) → sw_rv Z c f = sw_rv H c f) (z7 : ∀ j, j < sw_ln H (c_ka H m 8) → sw_iv Z (sw_n H + 2) j = sw_iv H (c_ka H m 7) j ∧ sw_iv Z (sw_n H + 3) j = sw_iv H (c_ka H m 8) j) (z8 : c_ka Z m 7 = sw_n H + 2 ∧ c_ka Z m 8 = sw_n H + 3) : c_W Z mk nn K tl (cn + 2) (cs + 4 * sw_ln H (c_ka H m 8)) ∧ c_X Z mk tp rd ms ∧ c_KS Z mk ms La ∧ c_ch [120 + 54 * m] H Z ∧ sw_ln Z (c_ka Z m 8) = 2 * sw_ln H (c_ka H m 8) := by
  have ne : ∀ c, sw_ty H c ≠ 0 → c < sw_n H + 2 := fun c hc => by
    rcases Nat.lt_or_ge c (sw_n H + 2) with q | q
    · exact q
    · exact absurd (hW.1.2.1 c q) hc
  have n91 := ne 1491 (hW.1.2.2.2.1 1491 (by decide) (by decide))
  have al : c_al [120 + 54 * m] H Z := by
    refine ⟨⟨by omega, fun c hc => ?_⟩, fun c hc hn => ⟨fun f => ?_, fun f => ?_⟩⟩
    · have := ne c hc
      rw [z3, z4, if_neg (by omega), if_neg (by omega)]
      exact ⟨rfl, rfl⟩
    · have := ne c hc
      exact z5 c f (by omega) (by omega)
    · have := ne c hc
      simp at hn
      exact z6 c f (by omega) (by omega) (fun e => hn e.1)
  have FZ : c_F Z := fun c hc => by
    rw [z3, if_neg (by omega)]
    exact hW.1.2.1 c (by omega)
  have om : ¬ c_ow H (120 + 54 * m) := c_fix_no hW.1.2.2.2.2 (by unfold c_fix; omega)
  obtain ⟨WZ, CZ⟩ := c_W_al2 (cn' := cn + 2) (cs' := cs + 4 * sw_ln H (c_ka H m 8)) hW al FZ (fun a ha => by
    simp only [List.mem_cons, List.not_mem_nil, or_false] at ha
    rw [ha]; exact ⟨om, by omega⟩) (by rw [z1]; omega) (by rw [z2]; omega)
  have XZ := c_X_ch2 hW.1 hX CZ WZ.1 (w_le_refl _) (fun a ha => by
    simp only [List.mem_cons, List.not_mem_nil, or_false] at ha
    rw [ha]
    intro c
    rcases c with c | c | ⟨i, hi, c | c⟩
    · omega
    · omega
    · obtain ⟨l, hl⟩ : ∃ l, ms[i]? = some l := ⟨ms[i]'hi, List.getElem?_eq_getElem hi⟩
      obtain ⟨g1, _⟩ := hX.2.2.2.2.2 i l hl
      omega
    · obtain ⟨l, hl⟩ : ∃ l, ms[i]? = some l := ⟨ms[i]'hi, List.getElem?_eq_getElem hi⟩
      obtain ⟨_, _, _, a, g4, _, s, qq, _⟩ := hX.2.2.2.2.2 i l hl
      rw [qq.2.1] at c
      omega)
  obtain ⟨k7, k8⟩ := z8
  have ka : ∀ m' f, m' < 24 → f = 7 ∨ f = 8 → m' ≠ m → c_ka Z m' f = c_ka H m' f := fun m' f hm' hf hne => z6 _ _ (by omega) (by omega) (by omega)
  have kb : ∀ m' f, m' < 24 → f = 7 ∨ f = 8 → c_ka H m' f < sw_n H + 2 := fun m' f hm' hf => by
    obtain ⟨kp, _⟩ := hK.1 m' hm'
    rcases hf with e | e
    · rw [e]; exact ne _ (by rw [kp.1.1]; decide)
    · rw [e]; exact ne _ (by rw [kp.1.2]; decide)
  have nw : ∀ c, sw_n H + 2 ≤ c → ¬ c_ow Z c := fun c hc o => by
    rcases (c_al_ow al (hW.1.2.2.2.1 3 (by decide) (by decide)) (by simp; omega) c).mp o with e | e
    · omega
    · have S := hW.1.1.1.1.1
      have key : ∀ f, sw_ty H (sw_rv H 3 f) = 1 → c = sw_rv H 3 f → False := fun f hf e => by
        have := ne (sw_rv H 3 f) (by rw [hf]; decide)
        omega
      rcases e with e | e | e | e | e
      · exact key 1 S.2.1 e
      · exact key 3 S.2.2.1 e
      · exact key 5 S.2.2.2.1 e
      · exact key 6 S.2.2.2.2.1 e
      · exact key 8 S.2.2.2.2.2.1 e
  have l8 : sw_ln Z (sw_n H + 3) = 2 * sw_ln H (c_ka H m 8) := by rw [z4, if_pos (Or.inl rfl)]
  have l7 : sw_ln Z (sw_n H + 2) = 2 * sw_ln H (c_ka H m 8) := by rw [z4, if_pos (Or.inr rfl)]
  refine ⟨WZ, XZ, ⟨fun m' hm' => ?_, ?_, ?_⟩, CZ, by rw [k8]; exact l8⟩
  · obtain ⟨kp', pp'⟩ := hK.1 m' hm'
    by_cases cm : m' = m
    · subst cm
      obtain ⟨p1, p2, p3⟩ := pp'
      have l20 := kp'.2.2.1
      refine ⟨?_, ?_⟩
      · unfold c_kp
        rw [k7, k8, l7, l8, z3, z3, if_pos (Or.inr rfl), if_pos (Or.inl rfl)]
        exact ⟨⟨rfl, rfl⟩, rfl, by omega, by omega, ⟨nw _ (by omega), nw _ (by omega)⟩, Or.inr (by omega), Or.inr (by omega)⟩
      · unfold c_pp
        rw [k7, k8, l8, z5 _ _ (by omega) (by omega)]
        refine ⟨p1, by omega, fun i k h hi => ?_⟩
        have hlt := (List.getElem?_eq_some_iff.mp hi).1
        rw [(z7 i (by omega)).1, (z7 i (by omega)).2]
        exact p3 i k h hi
    · obtain ⟨p1, p2, p3⟩ := pp'
      obtain ⟨⟨t7', t8'⟩, e1', e2', e3', ⟨o7', o8'⟩, l7', l8'⟩ := kp'
      have b7 := kb m' 7 hm' (Or.inl rfl)
      have b8 := kb m' 8 hm' (Or.inr rfl)
      refine ⟨?_, ?_⟩
      · unfold c_kp
        rw [ka m' 7 hm' (Or.inl rfl) cm, ka m' 8 hm' (Or.inr rfl) cm, z3, z3, z4, z4, if_neg (by omega), if_neg (by omega), if_neg (by omega), if_neg (by omega)]
        exact ⟨⟨t7', t8'⟩, e1', e2', e3', ⟨c_ch_no CZ (by rw [t7']; decide) o7', c_ch_no CZ (by rw [t8']; decide) o8'⟩, l7', l8'⟩
      · unfold c_pp
        rw [ka m' 7 hm' (Or.inl rfl) cm, ka m' 8 hm' (Or.inr rfl) cm, z4, if_neg (by omega), z5 _ _ (by omega) (by omega)]
        refine ⟨p1, p2, fun i k h hi => ?_⟩
        rw [z5 _ _ (by omega) (by omega), z5 _ _ (by omega) (by omega)]
        exact p3 i k h hi
  · intro m1 m2 f f' h1 h2 h3 h4 e
    by_cases c1 : m1 = m
    · by_cases c2 : m2 = m
      · subst c1; subst c2
        refine ⟨rfl, ?_⟩
        rcases h3 with e3 | e3 <;> rcases h4 with e4 | e4 <;> subst e3 <;> subst e4
        · rfl
        · rw [k7, k8] at e; omega
        · rw [k7, k8] at e; omega
        · rfl
      · exfalso
        subst c1
        rw [ka m2 f' h2 h4 c2] at e
        have := kb m2 f' h2 h4
        rcases h3 with e3 | e3 <;> subst e3
        · rw [k7] at e; omega
        · rw [k8] at e; omega
    · by_cases c2 : m2 = m
      · exfalso
        subst c2
        rw [ka m1 f h1 h3 c1] at e
        have := kb m1 f h1 h3
        rcases h4 with e3 | e3 <;> subst e3
        · rw [k7] at e; omega
        · rw [k8] at e; omega
      · rw [ka m1 f h1 h3 c1, ka m2 f' h2 h4 c2] at e
        exact hK.2.1 m1 m2 f f' h1 h2 h3 h4 e
  · intro m1 f i h1 h3 hi
    obtain ⟨l, hl⟩ : ∃ l, ms[i]? = some l := ⟨ms[i]'hi, List.getElem?_eq_getElem hi⟩
    obtain ⟨g1, _, _, a, g4, _, s, qq, _⟩ := hX.2.2.2.2.2 i l hl
    have nr := ne _ (show sw_ty H (sw_rv H 1416 i) ≠ 0 by rw [qq.1]; decide)
    have na := ne _ (show sw_ty H a ≠ 0 by rw [qq.2.2.1]; decide)
    rw [z6 1416 i (by omega) (by omega) (by omega), z6 (sw_rv H 1416 i) 0 (by omega) (by omega) (by omega)]
    by_cases c1 : m1 = m
    · subst c1
      rw [qq.2.1]
      rcases h3 with e3 | e3 <;> subst e3
      · rw [k7]; omega
      · rw [k8]; omega
    · rw [ka m1 f h1 h3 c1]
      exact hK.2.2 m1 f i h1 h3 hi
theorem c_keepProposal {x : Int} (hm : m < 24) (hW : c_W H mk nn K tl cn cs) (hX : c_X H mk tp rd ms) (hMS : c_MS H mk) (hK : c_KS H mk ms La) (hL3 : (La m).length < 340) (room : sw_n H + 4 ≤ sxlim.1 ∧ sw_s H + 1400 ≤ sxlim.2) (hx : w_at mk x h) (q : ∀ G cn' cs', ((cn' = cn ∧ cs' = cs ∧ sw_ln G (c_ka G m 8) = sw_ln H (c_ka H m 8)) ∨ (cn' = cn + 2 ∧ cs' = cs + 4 * sw_ln H (c_ka H m 8) ∧ sw_ln G (c_ka G m 8) = 2 * sw_ln H (c_ka H m 8) ∧ sw_ln H (c_ka H m 8) < 340)) → c_W G mk nn K tl cn' cs' → c_X G mk tp rd ms → c_KS G mk ms (w_upd La m (w_kp (La m) h n)) → (∀ f, f ≠ 9 → sw_iv G (120 + 54 * m) f = sw_iv H (120 + 54 * m) f) → (∀ f, f ≠ 7 → f ≠ 8 → sw_rv G (120 + 54 * m) f = sw_rv H (120 + 54 * m) f) → c_ch [120 + 54 * m, c_ka H m 7, c_ka H m 8] H G → Q G) : wm_174 (120 + 54 * m) n x H Q := by
  obtain ⟨kp, pp⟩ := hK.1 m hm
  have kp0 := kp
  have nd := c_L_nd hW.1.1
  unfold wm_174
  refine c_indexOf nd kp pp hx (fun i k hi _ _ => ⟨fun c => by omega, fun _ => ?_⟩) (fun hno _ _ => ⟨fun _ => ?_, fun c => absurd rfl c⟩)
  · refine q H cn cs (Or.inl ⟨rfl, rfl, rfl⟩) hW hX ?_ (fun _ _ => rfl) (fun _ _ _ => rfl) (c_ch_refl _ _)
    have e : w_upd La m (w_kp (La m) h n) = La := by
      funext i
      by_cases c : i = m
      · subst c
        rw [w_upd_eq]
        unfold w_kp
        rw [if_pos (List.mem_map.mpr ⟨_, List.mem_of_getElem? hi, rfl⟩)]
      · exact w_upd_ne _ _ c
    rw [e]
    exact hK
  · have ek : w_kp (La m) h n = La m ++ [(h, n)] := by unfold w_kp; rw [if_neg hno]
    rw [ek] at q
    obtain ⟨p1, p2, p3⟩ := pp
    obtain ⟨⟨t7, t8⟩, e1, e2, e3, ⟨o7, o8⟩, l7, l8⟩ := kp
    intro v30 e30 _
    rw [p1] at e30
    refine ⟨t8, ?_⟩
    intro q33 e33 v36 e36 _
    have e33 : q33 = c_ka H m 8 := e33
    rw [e33] at e36
    refine ⟨fun c => ?_, fun c => ?_⟩
    · refine c_kput hm hW hX hMS hK (by omega) hx (fun G WG XG KG iG fG => ?_)
      refine q G cn cs (Or.inl ⟨rfl, rfl, ?_⟩) WG XG KG iG (fun f _ _ => fG.2.2.2.2.1 _ _) ?_
      · rw [fG.2.2.2.1]
        unfold c_ka
        rw [fG.2.2.2.2.1]
      · refine c_W_alch hW (c_fr_al fG) (fun a ha => ?_)
        have k15 := c_kp_15 kp0
        simp only [List.mem_cons, List.not_mem_nil, or_false] at ha
        omega
    · have full : (La m).length = sw_ln H (c_ka H m 8) := by omega
      refine ⟨t7, ?_⟩
      intro q39 e39
      refine ⟨t7, ?_⟩
      intro q42 e42 v45 e45 _
      have e39 : q39 = c_ka H m 7 := e39
      have e42 : q42 = c_ka H m 7 := e42
      rw [e42, e1] at e45
      rw [e39, e45, sw_w_s (by omega) (by omega)]
      refine c_copyOf t7 (hW.1.2.1 _ (Nat.le_refl _)) (by omega) (by omega) (by omega) (by omega) (fun B b1 b2 b3 b4 b5 b6 => ?_)
      have tB : ∀ c, sw_ty H c ≠ 0 → c ≠ sw_n H + 2 := fun c hc e => by rw [e] at hc; exact hc (hW.1.2.1 _ (Nat.le_refl _))
      refine ⟨by rw [b3, if_pos rfl], fun _ _ => ?_⟩
      intro H53 e53
      have tm : sw_ty H (120 + 54 * m) = 56 := (hMS.2.2 m hm).2.1
      have nM := tB _ (show sw_ty H (120 + 54 * m) ≠ 0 by rw [tm]; decide)
      have n8 := tB _ (show sw_ty H (c_ka H m 8) ≠ 0 by rw [t8]; decide)
      have r53 : ∀ c f, c ≠ sw_n H + 2 → ¬ (c = 120 + 54 * m ∧ f = 7) → sw_rv H53 c f = sw_rv H c f := fun c f hc hf => by
        rw [e53, sw_rv_sr, if_neg hf]
        exact (b5 c f hc).2
      have r8 : sw_rv H53 (120 + 54 * m) 8 = c_ka H m 8 := r53 _ _ nM (by omega)
      have t53 : ∀ c, sw_ty H53 c = if c = sw_n H + 2 then 1 else sw_ty H c := fun c => by rw [e53]; exact b3 c
      have l53 : ∀ c, sw_ln H53 c = if c = sw_n H + 2 then (2 * (sw_ln H (c_ka H m 8) : Int)).toNat else sw_ln H c := fun c => by rw [e53]; exact b4 c
      have i53 : ∀ c f, sw_iv H53 c f = sw_iv B c f := fun c f => by rw [e53]; rfl
      have n53 : sw_n H53 = sw_n H + 1 := by rw [e53]; exact b1
      have s53 : sw_s H53 = sw_s H + (2 * (sw_ln H (c_ka H m 8) : Int)).toNat := by rw [e53]; exact b2
      rw [r8]
      refine ⟨by rw [t53, if_neg n8]; exact t8, ?_⟩
      intro q56 e56
      refine ⟨by rw [t53, if_neg n8]; exact t8, ?_⟩
      intro q59 e59 v62 e62 _
      rw [e59, l53, if_neg n8] at e62
      rw [e56, e62, sw_w_s (by omega) (by omega)]
      refine c_copyOf (by rw [t53, if_neg n8]; exact t8) (by rw [t53, n53, if_neg (by omega)]; exact hW.1.2.1 _ (by omega)) (by rw [l53, if_neg n8]; omega) (by omega) (by omega) (by omega) (fun D d1 d2 d3 d4 d5 d6 => ?_)
      refine ⟨by rw [d3, if_pos rfl], fun _ _ => ?_⟩
      intro H70 e70
      rw [n53, show sw_n H + 1 + 2 = sw_n H + 3 by omega] at d3 d4 d5 d6 e70
      have r70 : ∀ c f, c ≠ sw_n H + 3 → ¬ (c = 120 + 54 * m ∧ f = 8) → sw_rv H70 c f = sw_rv H53 c f := fun c f hc hf => by
        rw [e70, sw_rv_sr, if_neg hf]
        exact (d5 c f hc).2
      have nM3 : 120 + 54 * m ≠ sw_n H + 3 := fun e => by
        have : sw_ty H (120 + 54 * m) = 0 := by rw [e]; exact hW.1.2.1 _ (by omega)
        rw [tm] at this
        exact absurd this (by decide)
      have kk7 : c_ka H70 m 7 = sw_n H + 2 := by
        show sw_rv H70 (120 + 54 * m) 7 = _
        rw [r70 _ _ nM3 (by omega), e53, sw_rv_sr, if_pos ⟨rfl, rfl⟩]
      have kk8 : c_ka H70 m 8 = sw_n H + 3 := by
        show sw_rv H70 (120 + 54 * m) 8 = _
        rw [e70, sw_rv_sr, if_pos ⟨rfl, rfl⟩]
      have gr := c_kgrow (Z := H70) hm hW hX hMS hK (by omega) (by rw [e70]; show sw_n D = _; omega) (by rw [e70]; show sw_s D = _; rw [d2, s53]; omega) (fun c => by
          rw [e70]
          show sw_ty D c = _
          rw [d3, t53]
          by_cases c3 : c = sw_n H + 3
          · rw [if_pos c3, if_pos (Or.inl c3)]
          · rw [if_neg c3]
            by_cases c2 : c = sw_n H + 2
            · rw [if_pos c2, if_pos (Or.inr c2)]
            · rw [if_neg c2, if_neg (by omega)]) (fun c => by
          rw [e70]
          show sw_ln D c = _
          rw [d4, l53]
          by_cases c3 : c = sw_n H + 3
          · rw [if_pos c3, if_pos (Or.inl c3)]; omega
          · rw [if_neg c3]
            by_cases c2 : c = sw_n H + 2
            · rw [if_pos c2, if_pos (Or.inr c2)]; omega
            · rw [if_neg c2, if_neg (by omega)]) (fun c f h3 h2 => by
          rw [e70]
          show sw_iv D c f = _
          rw [(d5 c f h3).1, i53, (b5 c f h2).1]) (fun c f h3 h2 hn => by
          rw [r70 c f h3 (by omega), r53 c f h2 (by omega)]) (fun j hj => by
          refine ⟨?_, ?_⟩
          · rw [e70]
            show sw_iv D (sw_n H + 2) j = _
            rw [(d5 _ j (by omega)).1, i53, b6, if_pos (by omega)]
          · rw [e70]
            show sw_iv D (sw_n H + 3) j = _
            rw [d6, l53, if_neg n8, if_pos hj, i53, (b5 _ j n8).1]) ⟨kk7, kk8⟩
      have iM : ∀ f, sw_iv H70 (120 + 54 * m) f = sw_iv H (120 + 54 * m) f := fun f => by
        rw [e70]
        show sw_iv D _ f = _
        rw [(d5 _ f nM3).1, i53, (b5 _ f nM).1]
      have rM : ∀ f, f ≠ 7 → f ≠ 8 → sw_rv H70 (120 + 54 * m) f = sw_rv H (120 + 54 * m) f := fun f h1 h2 => by
        rw [r70 _ f nM3 (by omega), r53 _ f nM (by omega)]
      clear e70 e53 d2 d3 d4 d5 d6 b2 b3 b4 b5 b6 r70 r53 t53 l53 i53 n53 s53 d1 b1
      obtain ⟨WZ, XZ, KZ, CZ, LZ⟩ := gr
      have MSZ : c_MS H70 mk := c_MS_ch hMS hW.1.2.2.2.1 hW.1.2.2.2.2 CZ (by simp; omega) (fun m' hm' hin f hf => by
        simp at hin
        have : m' = m := by omega
        rw [this]
        exact iM f) (w_le_refl _)
      refine c_kput hm WZ XZ MSZ KZ (by rw [LZ]; omega) hx (fun G WG XG KG iG fG => ?_)
      refine q G (cn + 2) (cs + 4 * sw_ln H (c_ka H m 8)) (Or.inr ⟨rfl, rfl, ?_, by omega⟩) WG XG KG (fun f hf => by rw [iG f hf, iM]) (fun f h1 h2 => by rw [fG.2.2.2.2.1]; exact rM f h1 h2) ?_
      · rw [fG.2.2.2.1, ← LZ]
        unfold c_ka
        rw [fG.2.2.2.2.1]
      · -- new cells are none of the old
        have k7 := (KZ.1 m hm).1
        refine ⟨sw_ext_trans CZ.1 ⟨by rw [fG.1]; exact Nat.le_refl _, fun c _ => ⟨fG.2.2.1 c, fG.2.2.2.1 c⟩⟩, fun c hc ho hn => ?_, fun c hc => ?_, ?_⟩
        · simp only [List.mem_cons, List.not_mem_nil, or_false, not_or] at hn
          have h1 := CZ.2.1 c hc ho (by simpa using hn.1)
          have nc : c ∉ [120 + 54 * m, c_ka H70 m 7, c_ka H70 m 8] := by
            simp only [List.mem_cons, List.not_mem_nil, or_false, not_or]
            have cl : c < sw_n H + 2 := by
              rcases Nat.lt_or_ge c (sw_n H + 2) with q | q
              · exact q
              · exact absurd (hW.1.2.1 c q) hc
            rw [kk7, kk8]
            exact ⟨hn.1, by omega, by omega⟩
          refine ⟨fun f => by rw [fG.2.2.2.2.2 c nc]; exact h1.1 f, fun f => by rw [fG.2.2.2.2.1]; exact h1.2 f⟩
        · refine CZ.2.2.1 c ?_
          unfold c_ow at hc ⊢
          simp only [fG.2.2.2.2.1] at hc
          exact hc
        · rw [fG.2.2.2.2.1]; exact CZ.2.2.2
end
