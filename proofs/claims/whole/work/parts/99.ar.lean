/-! ===== the class: room; make ===== -/
noncomputable section
section
variable {H G X Y Z : sw_H} {d e : Nat → Wt} {nn : Nat} {K : Wt → Prop} {tl tp : List Wt} {ms : List (List Wt)} {rd : Nat → Int} {t : Nat} {x y z m cn cs cn' cs' N U M : Int} {Q : sw_H → Prop} {P : Int → sw_H → Prop} {E : Nat → sw_H → Prop} {A B : List Nat}
/-- there is room for N terms of U signs in all, M numbers, beside cn cells and cs places -/
def c_lm (cn cs N U M : Int) : Prop := 64 * (cn + 10) + (32 * N + 2 * U + 2 * M + 2800) ≤ 64 * (sxlim.1 : Int) ∧ cs + 1970000 + 4 * N + 4 * U + 8 * M + 12000 ≤ (sxlim.2 : Int) ∧ N ≤ 65000 ∧ U ≤ 10000000 ∧ M ≤ 10000000
theorem c_lm_room {n : Int} (lm : c_lm cn cs N U M) (q : c_q X cn cs) (h8 : sw_ln X (sw_rv X 3 1) = 14 * sw_ln X (sw_rv X 3 8)) (n0 : 0 ≤ n) (c1 : 1 ≤ c_n X) (u0 : 0 ≤ sw_iv X 3 4) (m0 : 0 ≤ sw_iv X 3 7) (hN : c_n X + 1 ≤ N) (hU : sw_iv X 3 4 + n ≤ U) (hM : sw_iv X 3 7 ≤ M) : c_room X n := by
  have qp := q.2
  have q := q.1
  unfold c_qr at q
  unfold c_lm at lm
  have p1 := c_p2_b qp (by omega)
  have p2 := fun h => c_p2_b (c_p2_d qp) h
  clear qp
  unfold c_room
  have h1 : (sw_s X : Int) + c_ra X + c_rb X n + c_rc X ≤ sxlim.2 := by
    unfold c_ra c_rb c_rc
    split <;> split <;> split <;> omega
  omega
theorem c_lm_rmN (lm : c_lm cn cs N U M) (q : c_q X cn cs) (h8 : sw_ln X (sw_rv X 3 1) = 14 * sw_ln X (sw_rv X 3 8)) (c1 : 1 ≤ c_n X) (u0 : 0 ≤ sw_iv X 3 4) (m0 : 0 ≤ sw_iv X 3 7) (hN : c_n X + 1 ≤ N) (hU : sw_iv X 3 4 ≤ U) (hM : sw_iv X 3 7 ≤ M) : c_rmN X := by
  have qp := q.2
  have q := q.1
  unfold c_qr at q
  unfold c_lm at lm
  have p1 := c_p2_b qp (by omega)
  have p2 := fun h => c_p2_b (c_p2_d qp) h
  clear qp
  unfold c_rmN
  omega
theorem c_lm_sm (lm : c_lm cn cs N U M) (q : c_q X cn cs) (h8 : sw_ln X (sw_rv X 3 1) = 14 * sw_ln X (sw_rv X 3 8)) (c1 : 1 ≤ c_n X) (u0 : 0 ≤ sw_iv X 3 4) (m0 : 0 ≤ sw_iv X 3 7) (hN : c_n X + 1 ≤ N) (hU : sw_iv X 3 4 ≤ U) (hM : sw_iv X 3 7 ≤ M) : sw_n X + 8 ≤ sxlim.1 ∧ sw_s X + 2000 ≤ sxlim.2 := by
  have qp := q.2
  have q := q.1
  unfold c_qr at q
  unfold c_lm at lm
  have p1 := c_p2_b qp (by omega)
  have p2 := fun h => c_p2_b (c_p2_d qp) h
  clear qp
  omega
/-- the bounds hold here -/
def c_bd (H : sw_H) (tl : List Wt) (N U M n u m : Int) : Prop := c_n H + n ≤ N ∧ sw_iv H 3 4 + u ≤ U ∧ (tl.length : Int) + m ≤ M
theorem c_A_room {n : Int} (lm : c_lm cn cs N U M) (q : c_q H cn cs) (a : c_A H d nn K tl) (n0 : 0 ≤ n) (b : c_bd H tl N U M 1 n 0) : c_room H n := by
  have h7 := a.2.2.2.2.2.2.1.1
  obtain ⟨b1, b2, b3⟩ := b
  exact c_lm_room lm q a.1.2.2.2.2.2.2.2.2.1 n0 a.1.2.2.1 a.1.2.2.2.2.1 (by omega) b1 b2 (by omega)
theorem c_A_rmN (lm : c_lm cn cs N U M) (q : c_q H cn cs) (a : c_A H d nn K tl) (b : c_bd H tl N U M 1 0 0) : c_rmN H := by
  have h7 := a.2.2.2.2.2.2.1.1
  obtain ⟨b1, b2, b3⟩ := b
  exact c_lm_rmN lm q a.1.2.2.2.2.2.2.2.2.1 a.1.2.2.1 a.1.2.2.2.2.1 (by omega) b1 (by omega) (by omega)
theorem c_A_sm (lm : c_lm cn cs N U M) (q : c_q H cn cs) (a : c_A H d nn K tl) (b : c_bd H tl N U M 1 0 0) : sw_n H + 8 ≤ sxlim.1 ∧ sw_s H + 2000 ≤ sxlim.2 := by
  have h7 := a.2.2.2.2.2.2.1.1
  obtain ⟨b1, b2, b3⟩ := b
  exact c_lm_sm lm q a.1.2.2.2.2.2.2.2.2.1 a.1.2.2.1 a.1.2.2.2.2.1 (by omega) b1 (by omega) (by omega)
theorem c_bd_le {n u m n' u' m' : Int} (b : c_bd H tl N U M n u m) (h1 : n' ≤ n) (h2 : u' ≤ u) (h3 : m' ≤ m) : c_bd H tl N U M n' u' m' := by
  unfold c_bd at *
  omega
theorem c_isKnownN (h : c_I H d nn K tl tp rd ms cn cs) (q0 : ¬ w_has tl K x → P 0 H) (q1 : w_has tl K x → P 1 H) : wm_333 2 x H P := c_isKnown h q0 q1
theorem c_isMakeable {s a b : Int} (h : c_I H d nn K tl tp rd ms cn cs) (q0 : w_mk1 tl K s a b → P 0 H) (q1 : ¬ w_mk1 tl K s a b → P 1 H) : wm_241 2 s a b H P := by
  have last : 0 ≤ s → s ≤ 7 → (1 < s → w_has tl K a) → (s = 4 ∨ s = 6 → w_has tl K b) → wb_241_30 P s b H := fun h0 h7 ha hb => by
    have no : (s = 3 → 0 ≤ b ∧ b ≤ 9) → ¬ w_mk1 tl K s a b := fun h3 hm => by
      unfold w_mk1 at hm
      rcases hm with g | g | ⟨g1, g2⟩ | ⟨g1, g2⟩ | ⟨g1, g2⟩
      · omega
      · omega
      · exact g2 (ha g1)
      · exact g2 (hb g1)
      · have := h3 g1; omega
    unfold wb_241_30
    refine ⟨fun c => q1 (no (fun h => absurd h c)), fun c => ⟨fun c1 => q0 (Or.inr (Or.inr (Or.inr (Or.inr ⟨c, Or.inl c1⟩)))), fun c1 => ⟨fun c2 => q0 (Or.inr (Or.inr (Or.inr (Or.inr ⟨c, Or.inr c2⟩)))), fun c2 => q1 (no (fun _ => ⟨c1, c2⟩))⟩⟩⟩
  have mid : 0 ≤ s → s ≤ 7 → (1 < s → w_has tl K a) → wb_241_18 P 2 s b H := fun h0 h7 ha => by
    have two : s = 4 ∨ s = 6 → wb_241_24 P 2 s b H := fun hs => by
      unfold wb_241_24
      exact c_isKnownN h (fun g _ _ => ⟨fun e => absurd rfl e, fun _ => q0 (Or.inr (Or.inr (Or.inr (Or.inl ⟨hs, g⟩))))⟩) (fun g _ _ => ⟨fun _ => last h0 h7 ha (fun _ => g), fun e => absurd e (by decide)⟩)
    unfold wb_241_18
    exact ⟨fun c => two (Or.inl c), fun c => ⟨fun c1 => last h0 h7 ha (fun e => by omega), fun c1 => two (Or.inr c1)⟩⟩
  unfold wm_241
  refine ⟨fun c => q0 (Or.inl c), fun c => ⟨fun c1 => ⟨fun c2 => mid c c1 (fun e => by omega), fun c2 => ⟨fun c3 => mid c c1 (fun e => by omega), fun c3 => ?_⟩⟩, fun c1 => q0 (Or.inr (Or.inl c1))⟩⟩
  exact c_isKnownN h (fun g _ _ => ⟨fun e => absurd rfl e, fun _ => q0 (Or.inr (Or.inr (Or.inl ⟨by omega, g⟩)))⟩) (fun g _ _ => ⟨fun _ => mid c c1 (fun _ => g), fun e => absurd e (by decide)⟩)
/-- behind makeTerm -/
theorem c_make_t {w : Wt} (lm : c_lm cn cs N U M) (h : c_I H d nn K tl tp rd ms cn cs) (b : c_bd H tl N U M 1 0 0) (ht : c_R H t) (hw : d t = w) (k : ∀ G, c_I G d nn (w_add K w) (w_tl tl w) tp rd ms cn cs → c_ch [] H G → c_n G = c_n H → sw_iv G 3 4 = sw_iv H 3 4 → P (((w_tl tl w).idxOf w : Nat) + 1) G) : wb_114_69 P E 2 t H := by
  have h' := h
  obtain ⟨a, F, q, fl, ad, O, hP, hY, hM⟩ := h'
  have ht1 := ht.1
  have ht2 := ht.2
  unfold wb_114_69
  refine ⟨by rw [O.2.1]; exact a.1.1.1, ?_⟩
  intro q1 e1
  rw [e1, O.2.1]
  refine c_learn a F q (by omega) (by omega) (fun Y aY FY qY ft en e4 _ => ?_)
  have IY := c_I_ex h aY FY qY (c_ft_ex ft en)
  have OY := IY.2.2.2.2.2.1
  refine ⟨by rw [OY.2.1]; exact aY.1.1.1, ?_⟩
  intro q9 e9
  rw [e9, OY.2.1]
  have bY : c_bd Y tl N U M 1 0 0 := by
    unfold c_bd at b ⊢
    rw [en, e4]; exact b
  have ew : w_lrn d K (t : Int) = w_add K w := by
    unfold w_lrn
    rw [if_neg (by omega), Int.toNat_natCast, hw]
  refine c_tell aY FY qY (c_A_rmN lm qY aY bY) ⟨ht1, by rw [en]; exact ht2⟩ (fun Z aZ FZ qZ ft2 en2 e42 _ _ => ?_)
  rw [hw, ew] at aZ
  rw [hw]
  exact k Z (c_I_ex IY aZ FZ qZ (c_ft_ex ft2 en2)) (c_ch_sub (c_ch_trans (c_ft_ch ft) (c_ft_ch ft2)) (by simp)) (by omega) (by omega)
theorem c_sort5 (T : c_T H d nn) (h : c_R H t) : c_d H t 0 = 5 ↔ (d t).head? = some 5 := by
  have r := T.2.2.2.2.2.2.2.2.2.1 t h
  have v1 := r.1.1
  have n1 := r.2.2.2.2.2.1
  have n2 := r.2.2.2.2.2.2
  clear r
  by_cases c0 : c_d H t 0 = 0
  · rcases n2 c0 with ⟨_, q⟩ | ⟨_, i, _, q⟩
    · rw [q]
      show c_d H t 0 = 5 ↔ (w_mk 0 _).head? = some 5
      rw [w_mk_head]
      constructor
      · intro e; omega
      · intro e; cases e
    · rw [q]
      show c_d H t 0 = 5 ↔ (w_mk 8 _).head? = some 5
      rw [w_mk_head]
      constructor
      · intro e; omega
      · intro e; cases e
  · rw [(n1 c0).1]
    show c_d H t 0 = 5 ↔ (w_mk _ _).head? = some 5
    rw [w_mk_head]
    constructor
    · intro e; rw [e]; rfl
    · intro e
      have := Option.some.inj e
      omega
/-- makeTerm -/
theorem c_makeTerm {s b a' : Int} (lm : c_lm cn cs N U M) (h : c_I H d nn K tl tp rd ms cn cs) (bd : c_bd H tl N U M 1 tp.length 0) (h0 : 0 ≤ s) (h7 : s ≤ 7) (ha0 : 0 ≤ a') (ha1 : a' ≤ c_n H) (hA : 1 < s → 1 ≤ a' ∧ K (d a'.toNat)) (hB : s = 4 ∨ s = 6 → w_has tl K b) (h3 : s = 3 → 0 ≤ b ∧ b ≤ 9) (h6 : s = 6 → c_d H a'.toNat 0 = 5) (k : ∀ w X e nn' (t : Nat), (s = 0 → w = w_nm nn ∧ nn' = nn + 1) → (s ≠ 0 → w = w_mkt s (if 1 < s then d a'.toNat else []) (if s = 3 then [b.toNat] else if s = 4 ∨ s = 6 then w_nz tl b else []) tp ∧ nn' = nn ∧ K w) → c_I X e nn' K tl tp rd ms cn cs → c_ex H d X e → c_R X t → e t = w → c_n X ≤ c_n H + 1 → sw_iv X 3 4 ≤ sw_iv H 3 4 + tp.length → P t X) : wm_242 2 s a' b H P := by
  have h' := h
  obtain ⟨a, F, q, fl, ad, O, hP, hY, hM⟩ := h'
  have hKc := c_K_clo a.2.2.2.2.2.1
  have tt : sw_ty H (sw_rv H 2 0) = 96 := by rw [O.2.1]; exact a.1.1.1
  have o2 := O.2.1
  have r5 := O.2.2.2.2.2.1
  obtain ⟨l, p1, p2, p3⟩ := hP.1
  have el : l.length = tp.length := by rw [← p3, List.length_map]
  have ty5 : sw_ty H (sw_rv H 2 5) = 80 := by rw [r5]; exact p1.1
  have nr : ¬ c_ow H 1417 := c_fx ad (by decide) (by decide) (by decide) (by decide)
  have na : ¬ c_ow H 1418 := c_fx ad (by decide) (by decide) (by decide) (by decide)
  have n4 := a.2.2.1
  have n5 := a.2.2.2.1
  have row0 := a.1.1.2.2.2.2.2.2.2.2.2.2.2.1
  have r30 := a.1.1.2.2.2.2.2.2.2.2.2.2.2.2
  have c1 := a.1.2.2.1
  have dz : 1 < s → w_dz d a' = d a'.toNat := fun hs => w_dz_pos (hA hs).1
  have d0 : w_dz d 0 = [] := if_pos rfl
  -- of the tape
  have tape : ∀ (s' f g : Int), s' = s → (s = 1 ∨ s = 2 ∨ s = 3 ∨ s = 7) → (s = 1 → f = 0) → (s ≠ 1 → f = a') → (s = 3 → g = b) → (s ≠ 3 → g = 0) → wm_145 3 s' f g 0 1417 H (fun z H1 => sw_c z → sw_ext H H1 → P z H1) := by
    intro s' f g es hs f1 f2 g1 g2
    rw [es]
    have f01 : 0 ≤ f ∧ f ≤ c_n H := by
      by_cases c : s = 1
      · have := f1 c; omega
      · have := f2 c; omega
    have fa : s ≠ 1 → 1 ≤ f := fun c => by have := f2 c; have := hA (by omega); omega
    have g0 : 0 ≤ g ∧ (s = 3 → g ≤ 9) ∧ (s ≠ 3 → g = 0) := by
      refine ⟨?_, fun c => by have := g1 c; have := h3 c; omega, g2⟩
      by_cases c : s = 3
      · have := g1 c; have := h3 c; omega
      · have := g2 c; omega
    have fh : s = 1 → f = 0 := f1
    refine c_ofA a F q p1 nr na (c_A_room lm q a (by omega) (by rw [el]; exact bd)) (by omega) ?_ p2 (fun X e t aX FX qX ex ht he hg _ _ => ?_)
    · obtain ⟨g01, g02, g03⟩ := g0
      refine ⟨h0, h7, f01.1, f01.2, by omega, by omega, g01, g02, fun c => by have := g03 c; omega, fun c => ?_, fun c => ?_, fun c => ⟨fa (by omega), rfl⟩, fun c => by omega, fun c => by omega⟩
      · have e1 : s = 1 := by omega
        exact ⟨fh e1, g03 (by omega), rfl⟩
      · exact ⟨fa (by omega), g03 (by omega), rfl⟩
    · have hw : w_tm d s f g 0 l = w_mkt s (if 1 < s then d a'.toNat else []) (if s = 3 then [b.toNat] else if s = 4 ∨ s = 6 then w_nz tl b else []) tp := by
        unfold w_tm w_mkt
        rw [p3, d0, if_pos hs]
        congr 2
        · by_cases c : s = 1
          · rw [f1 c, d0, if_neg (by omega)]
          · rw [f2 c, dz (by omega), if_pos (by omega)]
        · congr 1
          by_cases c : s = 3
          · rw [if_pos c, if_pos c, g1 c]
          · rw [if_neg c, if_neg c, g2 c, d0, if_neg (by omega)]
      have hK : K (w_mkt s (if 1 < s then d a'.toNat else []) (if s = 3 then [b.toNat] else if s = 4 ∨ s = 6 then w_nz tl b else []) tp) := by
        refine (hKc _).1 ⟨s.toNat, _, _, _, _, rfl, ?_⟩
        by_cases c : s = 1
        · exact Or.inr (Or.inl (by omega))
        · refine Or.inr (Or.inr (Or.inl ⟨by omega, ?_⟩))
          rw [if_pos (by omega)]
          exact (hA (by omega)).2
      have hb : c_n X ≤ c_n H + 1 ∧ sw_iv X 3 4 ≤ sw_iv H 3 4 + tp.length := by
        rcases hg with ⟨e1, _⟩ | ⟨e1, e2, _⟩
        · rw [e1]; omega
        · omega
      exact k _ X e nn t (fun c => by omega) (fun _ => ⟨he.trans hw, rfl, by rw [he.trans hw]; exact hK⟩) (c_I_ex h aX FX qX ex) ex ht rfl hb.1 hb.2
  -- of nothing
  have noth : ∀ g : Int, (s = 4 ∨ s = 5 ∨ s = 6) → (s = 5 → g = 0) → (s ≠ 5 → ∃ u : Nat, g = u ∧ c_R H u ∧ d u = w_nz tl b ∧ K (d u)) → wm_145 3 s a' g 0 4 H (fun z H1 => sw_c z → sw_ext H H1 → P z H1) := by
    intro g hs g1 g2
    have hA' := hA (by omega)
    have g0 : 0 ≤ g ∧ g ≤ c_n H ∧ (s ≠ 5 → 1 ≤ g) := by
      by_cases c : s = 5
      · have := g1 c; exact ⟨by omega, by omega, fun h => absurd c h⟩
      · obtain ⟨u, u1, u2, _⟩ := g2 c
        have := u2.1
        have := u2.2
        exact ⟨by omega, by omega, fun _ => by omega⟩
    refine c_ofA (l := []) a F q row0 n4 n5 (c_A_room lm q a (by simp) (c_bd_le bd (by omega) (by simp) (by omega))) (by omega) ?_ (by simp) (fun X e t aX FX qX ex ht he hg _ _ => ?_)
    · obtain ⟨g01, g02, g03⟩ := g0
      clear g2 lm
      exact ⟨h0, h7, ha0, ha1, by omega, by omega, g01, fun c => by omega, fun _ => g02, fun c => by omega, fun c => ⟨hA'.1, g1 (by omega), rfl⟩, fun c => by omega, fun c => ⟨hA'.1, g03 (by omega), rfl⟩, fun c => ⟨hA'.1, h6 c, g03 (by omega)⟩⟩
    · have hgd : s ≠ 5 → w_dz d g = w_nz tl b ∧ K (w_nz tl b) := fun c => by
        obtain ⟨u, u1, u2, u3, u4⟩ := g2 c
        have := u2.1
        rw [u1, w_dz_pos (by omega), Int.toNat_natCast, ← u3]
        exact ⟨rfl, u4⟩
      have hw : w_tm d s a' g 0 [] = w_mkt s (if 1 < s then d a'.toNat else []) (if s = 3 then [b.toNat] else if s = 4 ∨ s = 6 then w_nz tl b else []) tp := by
        unfold w_tm w_mkt
        have n3 : ¬ s = 3 := by clear g2; omega
        have nt : ¬ (s = 1 ∨ s = 2 ∨ s = 3 ∨ s = 7) := by clear g2; omega
        have n1 : 1 < s := by clear g2; omega
        rw [d0, if_neg n3, if_neg n3, if_neg nt, if_pos n1, dz n1]
        by_cases c : s = 5
        · rw [g1 c, d0, if_neg (by omega : ¬ (s = 4 ∨ s = 6))]
          rfl
        · rw [(hgd c).1, if_pos (by clear g2 hgd; omega : s = 4 ∨ s = 6)]
          rfl
      have hK : K (w_mkt s (if 1 < s then d a'.toNat else []) (if s = 3 then [b.toNat] else if s = 4 ∨ s = 6 then w_nz tl b else []) tp) := by
        refine (hKc _).1 ⟨s.toNat, _, _, _, _, rfl, ?_⟩
        have n3 : ¬ s = 3 := by clear g2 hgd hw; omega
        have n1 : 1 < s := by clear g2 hgd hw; omega
        rw [if_pos n1, if_neg n3]
        by_cases c : s = 5
        · exact Or.inr (Or.inr (Or.inl ⟨by clear g2 hgd hw; omega, hA'.2⟩))
        · rw [if_pos (by clear g2 hgd hw; omega : s = 4 ∨ s = 6)]
          rcases hs with c4 | c5 | c6
          · exact Or.inr (Or.inr (Or.inr (Or.inl ⟨by omega, hA'.2, (hgd c).2⟩)))
          · exact absurd c5 c
          · exact Or.inr (Or.inr (Or.inr (Or.inr ⟨by omega, hA'.2, (hgd c).2, Or.inl rfl⟩)))
      have hb : c_n X ≤ c_n H + 1 ∧ sw_iv X 3 4 ≤ sw_iv H 3 4 + tp.length := by
        rcases hg with ⟨e1, _⟩ | ⟨e1, e2, _⟩
        · rw [e1]; omega
        · simp at e2; omega
      exact k _ X e nn t (fun c => by omega) (fun _ => ⟨he.trans hw, rfl, by rw [he.trans hw]; exact hK⟩) (c_I_ex h aX FX qX ex) ex ht rfl hb.1 hb.2
  have second : s = 4 ∨ s = 6 → ∀ R : Int → sw_H → Prop, (∀ u : Nat, c_R H u → d u = w_nz tl b → K (d u) → R u H) → wm_119 3 b H R := fun hs R kR => by
    obtain ⟨w, hw, hk⟩ := hB hs
    refine c_numbered a (fun hno => by rw [hno] at hw; cases hw) (fun w' u hw' hu hd => ?_)
    rw [hw] at hw'
    cases hw'
    have e : w_nz tl b = w := by unfold w_nz; rw [hw]; rfl
    exact kR u hu (by rw [e, hd]) (by rw [hd]; exact hk)
  unfold wm_242
  refine ⟨fun c => ⟨tt, ?_⟩, fun c => ⟨tt, ?_⟩, fun c => ⟨tt, ?_⟩, fun c => ⟨tt, ?_⟩, fun c => ⟨tt, ?_⟩, fun c => ⟨tt, ?_⟩, fun c => ⟨tt, ?_⟩, fun c => ⟨tt, ?_⟩⟩
  · intro q1 e1
    refine ⟨ty5, ?_⟩
    intro q4 e4
    rw [e1, e4, o2, r5]
    exact tape s a' 0 rfl (by omega) (fun _ => by omega) (fun _ => rfl) (fun _ => by omega) (fun _ => rfl)
  · intro q13 e13
    rw [e13, o2]
    refine c_name a F q (c_A_room lm q a (by omega) (c_bd_le bd (by omega) (by omega) (by omega))) (fun X aX FX qX ex nX uX _ _ => ?_)
    have hT : (((c_n H + 1).toNat : Nat) : Int) = c_n H + 1 := by omega
    rw [← hT]
    exact k (w_nm nn) X _ (nn + 1) (c_n H + 1).toNat (fun _ => ⟨rfl, rfl⟩) (fun h => absurd c h) (c_I_ex h aX FX qX ex) ex ⟨by omega, by omega⟩ w_up_eq (by omega) (by omega)
  · intro q21 e21
    refine ⟨ty5, ?_⟩
    intro q24 e24
    rw [e21, e24, o2, r5]
    exact tape 1 0 0 c.symm (by omega) (fun _ => rfl) (fun h => absurd c h) (fun _ => by omega) (fun _ => rfl)
  · intro q32 e32
    refine ⟨ty5, ?_⟩
    intro q35 e35
    rw [e32, e35, o2, r5]
    exact tape s a' 0 rfl (by omega) (fun _ => by omega) (fun _ => rfl) (fun _ => by omega) (fun _ => rfl)
  · intro q43 e43
    refine ⟨ty5, ?_⟩
    intro q46 e46
    rw [e43, e46, o2, r5]
    exact tape 3 a' b c.symm (by omega) (fun _ => by omega) (fun _ => rfl) (fun _ => rfl) (fun h => absurd c h)
  · intro q54 e54
    refine ⟨tt, ?_⟩
    intro q57 e57
    rw [e57, e54, o2]
    refine second (by omega) _ (fun u hu hd hk _ _ => ⟨tt, ?_⟩)
    intro q65 e65
    rw [e65, o2]
    refine ⟨by rw [r30]; exact row0.1, ?_⟩
    intro q68 e68
    rw [e68, r30]
    exact noth u (by omega) (fun _ => by omega) (fun _ => ⟨u, rfl, hu, hd, hk⟩)
  · intro q76 e76
    refine ⟨tt, ?_⟩
    intro q79 e79
    rw [e79, e76, o2]
    refine ⟨by rw [r30]; exact row0.1, ?_⟩
    intro q82 e82
    rw [e82, r30]
    have := noth 0 (by omega) (fun _ => rfl) (fun h => absurd c h)
    rw [c] at this
    exact this
  · intro q90 e90
    refine ⟨tt, ?_⟩
    intro q93 e93
    rw [e93, e90, o2]
    refine second (by omega) _ (fun u hu hd hk _ _ => ⟨tt, ?_⟩)
    intro q101 e101
    rw [e101, o2]
    refine ⟨by rw [r30]; exact row0.1, ?_⟩
    intro q104 e104
    rw [e104, r30]
    exact noth u (by omega) (fun _ => by omega) (fun _ => ⟨u, rfl, hu, hd, hk⟩)
end
end
