/-! ===== the class: proposals kept ===== -/
noncomputable section
variable {H Z X Y : sw_H} {nn nm r ra g m n : Nat} {K K' S : Wt → Prop} {tl tl' tp mk mm l : List Wt} {ms : List (List Wt)} {rd : Nat → Int} {a b c x y cn cs cn' cs' N U M : Int} {Q : sw_H → Prop} {P : Int → sw_H → Prop} {A B : List Nat} {w h : Wt} {La : Nat → List (Wt × Nat)} {L : List (Wt × Nat)}
theorem c_V_al2 (hV : c_V H mk nn K tl cn cs) (k : c_al A H Z) (F : c_F Z) (hA : ∀ a ∈ A, ¬ c_ow H a ∧ a ≠ 3 ∧ a ≠ 4 ∧ a ≠ 5) (h1 : (sw_n Z : Int) - sw_n H ≤ cn' - cn) (h2 : (sw_s Z : Int) - sw_s H ≤ cs' - cs) : c_V Z mk nn K tl cn' cs' := by
  obtain ⟨⟨hA0, h4, h5⟩, F0, qq, fl, ad⟩ := hV
  have ho : ∀ q ∈ A, ¬ c_ow H q := fun q hq => (hA q hq).1
  have h3 : sw_ty H 3 ≠ 0 := by rw [hA0.1.1.1]; decide
  have n3 : 3 ∉ A := fun h => (hA 3 h).2.1 rfl
  have ch := c_al_ch k h3 n3
  have e3 := k.2 3 h3 n3
  refine ⟨⟨c_A_al hA0 k ho (fun h => (hA 4 h).2.2.1 rfl) (fun h => (hA 5 h).2.2.2 rfl), ?_, ?_⟩, F, c_q_al qq hA0.1.1 k ho h1 h2, c_full_e k.1 fl, c_ads_ch ch fl ad⟩
  · show sw_iv Z 3 2 = _
    rw [e3.1 2]
    exact h4
  · rw [e3.1 4]
    exact h5
theorem c_W_al2 (h : c_W H mk nn K tl cn cs) (k : c_al A H Z) (F : c_F Z) (hA : ∀ a ∈ A, ¬ c_ow H a ∧ 15 < a) (h1 : (sw_n Z : Int) - sw_n H ≤ cn' - cn) (h2 : (sw_s Z : Int) - sw_s H ≤ cs' - cs) : c_W Z mk nn K tl cn' cs' ∧ c_ch A H Z := by
  have hV := c_V_al2 h.1 k F (fun a ha => ⟨(hA a ha).1, by have := (hA a ha).2; omega, by have := (hA a ha).2; omega, by have := (hA a ha).2; omega⟩) h1 h2
  have ch := c_W_alch h k (fun a ha => Or.inl (hA a ha).2)
  exact ⟨c_W_chN h hV ch (fun a ha => Or.inl (hA a ha).2) (w_le_refl _), ch⟩
/-- the cells of messages -/
def c_ml (H : sw_H) (n : Nat) (a : Nat) : Prop := a = 2 ∨ (1416 ≤ a ∧ a ≤ 1419) ∨ ∃ i, i < n ∧ (a = sw_rv H 1416 i ∨ a = sw_rv H (sw_rv H 1416 i) 0)
theorem c_X_ch2 (hV : c_V H mk nn K tl cn cs) (h : c_X H mk tp rd ms) (k : c_ch A H Z) (hG : c_V Z mm nm K' tl' cn' cs') (hl : w_le mk mm) (hA : ∀ a ∈ A, ¬ c_ml H ms.length a) : c_X Z mm tp rd ms := by
  obtain ⟨h1, h2, h3, h4⟩ := h
  have fl := hV.2.2.2.1
  have ad := hV.2.2.2.2
  have n1 := hV.1.2.1
  have n2 := hG.1.2.1
  have l1 := w_le_len hl
  have he : ∀ u : Nat, (u : Int) ≤ c_n H → w_d mm u = w_d mk u := fun u hu => w_le_d hl (by omega)
  have no : ∀ q, q = 2 ∨ (1416 ≤ q ∧ q ≤ 1419) → q ∉ A := fun q hq hm => hA q hm (by
    rcases hq with e | e
    · exact Or.inl e
    · exact Or.inr (Or.inl e))
  refine ⟨c_O_ch h1 k ad fl (no 2 (by omega)), c_P_ch h2 k ad (no _ (by omega)) (no _ (by omega)) (by omega) he, c_Y_ch h3 k ad (no _ (by omega)), ?_⟩
  have i2 := (c_fx_iv fl ad k (q := 2) (by unfold c_fix; omega) (no 2 (by omega))).1
  have r6 := (c_fx_iv fl ad k (q := 1416) (by unfold c_fix; omega) (no 1416 (by omega))).2
  refine ⟨by rw [i2]; exact h4.1, h4.2.1, fun i l hl => ?_⟩
  have ilt := (List.getElem?_eq_some_iff.mp hl).1
  obtain ⟨g1, g2, g3, a, g4, g5, g6⟩ := h4.2.2 i l hl
  rw [r6]
  have g60 := g6
  obtain ⟨s, q, _⟩ := g6
  have tr : sw_ty H (sw_rv H 1416 i) ≠ 0 := by rw [q.1]; decide
  have ta : sw_ty H a ≠ 0 := by rw [q.2.2.1]; decide
  exact ⟨g1, c_ch_no k tr g2, g3, a, g4, c_ch_no k ta g5, c_sg_ch g60 k g2 g5 (fun hm => hA _ hm (Or.inr (Or.inr ⟨i, ilt, Or.inl rfl⟩))) (fun hm => hA _ hm (Or.inr (Or.inr ⟨i, ilt, Or.inr q.2.1.symm⟩))) (by omega) he⟩
/-- where member m's proposals lie -/
def c_ka (H : sw_H) (m f : Nat) : Nat := sw_rv H (120 + 54 * m) f
def c_kp (H : sw_H) (m : Nat) : Prop := (sw_ty H (c_ka H m 7) = 1 ∧ sw_ty H (c_ka H m 8) = 1) ∧ sw_ln H (c_ka H m 7) = sw_ln H (c_ka H m 8) ∧ 20 ≤ sw_ln H (c_ka H m 8) ∧ sw_ln H (c_ka H m 8) ≤ 1000 ∧ (¬ c_ow H (c_ka H m 7) ∧ ¬ c_ow H (c_ka H m 8)) ∧ (c_ka H m 7 = 120 + 54 * m + 47 ∨ 1491 < c_ka H m 7) ∧ (c_ka H m 8 = 120 + 54 * m + 48 ∨ 1491 < c_ka H m 8)
/-- and nothing else lies there -/
def c_kd (H : sw_H) (n : Nat) : Prop := (∀ m m' f f', m < 24 → m' < 24 → f = 7 ∨ f = 8 → f' = 7 ∨ f' = 8 → c_ka H m f = c_ka H m' f' → m = m' ∧ f = f') ∧ ∀ m f i, m < 24 → f = 7 ∨ f = 8 → i < n → c_ka H m f ≠ sw_rv H (sw_rv H 1416 i) 0
def c_pp (H : sw_H) (mk : List Wt) (m : Nat) (L : List (Wt × Nat)) : Prop := sw_iv H (120 + 54 * m) 9 = L.length ∧ L.length ≤ sw_ln H (c_ka H m 8) ∧ ∀ (i k : Nat) (h : Wt), L[i]? = some (h, k) → sw_iv H (c_ka H m 7) i = k ∧ w_at mk (sw_iv H (c_ka H m 8) i) h
def c_KS (H : sw_H) (mk : List Wt) (ms : List (List Wt)) (La : Nat → List (Wt × Nat)) : Prop := (∀ m, m < 24 → c_kp H m ∧ c_pp H mk m (La m)) ∧ c_kd H ms.length
theorem c_kp_15 (h : c_kp H m) : 15 < c_ka H m 7 ∧ 15 < c_ka H m 8 := by
  obtain ⟨_, _, _, _, _, h1, h2⟩ := h
  omega
/-- an array of proposals is no cell of messages -/
theorem c_kp_ml {f : Nat} (hX : c_X H mk tp rd ms) (hK : c_KS H mk ms La) (hm : m < 24) (hf : f = 7 ∨ f = 8) : ¬ c_ml H ms.length (c_ka H m f) := by
  obtain ⟨kp, _⟩ := hK.1 m hm
  intro c
  have ty : sw_ty H (c_ka H m f) = 1 := by
    rcases hf with e | e
    · rw [e]; exact kp.1.1
    · rw [e]; exact kp.1.2
  have pl : (c_ka H m f = 120 + 54 * m + 40 + f ∨ 1491 < c_ka H m f) := by
    rcases hf with e | e
    · rw [e]; exact kp.2.2.2.2.2.1
    · rw [e]; exact kp.2.2.2.2.2.2
  rcases c with e | e | ⟨i, hi, e | e⟩
  · omega
  · omega
  · obtain ⟨l, hl⟩ : ∃ l, ms[i]? = some l := ⟨ms[i]'hi, List.getElem?_eq_getElem hi⟩
    obtain ⟨_, _, _, a, _, _, s, q, _⟩ := hX.2.2.2.2.2 i l hl
    rw [e, q.1] at ty
    exact absurd ty (by decide)
  · exact hK.2.2 m f i hm hf hi e
theorem c_index_l {x : Int} (nd : mk.Nodup) (kp : c_kp H m) (pp : c_pp H mk m L) (hx : w_at mk x h) (q1 : ∀ (i k : Nat), L[i]? = some (h, k) → P i H) (q0 : h ∉ L.map Prod.fst → P (-1) H) : ∀ (f k : Nat), k ≤ L.length → L.length - k < f → (∀ (i : Nat) e, i < k → L[i]? = some e → e.1 ≠ h) → wl_275_2 P f (120 + 54 * m) x k H
  | 0, _, _, h, _ => by omega
  | f + 1, k, hk, hf, inv => by
    obtain ⟨p1, p2, p3⟩ := pp
    have l1000 := kp.2.2.2.1
    unfold wl_275_2
    intro v1 e1 _
    rw [p1] at e1
    refine ⟨fun c => q0 (fun c2 => ?_), fun c => ⟨kp.1.2, ?_⟩⟩
    · rw [List.mem_map] at c2
      obtain ⟨e, he, ee⟩ := c2
      obtain ⟨i, hi⟩ := List.getElem?_of_mem he
      exact inv i e (by have := (List.getElem?_eq_some_iff.mp hi).1; omega) hi ee
    · have hkl : k < L.length := by omega
      intro q4 e4
      have e4 : q4 = c_ka H m 8 := e4
      rw [e4]
      refine ⟨by omega, by omega, ?_⟩
      intro v7 e7 _
      rw [Int.toNat_natCast] at e7
      obtain ⟨⟨u, kk⟩, hu⟩ : ∃ e, L[k]? = some e := ⟨L[k]'hkl, List.getElem?_eq_getElem hkl⟩
      obtain ⟨k1, k2⟩ := p3 k kk u hu
      refine ⟨fun c1 => ?_, fun c1 => ?_⟩
      · intro y10 e10
        rw [e10, sw_w_s (by omega) (by omega), show (k : Int) + 1 = ((k + 1 : Nat) : Int) by omega]
        refine c_index_l nd kp ⟨p1, p2, p3⟩ hx q1 q0 f (k + 1) (by omega) (by omega) (fun i e hi he => ?_)
        by_cases ci : i = k
        · subst ci
          rw [hu] at he
          rw [← Option.some.inj he]
          intro c2
          have c2 : u = h := c2
          rw [c2] at k2
          exact c1 (by rw [e7]; exact w_at_inj nd k2 hx)
        · exact inv i e (by omega) he
      · rw [← e7, c1] at k2
        have u1 := w_at_d k2
        rw [w_at_d hx] at u1
        rw [← u1] at hu
        exact q1 k kk hu
theorem c_indexOf {x : Int} (nd : mk.Nodup) (kp : c_kp H m) (pp : c_pp H mk m L) (hx : w_at mk x h) (q1 : ∀ (i k : Nat), L[i]? = some (h, k) → P i H) (q0 : h ∉ L.map Prod.fst → P (-1) H) : wm_275 (120 + 54 * m) x H P := ⟨L.length + 1, c_index_l nd kp pp hx q1 q0 (L.length + 1) 0 (by omega) (by omega) (fun i e hi => by omega)⟩
/-- what stays -/
theorem c_KS_ch (hV : c_V H mk nn K tl cn cs) (hX : c_X H mk tp rd ms) (hK : c_KS H mk ms La) (k : c_ch A H Z) (hl : w_le mk mm) (h1416 : 1416 ∉ A) (hM : ∀ m, m < 24 → sw_iv Z (120 + 54 * m) 9 = sw_iv H (120 + 54 * m) 9 ∧ c_ka Z m 7 = c_ka H m 7 ∧ c_ka Z m 8 = c_ka H m 8 ∧ c_ka H m 7 ∉ A ∧ c_ka H m 8 ∉ A) (hr : ∀ i, i < ms.length → sw_rv H 1416 i ∉ A) : c_KS Z mm ms La := by
  have fl := hV.2.2.2.1
  have ad := hV.2.2.2.2
  refine ⟨fun m hm => ?_, ?_, ?_⟩
  · obtain ⟨kp, p1, p2, p3⟩ := hK.1 m hm
    obtain ⟨m9, m7, m8, a7, a8⟩ := hM m hm
    obtain ⟨⟨t7, t8⟩, e1, e2, e3, ⟨o7, o8⟩, l7, l8⟩ := kp
    have n7 : sw_ty H (c_ka H m 7) ≠ 0 := by rw [t7]; decide
    have n8 : sw_ty H (c_ka H m 8) ≠ 0 := by rw [t8]; decide
    have s7 := k.1.2 _ n7
    have s8 := k.1.2 _ n8
    have i7 := (k.2.1 _ n7 o7 a7).1
    have i8 := (k.2.1 _ n8 o8 a8).1
    refine ⟨?_, ?_⟩
    · unfold c_kp
      rw [m7, m8, s7.1, s7.2, s8.1, s8.2]
      exact ⟨⟨t7, t8⟩, e1, e2, e3, ⟨c_ch_no k n7 o7, c_ch_no k n8 o8⟩, l7, l8⟩
    · unfold c_pp
      rw [m7, m8, s8.2, m9]
      refine ⟨p1, p2, fun i kk h hi => ?_⟩
      rw [i7, i8]
      obtain ⟨x1, x2⟩ := p3 i kk h hi
      exact ⟨x1, w_le_at hl x2⟩
  · intro m m' f f' hm hm' hf hf' e
    obtain ⟨_, m7, m8, _⟩ := hM m hm
    obtain ⟨_, m7', m8', _⟩ := hM m' hm'
    refine hK.2.1 m m' f f' hm hm' hf hf' ?_
    rcases hf with e1 | e1 <;> rcases hf' with e2 | e2 <;> subst e1 <;> subst e2
    · rw [← m7, ← m7']; exact e
    · rw [← m7, ← m8']; exact e
    · rw [← m8, ← m7']; exact e
    · rw [← m8, ← m8']; exact e
  · intro m f i hm hf hi
    obtain ⟨_, m7, m8, _⟩ := hM m hm
    have r6 := (c_fx_iv fl ad k (q := 1416) (by unfold c_fix; omega) h1416).2
    obtain ⟨l, hl⟩ : ∃ l, ms[i]? = some l := ⟨ms[i]'hi, List.getElem?_eq_getElem hi⟩
    obtain ⟨_, g2, _, a, _, _, s, q, _⟩ := hX.2.2.2.2.2 i l hl
    have tr : sw_ty H (sw_rv H 1416 i) ≠ 0 := by rw [q.1]; decide
    rw [r6, (k.2.1 _ tr g2 (hr i hi)).2 0]
    have := hK.2.2 m f i hm hf hi
    rcases hf with e1 | e1 <;> subst e1
    · rw [m7]; exact this
    · rw [m8]; exact this
end
