/-! ===== the class: what is learnt ===== -/
noncomputable section
theorem sw_div_3 {x : Int} (h0 : 0 ≤ x) (h1 : x ≤ 2147483647) : sw_div x 3 = x / 3 := by
  unfold sw_div
  have e1 : (Int32.ofInt x).toInt = x := sw_c_id ⟨by omega, h1⟩
  have e3 : (Int32.ofInt 3).toInt = 3 := by decide
  rw [Int32.toInt_div, e1, e3, Int.tdiv_eq_ediv_of_nonneg h0, Int.bmod_eq_of_le] <;> omega
theorem sw_rem_3 {x : Int} (h0 : 0 ≤ x) (h1 : x ≤ 2147483647) : sw_rem x 3 = x % 3 := by
  unfold sw_rem
  have e1 : (Int32.ofInt x).toInt = x := sw_c_id ⟨by omega, h1⟩
  have e3 : (Int32.ofInt 3).toInt = 3 := by decide
  have ed : (Int32.ofInt x / Int32.ofInt 3).toInt = x / 3 := sw_div_3 h0 h1
  rw [Int32.toInt_sub, Int32.toInt_mul, ed, e1, e3, Int.bmod_eq_of_le (n := x / 3 * 3) (by omega) (by omega), Int.bmod_eq_of_le (by omega) (by omega)]
  omega
section
variable {H X Y Z : sw_H} {d : Nat → Wt} {nn : Nat} {K : Wt → Prop} {tl : List Wt} {g t : Nat} {wl wm wn : List Nat} {x : Int} {Q : sw_H → Prop} {P : Int → sw_H → Prop}
/-- but for knowledge and what waits, the same -/
def c_lr (X Y : sw_H) : Prop := c_fr [3, sw_rv X 3 1, sw_rv X 3 8] X Y ∧ (∀ f, f ≠ 9 → sw_iv Y 3 f = sw_iv X 3 f) ∧ ∀ j : Nat, (j % 14 ≠ 9 ∨ j < 14 ∨ 14 * (c_n X + 1) ≤ (j : Int)) → sw_iv Y (sw_rv X 3 1) j = sw_iv X (sw_rv X 3 1) j
theorem c_lr_refl (X : sw_H) : c_lr X X := ⟨c_fr_refl _ _, fun _ _ => rfl, fun _ _ => rfl⟩
theorem c_lr_n (h : c_lr X Y) : c_n Y = c_n X := h.2.1 2 (by decide)
theorem c_lr_trans (h : c_lr X Y) (k : c_lr Y Z) : c_lr X Z := by
  have r1 : sw_rv Y 3 1 = sw_rv X 3 1 := h.1.2.2.2.2.1 3 1
  have r8 : sw_rv Y 3 8 = sw_rv X 3 8 := h.1.2.2.2.2.1 3 8
  have en := c_lr_n h
  obtain ⟨k1, k2, k3⟩ := k
  rw [r1, r8] at k1
  rw [r1, en] at k3
  exact ⟨c_fr_t h.1 k1, fun f hf => (k2 f hf).trans (h.2.1 f hf), fun j hj => (k3 j hj).trans (h.2.2 j hj)⟩
theorem c_lr_d (h : c_lr X Y) {t k : Nat} (hk : k ≤ 13) (h9 : k ≠ 9 ∨ t = 0) : c_d Y t k = c_d X t k := by
  unfold c_d
  rw [h.1.2.2.2.2.1 3 1]
  exact h.2.2 _ (by omega)
theorem c_lr_R (h : c_lr X Y) (t : Nat) : c_R Y t ↔ c_R X t := by unfold c_R; rw [c_lr_n h]
theorem c_lr_mk (h : c_lr X Y) (S : Nat → Prop) (t : Nat) : c_mk Y S t ↔ c_mk X S t := c_mk_cg (fun _ hk => c_lr_d h (by omega) (Or.inl (by omega))) Iff.rfl (fun _ => Iff.rfl) Iff.rfl
theorem c_lr_clo (h : c_lr X Y) (S : Nat → Prop) : c_clo Y S ↔ c_clo X S := by
  unfold c_clo
  constructor
  · intro q t ht
    have := q t ((c_lr_R h t).mpr ht)
    rw [c_lr_mk h, c_lr_d h (t := t) (k := 0) (by decide) (Or.inl (by decide)), c_lr_d h (t := t) (k := 1) (by decide) (Or.inl (by decide)), c_lr_d h (t := t) (k := 2) (by decide) (Or.inl (by decide)), c_lr_d h (t := t) (k := 3) (by decide) (Or.inl (by decide)), c_lr_d h (k := 1) (by decide) (Or.inl (by decide))] at this
    exact this
  · intro q t ht
    rw [c_lr_mk h, c_lr_d h (t := t) (k := 0) (by decide) (Or.inl (by decide)), c_lr_d h (t := t) (k := 1) (by decide) (Or.inl (by decide)), c_lr_d h (t := t) (k := 2) (by decide) (Or.inl (by decide)), c_lr_d h (t := t) (k := 3) (by decide) (Or.inl (by decide)), c_lr_d h (k := 1) (by decide) (Or.inl (by decide))]
    exact q t ((c_lr_R h t).mp ht)
/-- the shape that stays while things are learnt -/
def c_sh (X : sw_H) : Prop := c_S X ∧ c_D X ∧ ¬ c_ow X 4 ∧ ¬ c_ow X 5 ∧ 14 * (c_n X + 1) ≤ sw_ln X (sw_rv X 3 1) ∧ 1 ≤ c_n X ∧ c_n X + 1 ≤ sw_ln X (sw_rv X 3 8) ∧ c_d X 0 9 = 0
theorem c_lr_sh (h : c_lr X Y) (s : c_sh X) : c_sh Y := by
  obtain ⟨S, D, h4, h5, l1, n1, l8, z⟩ := s
  have n4 : 4 ∉ [3, sw_rv X 3 1, sw_rv X 3 8] := by
    simp
    exact ⟨fun e => h4 (Or.inr (Or.inl e)), fun e => h4 (Or.inr (Or.inr (Or.inr (Or.inr (Or.inr e)))))⟩
  have n5 : 5 ∉ [3, sw_rv X 3 1, sw_rv X 3 8] := by
    simp
    exact ⟨fun e => h5 (Or.inr (Or.inl e)), fun e => h5 (Or.inr (Or.inr (Or.inr (Or.inr (Or.inr e)))))⟩
  obtain ⟨S2, D2⟩ := c_fr_S h.1 S D n4 n5
  refine ⟨S2, D2, fun q => h4 ((c_fr_ow h.1 4).mp q), fun q => h5 ((c_fr_ow h.1 5).mp q), ?_, by rw [c_lr_n h]; exact n1, ?_, by rw [c_lr_d h (by decide) (Or.inr rfl)]; exact z⟩
  · rw [c_lr_n h, h.1.2.2.2.2.1, h.1.2.2.2.1]; exact l1
  · rw [c_lr_n h, h.1.2.2.2.2.1, h.1.2.2.2.1]; exact l8
/-- what waits -/
def c_wt (X : sw_H) (wl : List Nat) : Prop := sw_iv X 3 9 = wl.length ∧ (∀ i t : Nat, wl[i]? = some t → sw_iv X (sw_rv X 3 8) i = t) ∧ ∀ t ∈ wl, c_kn X t
def c_un (X : sw_H) : Nat := (List.range (c_n X).toNat).countP (fun t => decide (c_d X (t + 1) 9 = 0))
/-- a stretch of the search: g is given -/
def c_sp (g : Nat) (X : sw_H) (wl : List Nat) (Y : sw_H) (wm : List Nat) : Prop := c_lr X Y ∧ c_01 Y ∧ c_wt Y wm ∧ (∃ nw, wm = wl ++ nw ∧ ∀ t, c_kn Y t ↔ c_kn X t ∨ t ∈ nw) ∧ (∀ S, c_clo X S → S g → (∀ t, c_kn X t → S t) → ∀ t, c_kn Y t → S t) ∧ c_un Y + wm.length ≤ c_un X + wl.length
theorem c_sp_refl (h01 : c_01 X) (hw : c_wt X wl) : c_sp g X wl X wl := ⟨c_lr_refl X, h01, hw, ⟨[], by simp, by simp⟩, fun _ _ _ h => h, Nat.le_refl _⟩
theorem c_sp_trans (h : c_sp g X wl Y wm) (k : c_sp g Y wm Z wn) : c_sp g X wl Z wn := by
  obtain ⟨h1, h2, h3, ⟨u, h4, h5⟩, h6, h7⟩ := h
  obtain ⟨k1, k2, k3, ⟨v, k4, k5⟩, k6, k7⟩ := k
  refine ⟨c_lr_trans h1 k1, k2, k3, ⟨u ++ v, by rw [k4, h4, List.append_assoc], fun t => ?_⟩, fun S a b c => k6 S ((c_lr_clo h1 S).mpr a) b (h6 S a b c), by omega⟩
  rw [k5, h5, List.mem_append]
  constructor
  · rintro ((q | q) | q)
    · exact Or.inl q
    · exact Or.inr (Or.inl q)
    · exact Or.inr (Or.inr q)
  · rintro (q | q | q)
    · exact Or.inl (Or.inl q)
    · exact Or.inl (Or.inr q)
    · exact Or.inr q
theorem c_sp_mono (h : c_sp g X wl Y wm) {t : Nat} (hk : c_kn X t) : c_kn Y t := by
  obtain ⟨_, _, _, ⟨u, _, h5⟩, _⟩ := h
  exact (h5 t).mpr (Or.inl hk)
/-- a field of a term's row is read -/
theorem c_get {k : Nat} {Q : Int → Prop} (s : c_sh X) (h1 : (t : Int) ≤ c_n X) (hk : k ≤ 13) (q : Q (c_d X t k)) : sw_ty X (sw_rv X 3 1) = 1 ∧ ∀ q1, q1 = sw_rv X 3 1 → 0 ≤ sw_w ((sw_w ((t : Int) * 14)) + k) ∧ sw_w ((sw_w ((t : Int) * 14)) + k) < sw_ln X q1 ∧ ∀ v4, v4 = sw_iv X q1 (sw_w ((sw_w ((t : Int) * 14)) + k)).toNat → sw_c v4 → Q v4 := by
  obtain ⟨S, D, h4, h5, l1, n1, l8, z⟩ := s
  have dl := S.2.2.2.2.2.2.1
  refine ⟨S.2.1, ?_⟩
  intro q1 e1
  subst e1
  rw [sw_w_s (z := (t : Int) * 14) (by omega) (by omega), sw_w_s (by omega) (by omega)]
  refine ⟨by omega, by omega, ?_⟩
  intro v e _
  have : v = c_d X t k := by
    rw [e]
    unfold c_d
    congr 1
    omega
  rw [this]
  exact q
theorem c_sortOf (s : c_sh X) (h1 : (t : Int) ≤ c_n X) (q : P (c_d X t 0) X) : wm_121 3 t X P := c_get (k := 0) (Q := fun v => P v X) s h1 (by decide) q
theorem c_firstOf (s : c_sh X) (h1 : (t : Int) ≤ c_n X) (q : P (c_d X t 1) X) : wm_122 3 t X P := c_get (k := 1) (Q := fun v => P v X) s h1 (by decide) q
theorem c_secondOf (s : c_sh X) (h1 : (t : Int) ≤ c_n X) (q : P (c_d X t 2) X) : wm_124 3 t X P := c_get (k := 2) (Q := fun v => P v X) s h1 (by decide) q
theorem c_thirdOf (s : c_sh X) (h1 : (t : Int) ≤ c_n X) (q : P (c_d X t 3) X) : wm_125 3 t X P := c_get (k := 3) (Q := fun v => P v X) s h1 (by decide) q
theorem c_knows (s : c_sh X) (h01 : c_01 X) (h1 : (t : Int) ≤ c_n X) (q1 : c_k X t → P 1 X) (q0 : ¬ c_k X t → P 0 X) : wm_120 3 t X P := c_get (k := 9) (Q := fun v => (v = 0 → P 0 X) ∧ (v ≠ 0 → P 1 X)) s h1 (by decide) (by
  unfold c_k at q1 q0
  rcases h01 t h1 with e | e
  · rw [e] at q1 q0 ⊢
    exact ⟨fun _ => q0 (by decide), fun h => absurd rfl h⟩
  · rw [e] at q1 q0 ⊢
    exact ⟨fun h => absurd h (by decide), fun _ => q1 rfl⟩)
/-- a term comes to be known -/
theorem c_reveal (s : c_sh X) (h01 : c_01 X) (hw : c_wt X wl) (hu : (c_un X : Int) + wl.length ≤ c_n X) (h0 : 0 ≤ x) (h1 : x ≤ c_n X) (hj : x ≠ 0 → ∀ S, c_clo X S → S g → (∀ t, c_kn X t → S t) → S x.toNat) (k : ∀ Y wm, c_sp g X wl Y wm → (x ≠ 0 → c_kn Y x.toNat) → Q Y) : wm_252 3 x X Q := by
  have s' := s
  obtain ⟨S, D, h4, h5, l1, n1, l8, z⟩ := s'
  have dl := S.2.2.2.2.2.2.1
  have el := S.2.2.2.2.2.2.2.2.2.2.1
  have D' := D
  obtain ⟨d1, d2, d3, d4, d5, d6, d7, d8, d9, d10⟩ := D'
  unfold wm_252
  intro y1 ey
  rw [sw_w_s (z := x * 14) (by omega) (by omega), sw_w_s (by omega) (by omega)] at ey
  refine ⟨fun c0 => k X wl (c_sp_refl h01 hw) (fun h => absurd c0 h), fun c0 => ⟨S.2.1, ?_⟩⟩
  intro q5 e5
  subst e5
  refine ⟨by omega, by omega, ?_⟩
  intro v8 e8 _
  have e9 : v8 = c_d X x.toNat 9 := by
    rw [e8]
    unfold c_d
    congr 1
    omega
  have hR : c_R X x.toNat := ⟨by omega, by omega⟩
  refine ⟨fun cv => k X wl (c_sp_refl h01 hw) (fun _ => ⟨hR, ?_⟩), fun cv => ⟨S.2.1, ?_⟩⟩
  · unfold c_k
    rcases h01 x.toNat hR.2 with e | e
    · rw [e9, e] at cv; exact absurd rfl cv
    · exact e
  intro q11 e11
  subst e11
  refine ⟨by omega, by omega, ?_⟩
  intro B eB
  have ej : y1.toNat = 14 * x.toNat + 9 := by omega
  rw [ej] at eB
  have frB : c_fr [sw_rv X 3 1] X B := by rw [eB]; exact c_fr_si _ _ _ _
  have n31 : (3 : Nat) ≠ sw_rv X 3 1 := fun e => by
    have h1 := S.1
    rw [e, S.2.1] at h1
    cases h1
  have n38 : (3 : Nat) ≠ sw_rv X 3 8 := fun e => by
    have h1 := S.1
    rw [e, S.2.2.2.2.2.1] at h1
    cases h1
  have hun : 1 ≤ c_un X := by
    unfold c_un
    have := (m_cnt (p := fun t => decide (c_d X (t + 1) 9 = 0)) (q := fun _ => false) (List.range (c_n X).toNat) (fun t _ h => by cases h)).2 ⟨x.toNat - 1, by rw [List.mem_range]; omega, by rw [decide_eq_true_iff, show x.toNat - 1 + 1 = x.toNat by omega, ← e9]; exact cv, rfl⟩
    omega
  intro v17 e17 _
  have e17 : v17 = wl.length := by rw [e17, frB.2.2.2.2.2 3 (by simp; exact n31)]; exact hw.1
  subst e17
  refine ⟨by rw [frB.2.2.2.2.1, frB.2.2.1]; exact S.2.2.2.2.2.1, ?_⟩
  intro q20 e20 v23 e23 _
  rw [frB.2.2.2.2.1] at e20
  subst e20
  rw [frB.2.2.2.1] at e23
  subst e23
  refine ⟨fun c1 => by omega, fun c1 => ⟨by rw [frB.2.2.2.2.1, frB.2.2.1]; exact S.2.2.2.2.2.1, ?_⟩⟩
  intro q26 e26 v29 e29 _
  rw [frB.2.2.2.2.1] at e26
  subst e26
  have e29 : v29 = wl.length := by rw [e29, frB.2.2.2.2.2 3 (by simp; exact n31)]; exact hw.1
  subst e29
  refine ⟨by omega, by rw [frB.2.2.2.1]; omega, ?_⟩
  rw [Int.toNat_natCast]
  intro C eC v35 e35 _ Y eY
  have frC : c_fr [sw_rv X 3 8] B C := by rw [eC]; exact c_fr_si _ _ _ _
  have e35 : v35 = wl.length := by rw [e35, frC.2.2.2.2.2 3 (by simp; exact n38), frB.2.2.2.2.2 3 (by simp; exact n31)]; exact hw.1
  subst e35
  rw [sw_w_s (by omega) (by omega)] at eY
  have frY : c_fr [3] C Y := by rw [eY]; exact c_fr_si _ _ _ _
  have fr : c_fr [3, sw_rv X 3 1, sw_rv X 3 8] X Y := c_fr_sub (c_fr_trans frB (c_fr_trans frC frY)) (by simp)
  have rv := fr.2.2.2.2.1
  have dY : ∀ j, sw_iv Y (sw_rv X 3 1) j = if j = 14 * x.toNat + 9 then 1 else sw_iv X (sw_rv X 3 1) j := fun j => by
    rw [frY.2.2.2.2.2 _ (by simp; exact fun e => n31 e.symm), frC.2.2.2.2.2 _ (by simp; exact d4), eB, sw_iv_si]
    simp only [true_and]
  have wY : ∀ j, sw_iv Y (sw_rv X 3 8) j = if j = wl.length then x else sw_iv X (sw_rv X 3 8) j := fun j => by
    rw [frY.2.2.2.2.2 _ (by simp; exact fun e => n38 e.symm), eC, sw_iv_si, frB.2.2.2.2.2 _ (by simp; exact fun e => d4 e.symm)]
    simp only [true_and]
  have iY : ∀ f, sw_iv Y 3 f = if f = 9 then (wl.length : Int) + 1 else sw_iv X 3 f := fun f => by
    rw [eY, sw_iv_si, frC.2.2.2.2.2 3 (by simp; exact n38), frB.2.2.2.2.2 3 (by simp; exact n31)]
    simp only [true_and]
  clear eY eC eB
  have lr : c_lr X Y := ⟨fr, fun f hf => by rw [iY, if_neg hf], fun j hj => by rw [dY, if_neg (by omega)]⟩
  have d9 : ∀ t, c_d Y t 9 = if t = x.toNat then 1 else c_d X t 9 := fun t => by
    unfold c_d
    rw [rv, dY]
    by_cases ct : t = x.toNat
    · rw [if_pos ct, if_pos (by omega)]
    · rw [if_neg ct, if_neg (by omega)]
  have kn : ∀ t, c_kn Y t ↔ c_kn X t ∨ t ∈ [x.toNat] := fun t => by
    unfold c_kn c_k
    rw [c_lr_R lr, d9, List.mem_singleton]
    by_cases ct : t = x.toNat
    · rw [if_pos ct]
      exact ⟨fun _ => Or.inr ct, fun _ => ⟨by rw [ct]; exact hR, rfl⟩⟩
    · rw [if_neg ct]
      exact ⟨fun h => Or.inl h, fun h => by rcases h with h | h; exact h; exact absurd h ct⟩
  have hx : c_kn Y x.toNat := (kn _).mpr (Or.inr (by simp))
  refine k Y (wl ++ [x.toNat]) ⟨lr, fun t ht => ?_, ⟨?_, fun i t hi => ?_, fun t ht => ?_⟩, ⟨[x.toNat], rfl, kn⟩, fun S a b c t ht => ?_, ?_⟩ (fun _ => hx)
  · rw [c_lr_n lr] at ht
    rw [d9]
    by_cases ct : t = x.toNat
    · rw [if_pos ct]; exact Or.inr rfl
    · rw [if_neg ct]; exact h01 t ht
  · rw [iY, if_pos rfl]; simp
  · rw [rv, wY]
    by_cases ci : i = wl.length
    · rw [ci, List.getElem?_append_right (Nat.le_refl _), Nat.sub_self] at hi
      have hi : x.toNat = t := by simpa using hi
      rw [if_pos ci]
      omega
    · rw [if_neg ci]
      have hlt : i < (wl ++ [x.toNat]).length := by
        rcases Nat.lt_or_ge i (wl ++ [x.toNat]).length with h | h
        · exact h
        · rw [List.getElem?_eq_none h] at hi; cases hi
      rw [List.length_append, List.length_singleton] at hlt
      rw [List.getElem?_append_left (by omega)] at hi
      exact hw.2.1 i t hi
  · rw [List.mem_append] at ht
    rcases ht with ht | ht
    · exact (kn t).mpr (Or.inl (hw.2.2 t ht))
    · exact (kn t).mpr (Or.inr ht)
  · rcases (kn t).mp ht with h | h
    · exact c t h
    · rw [List.mem_singleton] at h
      rw [h]
      exact hj c0 S a b c
  · have : c_un Y < c_un X := by
      unfold c_un
      rw [c_lr_n lr]
      refine (m_cnt (p := fun t => decide (c_d X (t + 1) 9 = 0)) (q := fun t => decide (c_d Y (t + 1) 9 = 0)) (List.range (c_n X).toNat) (fun t _ ht => ?_)).2 ⟨x.toNat - 1, by rw [List.mem_range]; omega, ?_, ?_⟩
      · rw [decide_eq_true_iff, d9] at ht
        rw [decide_eq_true_iff]
        by_cases ct : t + 1 = x.toNat
        · rw [if_pos ct] at ht; cases ht
        · rw [if_neg ct] at ht; exact ht
      · rw [decide_eq_true_iff, show x.toNat - 1 + 1 = x.toNat by omega, ← e9]; exact cv
      · rw [decide_eq_false_iff_not, d9, if_pos (by omega)]; decide
    rw [List.length_append, List.length_singleton]
    omega
end
end
