/-! ===== the class: the Reader's u8, u16, u32 ===== -/
noncomputable section
section
variable {H Z X Y : sw_H} {nn nm r ra g m : Nat} {K K' S : Wt → Prop} {tl mk mm l : List Wt} {a b c x y n cn cs N U M : Int} {Q : sw_H → Prop} {P : Int → sw_H → Prop} {A B : List Nat} {w : Wt} {st : p_S}
/-- the Reader reads the row r, which is l -/
def c_rs (H : sw_H) (mk : List Wt) (r ra : Nat) (l : List Wt) : Prop := sw_ty H 18 = 72 ∧ sw_rv H 18 0 = 3 ∧ sw_rv H 18 1 = r ∧ c_sg H (w_d mk) r ra l ∧ r ≠ 18 ∧ ra ≠ 18 ∧ l.length ≤ 1400 ∧ c_n H = mk.length
/-- where it stands -/
def c_rd (H : sw_H) (l : List Wt) : p_S → Prop
  | some (i, e) => sw_iv H 18 2 = i ∧ sw_iv H 18 3 = e ∧ sw_iv H 18 4 = 0 ∧ i ≤ e ∧ e ≤ l.length
  | none => 0 ≤ sw_iv H 18 2 ∧ sw_iv H 18 2 ≤ l.length ∧ 0 ≤ sw_iv H 18 3 ∧ sw_iv H 18 3 ≤ l.length ∧ sw_iv H 18 4 = 1
/-- the Reader's other numbers stay -/
def c_k5 (H Z : sw_H) : Prop := ∀ f, 5 ≤ f → sw_iv Z 18 f = sw_iv H 18 f
theorem c_k5_si {f : Nat} {z : Int} (e : Z = sw_si H 18 f z) (hf : f < 5) : c_k5 H Z := fun k hk => by rw [e, c_si_f (by omega)]
theorem c_k5_sq {p f : Nat} {z : Int} (e : Z = sw_si H p f z) (hp : p ≠ 18) : c_k5 H Z := fun k hk => by rw [e, c_si_q (fun h => hp h.symm)]
theorem c_k5_t (h : c_k5 H Z) (k : c_k5 Z X) : c_k5 H X := fun f hf => (k f hf).trans (h f hf)
theorem c_k5_r (H : sw_H) : c_k5 H H := fun _ _ => rfl
theorem c_rs_fr (h : c_rs H mk r ra l) (f : c_fr [18] H Z) : c_rs Z mk r ra l := by
  obtain ⟨h1, h2, h3, ⟨sg, g1, g2, g3⟩, h5, h6, h7, h8⟩ := h
  have n3 : c_n Z = c_n H := by unfold c_n; rw [f.2.2.2.2.2 3 (by simp)]
  exact ⟨by rw [f.2.2.1]; exact h1, by rw [f.2.2.2.2.1]; exact h2, by rw [f.2.2.2.2.1]; exact h3, ⟨sg, c_row_fr g1 f (by simpa using h5) (by simpa using h6), by rw [n3]; exact g2, g3⟩, h5, h6, h7, by rw [n3]; exact h8⟩
/-- the row's cells -/
theorem c_rs_at (hL : c_L H mk nn K tl) (h : c_rs H mk r ra l) : sw_ty H r = 80 ∧ sw_rv H r 0 = ra ∧ sw_ty H ra = 1 ∧ l.length ≤ sw_ln H ra ∧ ∀ i, i < l.length → m_vs mk.length (sw_iv H ra i) ∧ w_sg (w_d mk) (sw_iv H ra i) = (l[i]?).getD [] ∧ (sw_iv H ra i < 256 ↔ ((l[i]?).getD []).head? = some 1000) ∧ (sw_iv H ra i < 256 → w_bv ((l[i]?).getD []) = sw_iv H ra i) := by
  obtain ⟨h1, h2, h3, ⟨sg, g1, g2, g3⟩, h5, h6, h7, h8⟩ := h
  have ln : sg.length = l.length := by rw [← g3, List.length_map]
  have lna := g1.2.2.2.2.1
  refine ⟨g1.1, g1.2.1, g1.2.2.1, by omega, fun i hi => ?_⟩
  have sat := c_row_at g1 (k := i) (by omega)
  have smem : sw_iv H ra i ∈ sg := List.mem_of_getElem? sat
  have vs := g2 _ smem
  rw [h8] at vs
  have wsg : w_sg (w_d mk) (sw_iv H ra i) = (l[i]?).getD [] := by
    have : l[i]? = some (w_sg (w_d mk) (sw_iv H ra i)) := by rw [← g3, List.getElem?_map, sat]; rfl
    rw [this]
    rfl
  refine ⟨vs, wsg, ⟨fun c => by rw [← wsg]; exact w_by_head _ _ c, fun c => ?_⟩, fun c => ?_⟩
  · rcases Int.lt_or_le (sw_iv H ra i) 256 with g | g
    · exact g
    · exfalso
      unfold m_vs at vs
      have hat : w_at mk (sw_iv H ra i - 256) ((l[i]?).getD []) := by
        have := w_at_of (mk := mk) (x := sw_iv H ra i - 256) (by omega) (by omega)
        unfold w_sg at wsg
        rw [if_neg (by omega)] at wsg
        rw [wsg] at this
        exact this
      exact c_at_head hL hat c
  · rw [← wsg]
    unfold w_sg
    rw [if_pos c]
    unfold w_bv
    unfold m_vs at vs
    show ((sw_iv H ra i).toNat : Int) = _
    omega
theorem c_rd_wrong {b : sw_H} (h1 : 0 ≤ sw_iv H 18 2) (h2 : sw_iv H 18 2 ≤ l.length) (h3 : 0 ≤ sw_iv H 18 3) (h4 : sw_iv H 18 3 ≤ l.length) (e : b = sw_si H 18 4 1) : c_rd b l none ∧ c_fr [18] H b := by
  refine ⟨⟨?_, ?_, ?_, ?_, by rw [e, c_si_eq]⟩, by rw [e]; exact c_fr_si _ _ _ _⟩
  · rw [e, c_si_f (by decide)]; exact h1
  · rw [e, c_si_f (by decide)]; exact h2
  · rw [e, c_si_f (by decide)]; exact h3
  · rw [e, c_si_f (by decide)]; exact h4
theorem c_rd_b (h : c_rd H l st) : 0 ≤ sw_iv H 18 2 ∧ sw_iv H 18 2 ≤ l.length ∧ 0 ≤ sw_iv H 18 3 ∧ sw_iv H 18 3 ≤ l.length := by
  cases st with
  | none => exact ⟨h.1, h.2.1, h.2.2.1, h.2.2.2.1⟩
  | some s =>
    obtain ⟨i, e⟩ := s
    obtain ⟨h1, h2, h3, h4, h5⟩ := h
    omega
theorem c_u8 (hL : c_L H mk nn K tl) (hs : c_rs H mk r ra l) (h : c_rd H l st) (q : ∀ z G, c_rd G l (p_to (p_8 l st)) → (∀ b s, p_8 l st = some (b, s) → z = b) → 0 ≤ z → z < 256 → c_fr [18] H G → c_k5 H G → P z G) : wm_342 18 H P := by
  obtain ⟨b1, b2, b3, b4⟩ := c_rd_b h
  obtain ⟨t1, t2, t3, t4, at'⟩ := c_rs_at hL hs
  have rv1 := hs.2.2.1
  have l7 := hs.2.2.2.2.2.2.1
  have bad : p_8 l st = none → wb_342_13 P 18 H := by
    intro e
    unfold wb_342_13
    intro H1 e1
    obtain ⟨k1, k2⟩ := c_rd_wrong b1 b2 b3 b4 e1
    exact q 0 H1 (by rw [e]; exact k1) (fun b s hb => by rw [e] at hb; exact absurd hb (by simp)) (by omega) (by omega) k2 (c_k5_si e1 (by omega))
  unfold wm_342
  intro v4 e4 _ v7 e7 _
  rw [rv1]
  refine ⟨fun c => bad ?_, fun c => ⟨t1, ?_⟩⟩
  · cases st with
    | none => rfl
    | some s =>
      obtain ⟨i, e⟩ := s
      obtain ⟨h1, h2, h3, h4, h5⟩ := h
      exact if_neg (fun g => by omega)
  · intro q10 e10
    rw [e10, t2]
    refine ⟨t3, ?_⟩
    intro q13 e13 v16 e16 _
    rw [e13]
    obtain ⟨i, ei⟩ : ∃ i : Nat, sw_iv H 18 2 = i := ⟨(sw_iv H 18 2).toNat, by omega⟩
    have hi : i < l.length := by omega
    obtain ⟨a1, a2, a3, a4⟩ := at' i hi
    refine ⟨by omega, by omega, ?_⟩
    intro v19 e19 _
    rw [e16, ei, Int.toNat_natCast] at e19
    refine ⟨fun c2 => ?_, fun c2 => bad ?_⟩
    · rw [e19] at c2
      intro v22 e22 _ H25 e25
      rw [e22, ei, sw_w_s (by omega) (by omega)] at e25
      have f25 : c_fr [18] H H25 := by rw [e25]; exact c_fr_si _ _ _ _
      have rr : ra ≠ 18 := hs.2.2.2.2.2.1
      rw [f25.2.2.2.2.1, rv1]
      refine ⟨by rw [f25.2.2.1]; exact t1, ?_⟩
      intro q28 e28
      rw [e28, f25.2.2.2.2.1, t2]
      refine ⟨by rw [f25.2.2.1]; exact t3, ?_⟩
      intro q31 e31 v34 e34 _
      have e34 : v34 = (i : Int) + 1 := by rw [e34, e25, c_si_eq]
      rw [e31, e34, sw_w_s (by omega) (by omega), show (i : Int) + 1 - 1 = i by omega]
      refine ⟨by omega, by rw [f25.2.2.2.1]; omega, ?_⟩
      intro v37 e37 _
      rw [Int.toNat_natCast, f25.2.2.2.2.2 ra (by simpa using rr)] at e37
      have v0 : 0 ≤ v37 := by rw [e37]; exact a1.1
      have w2 : sw_iv H25 18 2 = (i : Int) + 1 := by rw [e25, c_si_eq]
      have w3 : sw_iv H25 18 3 = sw_iv H 18 3 := by rw [e25, c_si_f (by decide)]
      have w4 : sw_iv H25 18 4 = sw_iv H 18 4 := by rw [e25, c_si_f (by decide)]
      cases st with
      | none =>
        refine q v37 H25 ⟨by omega, by omega, by omega, by omega, ?_⟩ (fun b s hb => absurd hb (by simp [p_8])) v0 (by omega) f25 (c_k5_si e25 (by omega))
        rw [w4]; exact h.2.2.2.2
      | some s =>
        obtain ⟨i', e⟩ := s
        obtain ⟨h1, h2, h3, h4, h5⟩ := h
        have ii : i' = i := by omega
        subst ii
        have ep : p_8 l (some (i', e)) = some (w_bv ((l[i']?).getD []), i' + 1, e) := if_pos ⟨by omega, a3.mp c2⟩
        refine q v37 H25 ?_ (fun b s hb => ?_) v0 (by omega) f25 (c_k5_si e25 (by omega))
        · rw [ep]
          exact ⟨by rw [w2]; omega, by rw [w3]; exact h2, by rw [w4]; exact h3, by omega, h5⟩
        · rw [ep] at hb
          have := (Prod.mk.inj (Option.some.inj hb)).1
          rw [← this, a4 c2, e37]
    · cases st with
      | none => rfl
      | some s =>
        obtain ⟨i', e⟩ := s
        obtain ⟨h1, h2, h3, h4, h5⟩ := h
        have ii : i' = i := by omega
        subst ii
        refine if_neg (fun g => ?_)
        have := a3.mpr g.2
        omega
/-- two bytes at once -/
theorem p_16_i {i e : Nat} : p_16 l (some (i, e)) = if i + 1 < e ∧ ((l[i]?).getD []).head? = some 1000 ∧ ((l[i + 1]?).getD []).head? = some 1000 then some (256 * w_bv ((l[i]?).getD []) + w_bv ((l[i + 1]?).getD []), i + 2, e) else none := by
  unfold p_16
  by_cases c1 : i < e ∧ ((l[i]?).getD []).head? = some 1000
  · have e1 : p_8 l (some (i, e)) = some (w_bv ((l[i]?).getD []), i + 1, e) := if_pos c1
    rw [e1]
    show (p_8 l (some (i + 1, e))).map (fun b => (256 * w_bv ((l[i]?).getD []) + b.1, b.2)) = _
    by_cases c2 : i + 1 < e ∧ ((l[i + 1]?).getD []).head? = some 1000
    · have e2 : p_8 l (some (i + 1, e)) = some (w_bv ((l[i + 1]?).getD []), i + 1 + 1, e) := if_pos c2
      rw [e2, if_pos ⟨c2.1, c1.2, c2.2⟩]
      rfl
    · have e2 : p_8 l (some (i + 1, e)) = none := if_neg c2
      rw [e2, if_neg (fun g => c2 ⟨g.1, g.2.2⟩)]
      rfl
  · have e1 : p_8 l (some (i, e)) = none := if_neg c1
    rw [e1, if_neg (fun g => c1 ⟨by omega, g.2.1⟩)]
    rfl
theorem c_u16 (hL : c_L H mk nn K tl) (hs : c_rs H mk r ra l) (h : c_rd H l st) (q : ∀ z G, c_rd G l (p_to (p_16 l st)) → (∀ b s, p_16 l st = some (b, s) → z = b) → 0 ≤ z → z < 65536 → c_fr [18] H G → c_k5 H G → P z G) : wm_353 18 H P := by
  obtain ⟨b1, b2, b3, b4⟩ := c_rd_b h
  obtain ⟨t1, t2, t3, t4, at'⟩ := c_rs_at hL hs
  have rv1 := hs.2.2.1
  have l7 := hs.2.2.2.2.2.2.1
  have rr : ra ≠ 18 := hs.2.2.2.2.2.1
  have bad : p_16 l st = none → wb_353_25 P 18 H := by
    intro e
    unfold wb_353_25
    intro H1 e1
    obtain ⟨k1, k2⟩ := c_rd_wrong b1 b2 b3 b4 e1
    exact q 0 H1 (by rw [e]; exact k1) (fun b s hb => by rw [e] at hb; exact absurd hb (by simp)) (by omega) (by omega) k2 (c_k5_si e1 (by omega))
  unfold wm_353
  intro v4 e4 _ v7 e7 _
  rw [rv1]
  obtain ⟨i, ei⟩ : ∃ i : Nat, sw_iv H 18 2 = i := ⟨(sw_iv H 18 2).toNat, by omega⟩
  rw [ei] at e4
  rw [e4, sw_w_s (by omega) (by omega)]
  -- what is not there
  have none_of : ¬ (((i : Int) + 1 < sw_iv H 18 3) ∧ sw_iv H ra i < 256 ∧ sw_iv H ra (i + 1) < 256) → wb_353_25 P 18 H := by
    intro hn
    refine bad ?_
    cases st with
    | none => rfl
    | some s =>
      obtain ⟨i', e⟩ := s
      obtain ⟨h1, h2, h3, h4, h5⟩ := h
      have ii : i' = i := by omega
      subst ii
      rw [p_16_i]
      refine if_neg (fun g => hn ⟨by omega, ?_, ?_⟩)
      · exact ((at' i' (by omega)).2.2.1).mpr g.2.1
      · exact ((at' (i' + 1) (by omega)).2.2.1).mpr g.2.2
  refine ⟨fun c => none_of (fun g => by omega), fun c => ⟨t1, ?_⟩⟩
  obtain ⟨a1, a2, a3, a4⟩ := at' i (by omega)
  obtain ⟨d1, d2, d3, d4⟩ := at' (i + 1) (by omega)
  intro q10 e10
  rw [e10, t2]
  refine ⟨t3, ?_⟩
  intro q13 e13 v16 e16 _
  rw [e13]
  refine ⟨by omega, by omega, ?_⟩
  intro v19 e19 _
  rw [e16, ei, Int.toNat_natCast] at e19
  refine ⟨fun c2 => none_of (fun g => by omega), fun c2 => ⟨t1, ?_⟩⟩
  intro q22 e22
  rw [e22, t2]
  refine ⟨t3, ?_⟩
  intro q25 e25 v28 e28 _
  rw [e25, e28, ei, sw_w_s (z := (i : Int) + 1) (by omega) (by omega), show (i : Int) + 1 = ((i + 1 : Nat) : Int) by omega]
  refine ⟨by omega, by omega, ?_⟩
  intro v31 e31 _
  rw [Int.toNat_natCast] at e31
  refine ⟨fun c3 => ?_, fun c3 => none_of (fun g => by omega)⟩
  intro v34 e34 _ H37 e37
  rw [e34, sw_w_s (by omega) (by omega)] at e37
  have f37 : c_fr [18] H H37 := by rw [e37]; exact c_fr_si _ _ _ _
  have w2 : sw_iv H37 18 2 = (i : Int) + 2 := by rw [e37, c_si_eq]
  have w3 : sw_iv H37 18 3 = sw_iv H 18 3 := by rw [e37, c_si_f (by decide)]
  have w4 : sw_iv H37 18 4 = sw_iv H 18 4 := by rw [e37, c_si_f (by decide)]
  have ira : sw_iv H37 ra = sw_iv H ra := f37.2.2.2.2.2 ra (by simpa using rr)
  rw [f37.2.2.2.2.1, rv1]
  refine ⟨by rw [f37.2.2.1]; exact t1, ?_⟩
  intro q40 e40
  rw [e40, f37.2.2.2.2.1, t2]
  refine ⟨by rw [f37.2.2.1]; exact t3, ?_⟩
  intro q43 e43 v46 e46 _
  rw [w2] at e46
  rw [e43, e46, sw_w_s (z := (i : Int) + 2 - 2) (by omega) (by omega), show (i : Int) + 2 - 2 = i by omega]
  refine ⟨by omega, by rw [f37.2.2.2.1]; omega, ?_⟩
  intro v49 e49 _
  rw [Int.toNat_natCast, ira] at e49
  refine ⟨by rw [f37.2.2.1]; exact t1, ?_⟩
  intro q52 e52
  rw [e52, f37.2.2.2.2.1, t2]
  refine ⟨by rw [f37.2.2.1]; exact t3, ?_⟩
  intro q55 e55 v58 e58 _
  rw [w2] at e58
  rw [e55, e58, sw_w_s (z := (i : Int) + 2 - 1) (by omega) (by omega), show (i : Int) + 2 - 1 = ((i + 1 : Nat) : Int) by omega]
  refine ⟨by omega, by rw [f37.2.2.2.1]; omega, ?_⟩
  intro v61 e61 _
  rw [Int.toNat_natCast, ira] at e61
  have x0 := a1.1
  have y0 := d1.1
  rw [sw_or_16 (by omega) (by omega) (by omega) (by omega)]
  cases st with
  | none =>
    refine q _ H37 ⟨by omega, by omega, by omega, by omega, ?_⟩ (fun b s hb => absurd hb (by simp [p_16, p_8])) (by omega) (by omega) f37 (c_k5_si e37 (by omega))
    rw [w4]; exact h.2.2.2.2
  | some s =>
    obtain ⟨i', e⟩ := s
    obtain ⟨h1, h2, h3, h4, h5⟩ := h
    have ii : i' = i := by omega
    subst ii
    have ep : p_16 l (some (i', e)) = some (256 * w_bv ((l[i']?).getD []) + w_bv ((l[i' + 1]?).getD []), i' + 2, e) := by
      rw [p_16_i]
      exact if_pos ⟨by omega, a3.mp (by omega), d3.mp (by omega)⟩
    refine q _ H37 ?_ (fun b s hb => ?_) (by omega) (by omega) f37 (c_k5_si e37 (by omega))
    · rw [ep]
      exact ⟨by rw [w2]; omega, by rw [w3]; exact h2, by rw [w4]; exact h3, by omega, h5⟩
    · rw [ep] at hb
      have := (Prod.mk.inj (Option.some.inj hb)).1
      rw [← this, a4 (by omega), d4 (by omega), e49, e61]
end
end
