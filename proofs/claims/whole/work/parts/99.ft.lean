/-! ===== the reference: commit gathers changes ===== -/
noncomputable section
/-- each that is right with those ahead -/
def h_ga (T : w_T) (com : Int) : List w_Ch → List w_Ch → List w_Ch
  | L, [] => L
  | L, c :: C => h_ga T com (@ite _ (h_done T (L ++ [c]) com) (Classical.propDecidable _) (L ++ [c]) L) C
variable {I I0 J X : sr_V} {nn nm s u k h us : Nat} {K K' K2 : Wt → Prop} {tl tl' mk mm l0 l1 l2 lw lt lp lx : List Wt} {a b c y n msk lf wp x1 x2 : Int} {Q : Int → sr_V → Prop} {R : sr_V → Prop} {x i e l m mi : Nat} {P : Nat → Nat → Prop} {S : Wt → Prop} {w ls n0 cs cm jn : Wt} {G : w_G} {T : w_T} {ms : List (List Wt)} {L C : List w_Ch} {d : w_Ch}
theorem r_leafOfProposal {e : Nat} {s : Nat × Nat} (hL : m_L I mk nn K' tl) (hM : m_M I (w_d mk) ms) (hi : ms[mi]? = some lx) (he : e ≤ lx.length) (hx : m_tk I mk K (I 24 mi).toNat lx) (hp : p_16 lx (some (5, e)) = some (lf, s)) (q : Q lf I) : rm_94 mi I Q := by
  obtain ⟨k1, k2, k3, k4, k5⟩ := hM.2.2.2.2 mi lx hi
  have m3 := hM.2.1
  have m4 := hM.2.2.2.1
  have hlt : mi < ms.length := (List.getElem?_eq_some_iff.mp hi).1
  have hvl := m_tk_vl hx
  obtain ⟨s1, s2, s3, _, s5⟩ := p_16_sl hvl he hp
  have g0 : (w_sli lx 5 (5 + 2))[0]? = some (w_by (lf / 256 % 256)) := by rw [s1]; rfl
  have g1 : (w_sli lx 5 (5 + 2))[1]? = some (w_by (lf % 256)) := by rw [s1]; rfl
  rw [w_sli_at (by omega)] at g0 g1
  obtain ⟨fr, efr⟩ : ∃ fr : Nat, I 24 mi = fr := ⟨(I 24 mi).toNat, by omega⟩
  rw [efr, Int.toNat_natCast] at hx
  have by' : ∀ (j : Nat) (b : Int), lx[j]? = some (w_by b) → 0 ≤ b → b < 256 → I 26 (fr + j) = b := fun j b hj b0 b1 => by
    obtain ⟨v, ev⟩ := hx.1 j _ hj
    unfold m_vs at v
    by_cases c : I 26 (fr + j) < 256
    · rw [w_by_sg c] at ev
      unfold w_by at ev
      injection ev with _ ev
      injection ev with ev _
      omega
    · exfalso
      have h2 := hx.2.2.2.1 (I 26 (fr + j) - 256).toNat (by omega) (by omega)
      unfold w_sg at ev
      rw [if_neg c] at ev
      rw [ev] at h2
      have h3 : some 1000 = some (I 6 (I 26 (fr + j) - 256).toNat).toNat := h2.1
      have := Option.some.inj h3
      omega
  have b0 := by' 5 _ g0 (by omega) (by omega)
  have b1 := by' 6 _ g1 (by omega) (by omega)
  unfold rm_94
  refine ⟨by omega, by omega, ?_⟩
  intro v1 e1 _
  rw [Int.toNat_natCast, efr] at e1
  have e5 : sw_w (v1 + 5) = ((fr + 5 : Nat) : Int) := by rw [sw_w_s (by omega) (by omega)]; omega
  rw [e5]
  refine ⟨Int.natCast_nonneg _, by clear e5; omega, ?_⟩
  intro v4 e4 _
  refine ⟨by clear e5; omega, by clear e5; omega, ?_⟩
  intro v7 e7 _
  rw [Int.toNat_natCast, efr] at e7
  clear e5
  have e6 : sw_w (v7 + 6) = ((fr + 6 : Nat) : Int) := by rw [sw_w_s (by omega) (by omega)]; omega
  rw [e6]
  refine ⟨Int.natCast_nonneg _, by clear e6; omega, ?_⟩
  clear e6
  intro v10 e10 _
  rw [Int.toNat_natCast] at e4 e10
  rw [e4, e10, b0, b1, sw_and_255, sw_and_255]
  have a1 : lf / 256 % 256 % 256 = lf / 256 := by omega
  have a2 : lf % 256 % 256 = lf % 256 := by omega
  rw [a1, a2]
  have e8 : sw_shl (lf / 256) 8 = lf / 256 * ((2 ^ 8 : Nat) : Int) := by
    rw [sw_shl_k (k := 8) (by decide) (by decide), sw_w_s (by omega) (by omega)]
  rw [e8, sw_or_d (by omega) (by omega) (by omega) (by omega)]
  have : lf / 256 * ((2 ^ 8 : Nat) : Int) + lf % 256 = lf := by omega
  rw [this]
  exact q
theorem m_li_dec {z : Int} (h : m_li I mk K (L ++ [d])) (hz : z = (L.length : Nat)) : m_li (su I 1000 76 z) mk K L := by
  obtain ⟨h1, h2, h3, h4⟩ := h
  rw [List.length_append, List.length_singleton] at h1 h2
  refine ⟨by rw [su_eq, hz], by omega, by rw [su_k (by decide)]; exact h3, fun k c hk => ?_⟩
  have hh := h4 k c (by rw [List.getElem?_append_left (h_lt hk)]; exact hk)
  unfold m_le m_tk at hh ⊢
  rw [su_f (by decide), su_f (by decide), su_f (by decide), su_k (by decide), su_f (by decide), su_f (by decide), su_f (by decide), su_f (by decide), su_f (by decide), su_f (by decide)]
  exact hh
/-- the kept proposals as changes -/
def w_kc (K : Wt → Prop) (ms : List (List Wt)) (Lk : List (Wt × Nat)) (C : List w_Ch) : Prop := C.length = Lk.length ∧ ∀ (i k : Nat) (h : Wt), Lk[i]? = some (h, k) → ∃ p ep lf v sg tg, ms[k]? = some p ∧ p_pr K p ep lf v sg tg ∧ C[i]? = some (v, lf, h)
/-- what gathering touches -/
def m_pga (f k : Nat) : Prop := m_pdn f k ∨ (77 ≤ f ∧ f ≤ 82) ∨ (f = 1000 ∧ k = 76)
end
