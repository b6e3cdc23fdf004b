/-! ===== the reference: putLeaf, readNode ===== -/
noncomputable section
variable {I J : sr_V} {nn fr mi : Nat} {K : Wt → Prop} {tl mk mm l : List Wt} {ms : List (List Wt)} {a b c y n : Int} {Q : Int → sr_V → Prop} {R : sr_V → Prop} {st : p_S} {w : Wt} {done ns : List p_V} {x i e : Nat}
/-- a LEAF as it was read, put into node p -/
def m_plf (I : sr_V) (p : Nat) : sr_V := fun f k => if k = p then (if f = 36 then 1 else if f = 37 then I 1000 62 else if f = 38 then I 1000 64 else if f = 39 then 0 else if f = 40 then I 1000 61 else if f = 43 then I 1000 67 else if f = 41 then I 1000 63 else if f = 42 then I 1000 66 else if f = 44 then 0 else I f k) else I f k
theorem m_plf_ne {p f k : Nat} (h : k ≠ p ∨ f < 36 ∨ 44 < f) : m_plf I p f k = I f k := by
  unfold m_plf
  by_cases c : k = p
  · rw [if_pos c, if_neg (by omega), if_neg (by omega), if_neg (by omega), if_neg (by omega), if_neg (by omega), if_neg (by omega), if_neg (by omega), if_neg (by omega), if_neg (by omega)]
  · rw [if_neg c]
theorem m_plf_gp {p : Nat} : m_gp (fun f k => 36 ≤ f ∧ f ≤ 44 ∧ k = p) I (m_plf I p) := fun f k h => m_plf_ne (by omega)
theorem r_putLeaf {s k : Nat} (hs : s < 49) (hk : k < 16) (q : R (m_plf I (31 * s + 2 * k))) : rm_193 s k I R := by
  unfold rm_193
  rw [sw_w_s (by omega) (by omega), show 2 * (k : Int) = ((2 * k : Nat) : Int) by omega]
  unfold rm_67
  rw [r_sp hs (by omega)]
  intro _
  have b1 : (0 : Int) ≤ ((31 * s + 2 * k : Nat) : Int) := Int.natCast_nonneg _
  have b2 : ((31 * s + 2 * k : Nat) : Int) < 1519 := by omega
  refine ⟨b1, b2, ?_⟩
  intro I1 e1 v1 ev1 _
  refine ⟨b1, b2, ?_⟩
  intro I2 e2 v2 ev2 _
  refine ⟨b1, b2, ?_⟩
  intro I3 e3
  refine ⟨b1, b2, ?_⟩
  intro I4 e4 v4 ev4 _
  refine ⟨b1, b2, ?_⟩
  intro I5 e5 v5 ev5 _
  refine ⟨b1, b2, ?_⟩
  intro I6 e6 v6 ev6 _
  refine ⟨b1, b2, ?_⟩
  intro I7 e7 v7 ev7 _
  refine ⟨b1, b2, ?_⟩
  intro I8 e8
  refine ⟨b1, b2, ?_⟩
  intro I9 e9
  rw [Int.toNat_natCast] at e1 e2 e3 e4 e5 e6 e7 e8 e9
  have h1 : v1 = I 1000 62 := by rw [ev1, e1, su_f (by decide)]
  have h2 : v2 = I 1000 64 := by rw [ev2, e2, su_f (by decide), e1, su_f (by decide)]
  have h4 : v4 = I 1000 61 := by rw [ev4, e4, su_f (by decide), e3, su_f (by decide), e2, su_f (by decide), e1, su_f (by decide)]
  have h5 : v5 = I 1000 67 := by rw [ev5, e5, su_f (by decide), e4, su_f (by decide), e3, su_f (by decide), e2, su_f (by decide), e1, su_f (by decide)]
  have h6 : v6 = I 1000 63 := by rw [ev6, e6, su_f (by decide), e5, su_f (by decide), e4, su_f (by decide), e3, su_f (by decide), e2, su_f (by decide), e1, su_f (by decide)]
  have h7 : v7 = I 1000 66 := by rw [ev7, e7, su_f (by decide), e6, su_f (by decide), e5, su_f (by decide), e4, su_f (by decide), e3, su_f (by decide), e2, su_f (by decide), e1, su_f (by decide)]
  have e : I9 = m_plf I (31 * s + 2 * k) := by
    funext f j
    rw [e9, e8, e7, e6, e5, e4, e3, e2, e1, h1, h2, h4, h5, h6, h7]
    unfold m_plf
    simp only [su_at]
    by_cases cj : j = 31 * s + 2 * k
    · rw [if_pos cj]
      simp only [cj, and_true]
      by_cases c44 : f = 44
      · subst c44; rfl
      by_cases c42 : f = 42
      · subst c42; rfl
      by_cases c41 : f = 41
      · subst c41; rfl
      by_cases c43 : f = 43
      · subst c43; rfl
      by_cases c40 : f = 40
      · subst c40; rfl
      by_cases c39 : f = 39
      · subst c39; rfl
      by_cases c38 : f = 38
      · subst c38; rfl
      by_cases c37 : f = 37
      · subst c37; rfl
      by_cases c36 : f = 36
      · subst c36; rfl
      rw [if_neg c44, if_neg c42, if_neg c41, if_neg c43, if_neg c40, if_neg c39, if_neg c38, if_neg c37, if_neg c36, if_neg c36, if_neg c37, if_neg c38, if_neg c39, if_neg c40, if_neg c43, if_neg c41, if_neg c42, if_neg c44]
    · rw [if_neg cj, if_neg (fun h => cj h.2), if_neg (fun h => cj h.2), if_neg (fun h => cj h.2), if_neg (fun h => cj h.2), if_neg (fun h => cj h.2), if_neg (fun h => cj h.2), if_neg (fun h => cj h.2), if_neg (fun h => cj h.2), if_neg (fun h => cj h.2)]
  rw [e]
  exact q
theorem p_us_f : ∀ (n m : Nat) {la u : Int} {i e : Nat}, e - i ≤ n → e - i ≤ m → p_us l n la u (some (i, e)) = p_us l m la u (some (i, e))
  | 0, m, la, u, i, e, h1, h2 => by rw [p_us_e (by omega), p_us_e (by omega)]
  | n + 1, 0, la, u, i, e, h1, h2 => by rw [p_us_e (by omega), p_us_e (by omega)]
  | n + 1, m + 1, la, u, i, e, h1, h2 => by
    by_cases c : i < e
    · rw [p_us_s c, p_us_s c]
      obtain ⟨o, eo⟩ : ∃ o, p_16 l (some (i, e)) = o := ⟨_, rfl⟩
      rw [eo]
      cases o with
      | none => rfl
      | some a =>
        obtain ⟨a, i', e'⟩ := a
        obtain ⟨b1, b2, b3⟩ := p_16_le eo
        show (if a ≤ la ∨ 16 ≤ a then none else p_us l n a (u + ((2 ^ a.toNat : Nat) : Int)) (some (i', e'))) = if a ≤ la ∨ 16 ≤ a then none else p_us l m a (u + ((2 ^ a.toNat : Nat) : Int)) (some (i', e'))
        rw [p_us_f n m (by omega) (by omega)]
    · rw [p_us_e (by omega), p_us_e (by omega)]
/-- the unmerged leaves of node p are read -/
theorem r_um_l {x4 x5 : Int} {p en : Nat} (hx4 : x4 = ((fr + en : Nat) : Int)) (hp : p < 1519) (hen : en ≤ l.length) (b5 : (fr : Int) ≤ x5 ∧ x5 ≤ ((fr + l.length : Nat) : Int)) : ∀ (n i : Nat) (la u : Int) {I : sr_V}, m_tk I mk K fr l → m_rd I fr l (some (i, en)) → I 39 p = u → -1 ≤ la → la < 16 → 0 ≤ u → u < ((2 ^ (la + 1).toNat : Nat) : Int) → en - i + 1 < n → (∀ w s J, p_us l (en - i) la u (some (i, en)) = some (w, s) → J 1000 57 = ((fr + en : Nat) : Int) → J 1000 58 = x5 → J 1000 59 = 0 → J 39 p = w → m_gp (fun f k => (f = 39 ∧ k = p) ∨ (f = 1000 ∧ (k = 57 ∨ k = 58 ∨ k = 59))) I J → R J) → (∀ J, p_us l (en - i) la u (some (i, en)) = none → m_rd J fr l none → m_gp (fun f k => (f = 39 ∧ k = p) ∨ (f = 1000 ∧ (k = 57 ∨ k = 58 ∨ k = 59))) I J → R J) → rl_373_81 R n p x4 x5 la I
  | 0, _, _, _, _, _, _, _, _, _, _, _, h, _, _ => by omega
  | n + 1, i, la, u, I, hx, h, h39, l1, l2, u0, u1, hn, k, k0 => by
    obtain ⟨h57, h58, h59, hi, _⟩ := id h
    have h57 : I 1000 57 = ((fr + i : Nat) : Int) := h57
    have h59 : I 1000 59 = 0 := h59
    unfold rl_373_81
    intro v26 e26 _
    refine ⟨fun c => by omega, fun _ => ?_⟩
    intro v29 e29 _
    refine ⟨fun c => ?_, fun c => ?_⟩
    · unfold rb_373_116
      intro I2 e2
      have ie : i = en := by omega
      refine k u (i, en) I2 (p_us_e (by omega)) (by rw [e2, su_k (by decide), h57, ie]) (by rw [e2, su_eq]) (by rw [e2, su_k (by decide)]; exact h59) (by rw [e2, su_f (by decide)]; exact h39) ?_
      rw [e2]
      exact m_gp_sub (m_gp_su I 1000 58 x5) (fun f k p => Or.inr ⟨p.1, Or.inr (Or.inl p.2)⟩)
    · have hie : i < en := by omega
      refine r_u16 hx h (fun z J r1 v1 z0 zl f1 _ => ?_)
      have g1 : m_gp (fun f k => (f = 39 ∧ k = p) ∨ (f = 1000 ∧ (k = 57 ∨ k = 58 ∨ k = 59))) I J := m_gp_sub (m_fr_gp f1) (fun f k q => by
        simp only [List.mem_cons, List.not_mem_nil, or_false, and_false, false_or] at q
        exact Or.inr q)
      have enn : en - i = (en - i - 1) + 1 := by omega
      -- the loop ends where something is wrong
      have stop : ∀ {X : sr_V} {la' : Int}, p_us l (en - i) la u (some (i, en)) = none → m_rd X fr l none → m_gp (fun f k => (f = 39 ∧ k = p) ∨ (f = 1000 ∧ (k = 57 ∨ k = 58 ∨ k = 59))) I X → rl_373_81 R n p x4 x5 la' X := by
        intro X la' hN rX gX
        obtain ⟨m1, m2, m3, m4, m5⟩ := rX
        cases n with
        | zero => omega
        | succ n =>
          unfold rl_373_81
          intro w1 ew1 _
          refine ⟨fun _ => ?_, fun c => by omega⟩
          unfold rb_373_116
          intro I2 e2
          have g2 := m_gp_su X 1000 58 x5
          rw [← e2] at g2
          refine k0 I2 hN ⟨by rw [g2 1000 57 (by omega)]; exact m1, by rw [g2 1000 57 (by omega)]; exact m2, by rw [e2, su_eq]; exact b5.1, by rw [e2, su_eq]; exact b5.2, by rw [g2 1000 59 (by omega)]; exact m5⟩ (m_gp_trans gX (m_gp_sub g2 (fun f k p => Or.inr ⟨p.1, Or.inr (Or.inl p.2)⟩)))
      obtain ⟨o, eo⟩ : ∃ o, p_16 l (some (i, en)) = o := ⟨_, rfl⟩
      rw [eo] at r1 v1
      have bad : (z ≤ la ∨ 16 ≤ z) → rb_373_97 R (rl_373_81 R n) p x4 x5 z J := by
        intro hb
        unfold rb_373_97 rb_373_100
        intro I2 e2 v9 e9 _
        rw [e2, su_eq] at e9
        refine ⟨fun _ => stop ?_ (by rw [e2]; exact m_rd_1 r1) (m_gp_trans g1 (by rw [e2]; exact m_gp_sub (m_gp_su J 1000 59 1) (fun f k p => Or.inr ⟨p.1, Or.inr (Or.inr p.2)⟩))), fun c => by omega⟩
        rw [enn, p_us_s hie, eo]
        cases o with
        | none => rfl
        | some a =>
          obtain ⟨a, s⟩ := a
          have : z = a := v1 a s rfl
          show (if a ≤ la ∨ 16 ≤ a then none else _) = none
          rw [if_pos (by omega)]
      refine ⟨fun c1 => bad (Or.inl c1), fun c1 => ⟨fun c2 => ?_, fun c2 => bad (Or.inr c2)⟩⟩
      unfold rb_373_100
      intro v9 e9 _
      cases o with
      | none =>
        have b59 : J 1000 59 = 1 := r1.2.2.2.2
        refine ⟨fun _ => stop ?_ r1 g1, fun c => by omega⟩
        rw [enn, p_us_s hie, eo]; rfl
      | some a =>
        obtain ⟨a, s⟩ := a
        have ez : z = a := v1 a s rfl
        subst ez
        obtain ⟨s1, s2⟩ := s
        obtain ⟨q1, q2, q3⟩ := p_16_le eo
        have q2 := q2.symm
        subst q1; subst q2
        obtain ⟨m1, m2, m3, m4, m5⟩ := id r1
        have m3 : J 1000 59 = 0 := m3
        refine ⟨fun c => by omega, fun _ => ⟨by omega, by omega, ?_⟩⟩
        intro v12 e12 _
        rw [Int.toNat_natCast, f1.1 39 (by simp) (by simp), h39] at e12
        refine ⟨by omega, by omega, ?_⟩
        intro I16 e16
        obtain ⟨zn, ezn⟩ : ∃ zn : Nat, z = zn := ⟨z.toNat, by omega⟩
        subst ezn
        have pz : (2 : Nat) ^ (la + 1).toNat ≤ 2 ^ zn := Nat.pow_le_pow_right (by decide) (by omega)
        have pz2 : (2 : Nat) ^ ((zn : Int) + 1).toNat = 2 * 2 ^ zn := by
          have : ((zn : Int) + 1).toNat = zn + 1 := by omega
          rw [this, Nat.pow_succ]; omega
        rw [e12, sw_or_bit (by omega) u0 (by omega), Int.toNat_natCast] at e16
        have g16 := m_gp_su J 39 p (u + ((2 ^ zn : Nat) : Int))
        rw [← e16] at g16
        have G16 : m_gp (fun f k => (f = 39 ∧ k = p) ∨ (f = 1000 ∧ (k = 57 ∨ k = 58 ∨ k = 59))) I I16 := m_gp_trans g1 (m_gp_sub g16 (fun f k p => Or.inl p))
        have hx16 : m_tk I16 mk K fr l := by
          have e26 : I16 26 = I 26 := by funext j; exact G16 26 j (by omega)
          have e16' : I16 16 = I 16 := by funext j; exact G16 16 j (by omega)
          have e6 : I16 6 = I 6 := by funext j; exact G16 6 j (by omega)
          unfold m_tk at hx ⊢
          rw [e26, e16', e6]
          exact hx
        have pu : ∀ r, p_us l (en - (i + 2)) zn (u + ((2 ^ zn : Nat) : Int)) (some (i + 2, en)) = r → p_us l (en - i) la u (some (i, en)) = r := fun r hr => by
          rw [enn, p_us_s hie, eo]
          show (if (zn : Int) ≤ la ∨ 16 ≤ (zn : Int) then none else p_us l (en - i - 1) zn (u + ((2 ^ (zn : Int).toNat : Nat) : Int)) (some (i + 2, en))) = r
          rw [if_neg (by omega), Int.toNat_natCast, ← hr]
          exact p_us_f (en - i - 1) (en - (i + 2)) (by omega) (by omega)
        refine r_um_l hx4 hp hen b5 n (i + 2) zn (u + ((2 ^ zn : Nat) : Int)) hx16 (m_rd_eq r1 (g16 1000 57 (by omega)) (g16 1000 58 (by omega)) (g16 1000 59 (by omega))) (by rw [e16, su_eq]) (by omega) (by omega) (by omega) (by rw [pz2]; omega) (by omega) (fun w s X hw x57 x58 x59 x39 gX => k w s X (pu _ hw) x57 x58 x59 x39 (m_gp_trans G16 gX)) (fun X hw rX gX => k0 X (pu _ hw) rX (m_gp_trans G16 gX))
end
