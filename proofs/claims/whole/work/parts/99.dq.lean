/-! ===== the reference: readPath ===== -/
noncomputable section
variable {I J : sr_V} {nn fr : Nat} {K : Wt → Prop} {tl mk mm l : List Wt} {a b c x y n : Int} {Q : Int → sr_V → Prop} {R : sr_V → Prop} {st : p_S} {w : Wt}
/-- what reading a PATH touches -/
def m_pr (f k : Nat) : Prop := f = 96 ∨ f = 97 ∨ f = 98 ∨ (f = 1000 ∧ ((57 ≤ k ∧ k ≤ 75) ∨ k = 95))
theorem m_pr_F (f : m_fr [] [57, 58, 59] I J) : m_gp m_pr I J := m_gp_sub (m_fr_gp f) (fun f k p => by
  simp only [List.mem_cons, List.not_mem_nil, or_false, and_false, false_or] at p
  exact Or.inr (Or.inr (Or.inr ⟨p.1, Or.inl (by omega)⟩)))
theorem m_tk_pr (h : m_tk I mk K fr l) (f : m_gp m_pr I J) : m_tk J mk K fr l := by
  have e26 : J 26 = I 26 := by funext i; exact f 26 i (by unfold m_pr; omega)
  have e16 : J 16 = I 16 := by funext i; exact f 16 i (by unfold m_pr; omega)
  have e6 : J 6 = I 6 := by funext i; exact f 6 i (by unfold m_pr; omega)
  unfold m_tk at h ⊢
  rw [e26, e16, e6]
  exact h
theorem r_seal_l {k13 : Int → Int → sr_V → Prop} {x1 x2 x3 : Int} {es : Nat} (hx3 : x3 = ((fr + es : Nat) : Int)) : ∀ (n i : Nat) {I : sr_V}, m_tk I mk K fr l → m_rd I fr l (some (i, es)) → es - i < n → (∀ J, m_rd J fr l (p_to (p_many (p_t K 6 l) (es - i) (some (i, es)))) → m_fr [] [57, 58, 59] I J → rb_321_60 R k13 x1 x2 x3 J) → rl_321_48 R k13 n x1 x2 x3 I
  | 0, _, _, _, _, h, _ => by omega
  | n + 1, i, I, hx, h, hn, k => by
    obtain ⟨h1, h2, h3, h4, h5⟩ := id h
    unfold rl_321_48
    intro v28 e28 _
    refine ⟨fun c => by omega, fun _ => ?_⟩
    intro v31 e31 _
    refine ⟨fun c => k I ?_ (m_fr_refl _ _ _), fun c => ?_⟩
    · rw [p_many_e (by omega)]
      exact h
    · have hie : i < es := by omega
      refine r_readTerm (so := 6) (by decide) hx h (fun z J r1 _ _ f1 _ => ?_)
      have hn1 : es - i = (es - (i + 1)) + 1 := by omega
      obtain ⟨o, eo⟩ : ∃ o, p_t K 6 l (some (i, es)) = o := ⟨_, rfl⟩
      rw [eo] at r1
      cases o with
      | none =>
        have bad : J 1000 59 = 1 := r1.2.2.2.2
        cases n with
        | zero => omega
        | succ n =>
          unfold rl_321_48
          intro v1 e1 _
          refine ⟨fun _ => k J ?_ f1, fun c => by omega⟩
          rw [hn1, p_many_to hie, eo, p_to_0, p_many_0]
          exact r1
      | some a =>
        obtain ⟨a, s⟩ := a
        obtain ⟨b1, _⟩ := p_t_in eo
        subst b1
        refine r_seal_l hx3 n (i + 1) (m_tk_f hx f1) r1 (by omega) (fun X rX fX => k X ?_ (m_fr_trans f1 fX))
        rw [hn1, p_many_to hie, eo, p_to_s]
        exact rX
/-- the nodes of a PATH, as the reference keeps them -/
def m_pns (I : sr_V) (mk : List Wt) (fr : Nat) (ns : List p_N) : Prop := I 1000 95 = ns.length ∧ ∀ (j : Nat) (k : Wt) (s : Nat) (t : List Wt), ns[j]? = some (k, s, t) → w_at mk (I 96 j) k ∧ I 97 j = ((fr + s : Nat) : Int) ∧ I 98 j = t.length
theorem m_pns_snoc {done : List p_N} {kk : Wt} {s0 : Nat} {tt : List Wt} (h : m_pns I mk fr done) (e95 : J 1000 95 = (done.length : Int) + 1) (back : ∀ f j, f = 96 ∨ f = 97 ∨ f = 98 → j ≠ done.length → J f j = I f j) (z96 : w_at mk (J 96 done.length) kk) (z97 : J 97 done.length = ((fr + s0 : Nat) : Int)) (z98 : J 98 done.length = tt.length) : m_pns J mk fr (done ++ [(kk, s0, tt)]) := by
  refine ⟨by rw [e95, List.length_append]; simp, fun j k' s' t' hj => ?_⟩
  by_cases cj : j < done.length
  · rw [List.getElem?_append_left cj] at hj
    rw [back 96 j (by omega) (by omega), back 97 j (by omega) (by omega), back 98 j (by omega) (by omega)]
    exact h.2 j k' s' t' hj
  · have ej : j = done.length := by
      have := (List.getElem?_eq_some_iff.mp hj).1
      rw [List.length_append] at this
      simp at this
      omega
    subst ej
    rw [List.getElem?_append_right (by omega), Nat.sub_self] at hj
    have hj := Option.some.inj hj
    simp only [Prod.mk.injEq] at hj
    rw [z97, z98, ← hj.1, ← hj.2.1, ← hj.2.2]
    exact ⟨z96, rfl, rfl⟩
/-- a node, when its key and its row's place are known -/
theorem p_nd_form {i en es i2 : Nat} {kk : Wt} (hk : p_t K 5 l (some (i, en)) = some (kk, i + 1, en)) (eo : p_r l (some (i + 1, en)) = some (es, i2, en)) : p_nd K l (some (i, en)) = (p_many (p_t K 6 l) (es - i2) (some (i2, es))).bind (fun a => if a.2.1 = es then some ((kk, i2, a.1), a.2.1, en) else none) := by
  unfold p_nd
  rw [hk]
  show (p_row (p_all (p_t K 6 l)) l (some (i + 1, en))).map (fun s => ((kk, s.1), s.2)) = _
  unfold p_row
  rw [eo]
  show ((p_many (p_t K 6 l) (es - i2) (some (i2, es))).bind (fun a => if a.2.1 = es then some ((i2, a.1), a.2.1, en) else none)).map (fun s => ((kk, s.1), s.2)) = _
  cases p_many (p_t K 6 l) (es - i2) (some (i2, es)) with
  | none => rfl
  | some a =>
    show (if a.2.1 = es then some ((i2, a.1), a.2.1, en) else none).map (fun s => ((kk, s.1), s.2)) = if a.2.1 = es then some ((kk, i2, a.1), a.2.1, en) else none
    split <;> rfl
theorem r_path_60 {k13 : Int → Int → sr_V → Prop} {x1 x2 x3 : Int} {n0 i2 es : Nat} (h95 : I 1000 95 = n0) (hn : n0 < 1100) (h97 : I 97 n0 = ((fr + i2 : Nat) : Int)) (h3 : x3 = ((fr + es : Nat) : Int)) (hi : i2 ≤ es) (hb : fr + es ≤ 362000) (k : ∀ J, J 98 n0 = ((es - i2 : Nat) : Int) → J 1000 95 = (n0 : Int) + 1 → m_gp (fun f k => (f = 98 ∧ k = n0) ∨ (f = 1000 ∧ k = 95)) I J → k13 x1 x2 J) : rb_321_60 R k13 x1 x2 x3 I := by
  unfold rb_321_60
  intro v6 e6 _ v9 e9 _
  rw [h95] at e6 e9
  rw [e9]
  refine ⟨by omega, by omega, ?_⟩
  intro v12 e12 _
  rw [Int.toNat_natCast, h97] at e12
  rw [e6]
  refine ⟨by omega, by omega, ?_⟩
  intro I16 e16 v20 e20 _ I24 e24
  rw [Int.toNat_natCast, e12, h3, sw_w_s (by omega) (by omega)] at e16
  rw [e16, su_f (by decide), h95] at e20
  rw [e20, sw_w_s (by omega) (by omega)] at e24
  have sz : ((fr + es : Nat) : Int) - ((fr + i2 : Nat) : Int) = ((es - i2 : Nat) : Int) := by omega
  rw [sz] at e16
  refine k I24 (by rw [e24, su_f (by decide), e16, su_eq]) (by rw [e24, su_eq]) (fun f k hp => ?_)
  rw [e24, e16]
  simp only [su_at]
  rw [if_neg (by omega), if_neg (by omega)]
theorem r_path_l {en e1 : Nat} {x1 x2 : Int} (hx1 : x1 = ((fr + en : Nat) : Int)) (hx2 : x2 = ((fr + e1 : Nat) : Int)) (hen : en ≤ e1) (he1 : e1 ≤ l.length) (hl : l.length ≤ 1200) : ∀ (n i : Nat) {I : sr_V} {done : List p_N}, m_tk I mk K fr l → I 1000 57 = ((fr + i : Nat) : Int) → I 1000 59 = 0 → i ≤ en → 3 * done.length ≤ i → m_pns I mk fr done → en - i < n → (∀ ns s J, p_many (p_nd K l) (en - i) (some (i, en)) = some (ns, s) → m_rd J fr l (some (en, e1)) → m_pns J mk fr (done ++ ns) → m_gp m_pr I J → R J) → (∀ J, p_many (p_nd K l) (en - i) (some (i, en)) = none → m_rd J fr l none → m_gp m_pr I J → R J) → rl_321_13 R n x1 x2 I
  | 0, _, _, _, _, _, _, _, _, _, h, _, _ => by omega
  | n + 1, i, I, done, hx, h57, h59, hi, h3, hpn, hn, k, k0 => by
    have hb := hx.2.1
    unfold rl_321_13
    intro v43 e43 _
    refine ⟨fun c => by omega, fun _ => ?_⟩
    intro v46 e46 _
    refine ⟨fun c => ?_, fun c => ?_⟩
    · unfold rb_321_79
      intro I2 e2
      have g2 := m_gp_su I 1000 58 x2
      rw [← e2] at g2
      have ie : i = en := by omega
      refine k [] (i, en) I2 (p_many_e (by omega)) ⟨by rw [e2, su_k (by decide), h57, ie], by rw [e2, su_eq, hx2], by rw [e2, su_k (by decide)]; exact h59, by omega, he1⟩ ?_ (m_gp_sub g2 (fun f k p => Or.inr (Or.inr (Or.inr ⟨p.1, Or.inl (by omega)⟩))))
      rw [List.append_nil]
      unfold m_pns at hpn ⊢
      rw [e2, su_k (by decide), su_f (by decide), su_f (by decide), su_f (by decide)]
      exact hpn
    · have hie : i < en := by omega
      intro I50 e50
      have g50 := m_gp_su I 1000 58 x1
      rw [← e50] at g50
      have p50 : m_gp m_pr I I50 := m_gp_sub g50 (fun f k p => Or.inr (Or.inr (Or.inr ⟨p.1, Or.inl (by omega)⟩)))
      have r50 : m_rd I50 fr l (some (i, en)) := ⟨by rw [e50, su_k (by decide)]; exact h57, by rw [e50, su_eq, hx1], by rw [e50, su_k (by decide)]; exact h59, by omega, by omega⟩
      intro v54 e54 _
      rw [g50 1000 95 (by omega), hpn.1] at e54
      refine r_readTerm (so := 5) (by decide) (m_tk_pr hx p50) r50 (fun z1 J1 r1 v1 _ f1 _ => ⟨by omega, by omega, ?_⟩)
      have p1 := m_gp_trans p50 (m_pr_F f1)
      intro I65 e65
      rw [e54, Int.toNat_natCast] at e65
      have g65 := m_gp_su J1 96 done.length z1
      rw [← e65] at g65
      have p65 : m_gp m_pr I I65 := m_gp_trans p1 (m_gp_sub g65 (fun f k p => Or.inl p.1))
      have r65 : m_rd I65 fr l (p_to (p_t K 5 l (some (i, en)))) := by
        obtain ⟨S, eS⟩ : ∃ S, p_to (p_t K 5 l (some (i, en))) = S := ⟨_, rfl⟩
        rw [eS] at r1 ⊢
        cases S with
        | none => unfold m_rd at r1 ⊢; rw [g65 1000 57 (by omega), g65 1000 58 (by omega), g65 1000 59 (by omega)]; exact r1
        | some s => obtain ⟨i', e'⟩ := s; unfold m_rd at r1 ⊢; rw [g65 1000 57 (by omega), g65 1000 58 (by omega), g65 1000 59 (by omega)]; exact r1
      refine r_readRow (m_tk_pr hx p65) r65 (fun z2 J2 r2 v2 l2 u2 f2 _ => ?_)
      have p2 := m_gp_trans p65 (m_pr_F f2)
      intro v79 e79 _ v82 e82 _
      have e95 : J2 1000 95 = done.length := by rw [f2.2 95 (by decide), g65 1000 95 (by omega), f1.2 95 (by decide), g50 1000 95 (by omega), hpn.1]
      rw [e95] at e79
      rw [e79]
      refine ⟨by omega, by omega, ?_⟩
      intro I86 e86
      rw [Int.toNat_natCast] at e86
      have g86 := m_gp_su J2 97 done.length v82
      rw [← e86] at g86
      have p86 : m_gp m_pr I I86 := m_gp_trans p2 (m_gp_sub g86 (fun f k p => Or.inr (Or.inl p.1)))
      have s86 : ∀ k, I86 1000 k = J2 1000 k := fun k => g86 1000 k (by omega)
      intro v90 e90 _
      rw [s86] at e90
      have en1 : en - i = (en - i - 1) + 1 := by omega
      have ndto := p_nd_to (K := K) (l := l) (st := some (i, en))
      -- something is wrong
      have bad : ∀ J, p_nd K l (some (i, en)) = none → m_rd J fr l none → m_gp m_pr I J → R J := by
        intro J hnd rJ pJ
        refine k0 J ?_ rJ pJ
        rw [en1, p_many_s hie, hnd]
        rfl
      have ndnone : p_to (p_nd K l (some (i, en))) = none → p_nd K l (some (i, en)) = none := fun h => by
        cases ho : p_nd K l (some (i, en)) with
        | none => rfl
        | some a => rw [ho] at h; exact absurd h (by simp [p_to])
      obtain ⟨o, eo⟩ : ∃ o, p_r l (p_to (p_t K 5 l (some (i, en)))) = o := ⟨_, rfl⟩
      rw [eo] at r2 v2
      cases o with
      | none =>
        have b59 : J2 1000 59 = 1 := r2.2.2.2.2
        refine ⟨fun c => by omega, fun _ => bad I86 (ndnone ?_) ?_ p86⟩
        · rw [ndto]
          unfold p_row
          rw [eo]
          rfl
        · unfold m_rd at r2 ⊢
          rw [s86, s86, s86]
          exact r2
      | some ro =>
        obtain ⟨es, i2, en'⟩ := ro
        obtain ⟨S, eS⟩ : ∃ S, p_to (p_t K 5 l (some (i, en))) = S := ⟨_, rfl⟩
        rw [eS] at eo
        cases S with
        | none => exact absurd eo (by simp [p_r, p_16, p_8])
        | some s1 =>
        obtain ⟨i1, en1'⟩ := s1
        obtain ⟨kk, hk⟩ := p_to_some eS
        obtain ⟨q1, q2, _⟩ := p_t_in hk
        have q1 := Prod.mk.inj q1
        obtain ⟨q1, q3⟩ := q1
        have q3 := q3.symm
        subst q1; subst q3
        obtain ⟨t1, t2, t3, t4, t5⟩ := p_r_ix eo
        have t2 := t2.symm
        subst t1; subst t2
        obtain ⟨a1, a2, a3, a4, a5⟩ := r2
        have a1 : J2 1000 57 = ((fr + (i + 1 + 2) : Nat) : Int) := a1
        have a3 : J2 1000 59 = 0 := a3
        have ez2 : z2 = ((fr + es : Nat) : Int) := v2 es _ rfl
        refine ⟨fun _ => ?_, fun c => by omega⟩
        intro I94 e94
        have g94 := m_gp_su I86 1000 58 z2
        rw [← e94] at g94
        have p94 : m_gp m_pr I I94 := m_gp_trans p86 (m_gp_sub g94 (fun f k p => Or.inr (Or.inr (Or.inr ⟨p.1, Or.inl (by omega)⟩))))
        have r94 : m_rd I94 fr l (some (i + 1 + 2, es)) := ⟨by rw [g94 1000 57 (by omega), s86]; exact a1, by rw [e94, su_eq, ez2], by rw [g94 1000 59 (by omega), s86]; exact a3, t4, by omega⟩
        refine ⟨es - (i + 1 + 2) + 1, ?_⟩
        refine r_seal_l (es := es) ez2 (es - (i + 1 + 2) + 1) (i + 1 + 2) (m_tk_pr hx p94) r94 (by omega) (fun J3 r3 f3 => ?_)
        have p3 := m_gp_trans p94 (m_pr_F f3)
        have x95 : J3 1000 95 = done.length := by rw [f3.2 95 (by decide), g94 1000 95 (by omega), s86, e95]
        have x97 : J3 97 done.length = v82 := by rw [f3.1 97 (by simp) (by simp), g94 97 _ (by omega), e86, su_eq]
        rw [a1] at e82
        refine r_path_60 (n0 := done.length) (i2 := i + 1 + 2) (es := es) x95 (by omega) (by rw [x97]; exact e82) ez2 t4 (by omega) (fun I24 y98 y95 gz => ?_)
        have p24 : m_gp m_pr I I24 := m_gp_trans p3 (m_gp_sub gz (fun f k p => by
          rcases p with p | p
          · exact Or.inr (Or.inr (Or.inl p.1))
          · exact Or.inr (Or.inr (Or.inr ⟨p.1, Or.inr p.2⟩))))
        have s24 : ∀ k, k ≠ 95 → I24 1000 k = J3 1000 k := fun k hk => gz 1000 k (by omega)
        -- the whole of the node
        have rowv := p_nd_form hk eo
        obtain ⟨o3, eo3⟩ : ∃ o, p_many (p_t K 6 l) (es - (i + 1 + 2)) (some (i + 1 + 2, es)) = o := ⟨_, rfl⟩
        rw [eo3] at r3 rowv
        cases o3 with
        | none =>
          have rowv : p_nd K l (some (i, en)) = none := rowv
          have b59 : J3 1000 59 = 1 := r3.2.2.2.2
          cases n with
          | zero => omega
          | succ n =>
            unfold rl_321_13
            intro w1 ew1 _
            rw [s24 59 (by decide)] at ew1
            refine ⟨fun _ => ?_, fun c => by omega⟩
            unfold rb_321_79
            intro I2 e2
            have g2 := m_gp_su I24 1000 58 x2
            rw [← e2] at g2
            refine bad I2 rowv ?_ (m_gp_trans p24 (m_gp_sub g2 (fun f k p => Or.inr (Or.inr (Or.inr ⟨p.1, Or.inl (by omega)⟩)))))
            obtain ⟨m1, m2, m3, m4, m5⟩ := r3
            refine ⟨?_, ?_, ?_, ?_, ?_⟩
            · rw [g2 1000 57 (by omega), s24 57 (by decide)]; exact m1
            · rw [g2 1000 57 (by omega), s24 57 (by decide)]; exact m2
            · rw [e2, su_eq]; omega
            · rw [e2, su_eq]; omega
            · rw [g2 1000 59 (by omega), s24 59 (by decide)]; exact m5
        | some rr =>
          obtain ⟨tt, s3⟩ := rr
          have hs3 := p_many_end (p_t_fw 6) t4 eo3
          subst hs3
          obtain ⟨w1, w2⟩ := p_many_t t4 (by omega) eo3
          have rowv : p_nd K l (some (i, en)) = some ((kk, i + 1 + 2, tt), es, en) := by
            rw [rowv]
            show (if es = es then some ((kk, i + 1 + 2, tt), es, en) else none) = _
            rw [if_pos rfl]
          have tl' : tt.length = es - (i + 1 + 2) := by rw [w1, w_sli_len (by omega)]
          obtain ⟨m1, m2, m3, m4, m5⟩ := r3
          have m1 : J3 1000 57 = ((fr + es : Nat) : Int) := m1
          have m3 : J3 1000 59 = 0 := m3
          have pn' : m_pns I24 mk fr (done ++ [(kk, i + 1 + 2, tt)]) := by
            refine m_pns_snoc hpn y95 (fun f j' hf hj' => ?_) ?_ (by rw [gz 97 _ (by omega), x97]; exact e82) (by rw [y98, tl'])
            · rw [gz f j' (by omega), f3.1 f (by simp) (by omega), g94 f j' (by omega), g86 f j' (by omega), f2.1 f (by simp) (by omega), g65 f j' (by omega), f1.1 f (by simp) (by omega), g50 f j' (by omega)]
            · rw [gz 96 _ (by omega), f3.1 96 (by simp) (by omega), g94 96 _ (by omega), g86 96 _ (by omega), f2.1 96 (by simp) (by omega), e65, su_eq]
              exact v1 kk _ hk
          refine r_path_l hx1 hx2 hen he1 hl n es (done := done ++ [(kk, i + 1 + 2, tt)]) (m_tk_pr hx p24) (by rw [s24 57 (by decide)]; exact m1) (by rw [s24 59 (by decide)]; exact m3) t3 (by rw [List.length_append]; simp; omega) pn' (by omega) (fun ns s J hm rJ pJ gJ => k (((kk, i + 1 + 2, tt) : p_N) :: ns) s J ?_ rJ ?_ (m_gp_trans p24 gJ)) (fun J hm rJ gJ => k0 J ?_ rJ (m_gp_trans p24 gJ))
          · rw [en1, p_many_s hie, rowv]
            show (p_many (p_nd K l) (en - i - 1) (some (es, en))).map (fun r => (((kk, i + 1 + 2, tt) : p_N) :: r.1, r.2)) = _
            rw [p_many_f p_nd_fw (en - i - 1) (en - es) es en (by omega) (by omega), hm]
            rfl
          · have e3 : (done ++ [(kk, i + 1 + 2, tt)]) ++ ns = done ++ (((kk, i + 1 + 2, tt) : p_N) :: ns) := by simp
            rw [← e3]
            exact pJ
          · rw [en1, p_many_s hie, rowv]
            show (p_many (p_nd K l) (en - i - 1) (some (es, en))).map (fun r => (((kk, i + 1 + 2, tt) : p_N) :: r.1, r.2)) = _
            rw [p_many_f p_nd_fw (en - i - 1) (en - es) es en (by omega) (by omega), hm]
            rfl
end
