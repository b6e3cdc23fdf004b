/-! ===== the reference: readNodes ===== -/
noncomputable section
variable {I J : sr_V} {nn fr mi : Nat} {K : Wt → Prop} {tl mk mm l : List Wt} {ms : List (List Wt)} {a b c y n : Int} {Q : Int → sr_V → Prop} {R : sr_V → Prop} {st : p_S} {w : Wt} {done ns : List p_V} {x i e p : Nat} {v : p_V}
/-- what reading the nodes touches -/
def m_pNs (f k : Nat) : Prop := (36 ≤ f ∧ f ≤ 44 ∧ 1488 ≤ k ∧ k ≤ 1518) ∨ (f = 1000 ∧ 57 ≤ k ∧ k ≤ 75) ∨ (f = 31 ∧ k = 48)
theorem m_pNs_N (hp : 1488 ≤ p ∧ p ≤ 1518) (h : m_gp (m_pN p) I J) : m_gp m_pNs I J := m_gp_sub h (fun f k q => by
  rcases q with q | q
  · exact Or.inl ⟨q.1, q.2.1, by omega, by omega⟩
  · exact Or.inr (Or.inl q))
theorem m_pNs_s {f : Nat} {z : Int} (e : J = su I 1000 f z) (hf : 57 ≤ f ∧ f ≤ 75) : m_gp m_pNs I J := by
  rw [e]
  exact m_gp_sub (m_gp_su I 1000 f z) (fun f' k q => Or.inr (Or.inl ⟨q.1, by omega, by omega⟩))
theorem m_pNs_F (f : m_fr [] [57, 58, 59] I J) : m_gp m_pNs I J := m_pNs_N (p := 1488) (by omega) (m_pN_F f)
theorem m_tk_pNs (h : m_tk I mk K fr l) (f : m_gp m_pNs I J) : m_tk J mk K fr l := by
  have e26 : J 26 = I 26 := by funext j; exact f 26 j (by unfold m_pNs; omega)
  have e16 : J 16 = I 16 := by funext j; exact f 16 j (by unfold m_pNs; omega)
  have e6 : J 6 = I 6 := by funext j; exact f 6 j (by unfold m_pNs; omega)
  unfold m_tk at h ⊢
  rw [e26, e16, e6]
  exact h
theorem m_nds_eq (h : m_nds I mk ns) (g : ∀ f k, 36 ≤ f → f ≤ 44 → J f k = I f k) : m_nds J mk ns := by
  intro j u hj
  have back : ∀ f, 36 ≤ f → f ≤ 44 → J f (1488 + j) = I f (1488 + j) := fun f h1 h2 => g f _ h1 h2
  rw [back 36 (by omega) (by omega), back 37 (by omega) (by omega), back 38 (by omega) (by omega), back 39 (by omega) (by omega), back 44 (by omega) (by omega), back 40 (by omega) (by omega), back 43 (by omega) (by omega), back 41 (by omega) (by omega), back 42 (by omega) (by omega)]
  exact h j u hj
/-- the end of the nodes -/
theorem r_nos_60 {x2 x3 : Int} {s0 : Int} (k : ∀ J, J 31 48 = s0 → (x3 = 1 ∨ x3 = 3 ∨ x3 = 7 ∨ x3 = 15 ∨ x3 = 31 → J 1000 59 = I 1000 59) → (¬ (x3 = 1 ∨ x3 = 3 ∨ x3 = 7 ∨ x3 = 15 ∨ x3 = 31) → J 1000 59 = 1) → m_gp (fun f k => (f = 1000 ∧ k = 59) ∨ (f = 31 ∧ k = 48)) I J → R J) : rb_328_60 R x3 s0 48 I := by
  unfold rb_328_60
  refine ⟨by decide, by decide, ?_⟩
  intro I2 e2
  have e2 : I2 = su I 31 48 s0 := e2
  have g2 : m_gp (fun f k => (f = 1000 ∧ k = 59) ∨ (f = 31 ∧ k = 48)) I I2 := by rw [e2]; exact m_gp_sub (m_gp_su I 31 48 s0) (fun f k q => Or.inr q)
  have h31 : I2 31 48 = s0 := by rw [e2, su_eq]
  have h59 : I2 1000 59 = I 1000 59 := by rw [e2, su_f (by decide)]
  refine ⟨fun c => k I2 h31 (fun _ => h59) (fun h => by omega) g2, fun c => ⟨fun c => k I2 h31 (fun _ => h59) (fun h => by omega) g2, fun c => ⟨fun c => k I2 h31 (fun _ => h59) (fun h => by omega) g2, fun c => ⟨fun c => k I2 h31 (fun _ => h59) (fun h => by omega) g2, fun c => ⟨fun c => k I2 h31 (fun _ => h59) (fun h => by omega) g2, fun c => ?_⟩⟩⟩⟩⟩
  intro I7 e7
  refine k I7 (by rw [e7, su_f (by decide)]; exact h31) (fun h => by omega) (fun _ => by rw [e7, su_eq]) (m_gp_trans g2 ?_)
  rw [e7]
  exact m_gp_sub (m_gp_su I2 1000 59 1) (fun f k q => Or.inl q)
theorem r_nos_33 {x2 : Int} {n : Nat} (k : ∀ J, (w_nn n → J 31 48 = (w_dpt n : Int)) → J 1000 58 = x2 → (w_nn n → J 1000 59 = I 1000 59) → (¬ w_nn n → J 1000 59 = 1) → m_gp (fun f k => (f = 1000 ∧ (k = 58 ∨ k = 59)) ∨ (f = 31 ∧ k = 48)) I J → R J) : rb_328_33 R x2 n I := by
  unfold rb_328_33
  intro I1 e1
  have main : ∀ s0 : Int, (w_nn n → s0 = (w_dpt n : Int)) → rb_328_60 R n s0 48 I1 := fun s0 h0 => by
    refine r_nos_60 (x2 := 0) (fun J h1 h2 h3 g => k J (fun h => by rw [h1]; exact h0 h) (by rw [g 1000 58 (by omega), e1, su_eq]) (fun h => by rw [h2 (by unfold w_nn at h; omega), e1, su_k (by decide)]) (fun h => h3 (by unfold w_nn at h; omega)) (m_gp_trans (J := I1) ?_ (m_gp_sub g (fun f k q => ?_))))
    · rw [e1]; exact m_gp_sub (m_gp_su I 1000 58 x2) (fun f k q => Or.inl ⟨q.1, Or.inl q.2⟩)
    · rcases q with q | q
      · exact Or.inl ⟨q.1, Or.inr q.2⟩
      · exact Or.inr q
  have d0 : ∀ m d : Nat, n = m → w_dpt m = d → w_nn n → (d : Int) = (w_dpt n : Int) := fun m d h1 h2 _ => by rw [h1, h2]
  refine ⟨fun c1 => ⟨fun c3 => ⟨fun c7 => ⟨fun c15 => main 4 (fun h => ?_), fun c15 => main 3 (d0 15 3 (by omega) rfl)⟩, fun c7 => main 2 (d0 7 2 (by omega) rfl)⟩, fun c3 => main 1 (d0 3 1 (by omega) rfl)⟩, fun c1 => main 0 (d0 1 0 (by omega) rfl)⟩
  exact d0 31 4 (by unfold w_nn at h; omega) rfl h
theorem r_nos_bad {x2 : Int} {n : Nat} (hx2 : (fr : Int) ≤ x2 ∧ x2 ≤ ((fr + l.length : Nat) : Int)) (h : m_rd I fr l none) (k : ∀ J, m_rd J fr l none → m_gp m_pNs I J → R J) : rb_328_33 R x2 n I := by
  refine r_nos_33 (fun J _ h58 h59 h59' g => k J ⟨?_, ?_, by rw [h58]; exact hx2.1, by rw [h58]; exact hx2.2, ?_⟩ (m_gp_sub g (fun f k q => ?_)))
  · rw [g 1000 57 (by omega)]; exact h.1
  · rw [g 1000 57 (by omega)]; exact h.2.1
  · by_cases c : w_nn n
    · rw [h59 c]; exact h.2.2.2.2
    · exact h59' c
  · rcases q with q | q
    · exact Or.inr (Or.inl ⟨q.1, by omega, by omega⟩)
    · exact Or.inr (Or.inr q)
theorem r_nos (hvl : w_vl l) {en : Nat} {x1 x2 : Int} (hx1 : x1 = ((fr + en : Nat) : Int)) (hen : en ≤ l.length) (hx2 : (fr : Int) ≤ x2 ∧ x2 ≤ ((fr + l.length : Nat) : Int)) : ∀ (n i : Nat) {I : sr_V} {done : List p_V}, m_tk I mk K fr l → I 1000 57 = ((fr + i : Nat) : Int) → I 1000 59 = 0 → i ≤ en → done.length ≤ 31 → m_nds I mk done → 32 - done.length < n → (∀ ns s J, p_nos K l (31 - done.length) done.length (some (i, en)) = some (ns, s) → J 1000 57 = ((fr + en : Nat) : Int) → J 1000 59 = 0 → m_nds J mk (done ++ ns) → m_gp m_pNs I J → rb_328_33 R x2 (done.length + ns.length : Nat) J) → (∀ J, p_nos K l (31 - done.length) done.length (some (i, en)) = none → m_rd J fr l none → m_gp m_pNs I J → R J) → rl_328_8 R n x1 x2 (done.length : Nat) I
  | 0, _, _, _, _, _, _, _, _, _, h, _, _ => by omega
  | n + 1, i, I, done, hx, h57, h59, hi, hd, hN, hn, k, k0 => by
    unfold rl_328_8
    intro v1 ev1 _
    refine ⟨fun c => by omega, fun _ => ?_⟩
    intro v2 ev2 _
    refine ⟨fun c => ?_, fun c => ?_⟩
    · have ie : i = en := by omega
      refine k [] (i, en) I (p_nos_e (by omega)) (by rw [h57, ie]) h59 ?_ (m_gp_refl _ _)
      rw [List.append_nil]; exact hN
    · have hie : i < en := by omega
      intro I5 e5
      have p5 : m_gp m_pNs I I5 := m_pNs_s e5 (by omega)
      have r5 : m_rd I5 fr l (some (i, en)) := ⟨by rw [e5, su_k (by decide)]; exact h57, by rw [e5, su_eq, hx1], by rw [e5, su_k (by decide)]; exact h59, by omega, by omega⟩
      refine ⟨fun c31 => ?_, fun c31 => ?_⟩
      · have d31 : done.length < 31 := by omega
        unfold rb_328_24
        intro v25 e25 _
        refine ⟨fun _ => ?_, fun cc => absurd (e25.trans r5.2.2.1) cc⟩
        have N5 : m_nds I5 mk done := m_nds_eq hN (fun f k h1 h2 => by rw [e5, su_f (by omega)])
        refine r_readNode d31 (m_tk_pNs hx p5) r5 N5 rfl (fun J rJ vJ gJ => ?_)
        intro y35 e35
        rw [sw_w_s (by omega) (by omega), show (done.length : Int) + 1 = ((done.length + 1 : Nat) : Int) by omega] at e35
        rw [e35]
        have pJ := m_gp_trans p5 (m_pNs_N (by omega) gJ)
        have enn : 31 - done.length = (31 - (done.length + 1)) + 1 := by omega
        obtain ⟨o, eo⟩ : ∃ o, p_no K l done.length (some (i, en)) = o := ⟨_, rfl⟩
        rw [eo] at rJ vJ
        cases o with
        | none =>
          have hnone : p_nos K l (31 - done.length) done.length (some (i, en)) = none := by rw [enn, p_nos_s hie, eo]; rfl
          have rJ : m_rd J fr l none := rJ
          cases n with
          | zero => omega
          | succ n =>
            unfold rl_328_8
            intro w1 ew1 _
            refine ⟨fun _ => r_nos_bad hx2 rJ (fun X rX gX => k0 X hnone rX (m_gp_trans pJ gX)), fun c => ?_⟩
            have := rJ.2.2.2.2
            omega
        | some a =>
          obtain ⟨v, i', e'⟩ := a
          have rJ : m_rd J fr l (some (i', e')) := rJ
          obtain ⟨m1, m2, m3, m4, m5⟩ := rJ
          have e'en : e' = en := (p_no_ix hvl hen eo).2.2.1
          subst e'en
          have N' := vJ v _ rfl
          have lenS : (done ++ [v]).length = done.length + 1 := by rw [List.length_append]; rfl
          have rec' := r_nos hvl hx1 hen hx2 n i' (I := J) (done := done ++ [v]) (m_tk_pNs hx pJ) m1 m3 m4 (by rw [lenS]; omega) N' (by rw [lenS]; omega)
          rw [lenS] at rec'
          refine rec' (fun ns s X hm x57 x59 NX gX => ?_) (fun X hm rX gX => k0 X ?_ rX (m_gp_trans pJ gX))
          · have := k (v :: ns) s X (by rw [enn, p_nos_s hie, eo]; show (p_nos K l (31 - (done.length + 1)) (done.length + 1) (some (i', e'))).map _ = _; rw [hm]; rfl) x57 x59 (by rw [List.append_cons]; exact NX) (m_gp_trans pJ gX)
            rw [List.length_cons, show done.length + (ns.length + 1) = done.length + 1 + ns.length by omega] at this
            exact this
          · rw [enn, p_nos_s hie, eo]
            show (p_nos K l (31 - (done.length + 1)) (done.length + 1) (some (i', e'))).map _ = _
            rw [hm]; rfl
      · intro I6 e6
        have d31 : done.length = 31 := by omega
        unfold rb_328_24
        intro v25 e25 _
        rw [e6, su_eq] at e25
        refine ⟨fun cc => by omega, fun _ => k0 I6 ?_ (by rw [e6]; exact m_rd_1 r5) (m_gp_trans p5 (m_pNs_s e6 (by omega)))⟩
        rw [show 31 - done.length = 0 by omega]
        exact if_pos hie
theorem r_nos_tr {V : Wt → Prop} (hn : w_nn ns.length) (hN : m_nds I mk ns) (hv : ∀ (j : Nat) v, ns[j]? = some v → w_vok V j v) (h31 : I 31 48 = (w_dpt ns.length : Int)) : m_tr I mk 48 (t_of ns) := by
  obtain ⟨hw, hd⟩ := t_of_w hn
  have nv : ∀ x, x < t_w (t_of ns) → ns[x]? = some (p_nv ns x) := fun x hx => by
    rw [hw] at hx
    have := List.getElem?_eq_getElem hx
    unfold p_nv
    rw [this]
    rfl
  refine ⟨t_of_ok hn hv, h31, fun x hx => ?_, fun k hk hne => ?_⟩
  · obtain ⟨a1, a2, a3, a4, a5, _⟩ := hN x _ (nv x hx)
    have ky : t_ky (t_of ns) x = (p_nv ns x).2.2.1 := rfl
    rw [show 31 * 48 + x = 1488 + x by omega]
    refine ⟨?_, a2, a3, a4⟩
    rw [a1, ky]
    rcases hv x _ (nv x hx) with e | ⟨e0, m, k, p, so, ph, g, e, _, _, _, _, _, hk, _⟩ | ⟨e0, k, ph, um, e, u0, u1, hk, _⟩
    · rw [e]; rfl
    · rw [e]
      have kn : k ≠ [] := fun c => by rw [c] at hk; exact absurd hk.1 (by simp)
      show (1 : Int) = if k = [] then 0 else if x % 2 = 0 then 1 else 2
      rw [if_neg kn, if_pos e0]
    · rw [e]
      have kn : k ≠ [] := fun c => by rw [c] at hk; exact absurd hk.1 (by simp)
      show (2 : Int) = if k = [] then 0 else if x % 2 = 0 then 1 else 2
      rw [if_neg kn, if_neg (by omega)]
  · obtain ⟨_, _, _, _, _, a6⟩ := hN (2 * k) _ (nv _ hk)
    rw [show 31 * 48 + 2 * k = 1488 + 2 * k by omega]
    have h1 : (p_nv ns (2 * k)).1 = 1 := by
      have hne : (p_nv ns (2 * k)).2.2.1 ≠ [] := hne
      rcases hv _ _ (nv _ hk) with e | ⟨e0, m, k', p, so, ph, g, e, _⟩ | ⟨e0, _⟩
      · rw [e] at hne; exact absurd rfl hne
      · rw [e]
      · omega
    exact a6 h1
theorem r_readNodes {i0 e0 : Nat} (hvl : w_vl l) (hx : m_tk I mk K fr l) (h : m_rd I fr l (some (i0, e0))) (q : ∀ J, m_rd J fr l (p_to (p_tr K l (some (i0, e0)))) → (∀ ns s, p_tr K l (some (i0, e0)) = some (ns, s) → m_tr J mk 48 (t_of ns) ∧ ∀ x, x < ns.length → J 44 (1488 + x) = 0) → m_gp m_pNs I J → R J) : rm_328 I R := by
  unfold rm_328
  refine r_readRow hx h (fun z J1 r1 v1 z0 z1 f1 _ => ?_)
  intro v69 e69 _
  have g1 := m_pNs_F f1
  have hx1 := m_tk_pNs hx g1
  obtain ⟨o, eo⟩ : ∃ o, p_r l (some (i0, e0)) = o := ⟨_, rfl⟩
  rw [eo] at r1 v1
  cases o with
  | none =>
    have r1 : m_rd J1 fr l none := r1
    have tn : p_tr K l (some (i0, e0)) = none := by unfold p_tr p_row; rw [eo]; rfl
    refine ⟨1, ?_⟩
    unfold rl_328_8
    intro w1 ew1 _
    refine ⟨fun _ => r_nos_bad (n := 0) ⟨by rw [e69]; exact r1.2.2.1, by rw [e69]; exact r1.2.2.2.1⟩ r1 (fun X rX gX => q X (by rw [tn]; exact rX) (fun ns s hs => by rw [tn] at hs; exact absurd hs (by simp)) (m_gp_trans g1 gX)), fun c => ?_⟩
    have := r1.2.2.2.2
    omega
  | some ro =>
    obtain ⟨en, i1, e1⟩ := ro
    obtain ⟨t1, t2, t3, t4, t5⟩ := p_r_ix eo
    subst t2
    have r1 : m_rd J1 fr l (some (i1, e1)) := r1
    obtain ⟨b1, b2, b3, b4, b5⟩ := r1
    have ez : z = ((fr + en : Nat) : Int) := v1 en _ rfl
    have rowd : p_tr K l (some (i0, e1)) = ((p_nos K l 31 0 (some (i1, en))).bind (fun a => if a.2.1 = en then some ((i1, a.1), a.2.1, e1) else none)).bind (fun r => if w_nn r.1.2.length then some (r.1.2, r.2) else none) := by
      unfold p_tr p_row
      rw [eo]
      rfl
    refine ⟨34, ?_⟩
    have main := r_nos (R := R) (K := K) (mk := mk) (x2 := v69) hvl ez (by omega) ⟨by rw [e69, b2]; omega, by rw [e69, b2]; omega⟩ 34 i1 (I := J1) (done := []) hx1 b1 b3 t4 (by simp) (fun j u hj => by simp at hj) (by simp)
    refine main (fun ns s X hm x57 x59 NX gX => ?_) (fun X hm rX gX => ?_)
    · rw [List.length_nil, Nat.zero_add]
      have hm : p_nos K l 31 0 (some (i1, en)) = some (ns, s) := hm
      obtain ⟨c1, c2, c3⟩ := p_nos_in hvl t4 (by omega) hm
      subst c1
      have NX : m_nds X mk ns := NX
      refine r_nos_33 (fun Y y31 y58 y59 y59' gY => ?_)
      have gIY : m_gp m_pNs I Y := m_gp_trans g1 (m_gp_trans gX (m_gp_sub gY (fun f k q => by
        rcases q with q | q
        · exact Or.inr (Or.inl ⟨q.1, by omega, by omega⟩)
        · exact Or.inr (Or.inr q))))
      have NY : m_nds Y mk ns := m_nds_eq NX (fun f k h1 h2 => gY f k (by omega))
      by_cases cw : w_nn ns.length
      · have tv : p_tr K l (some (i0, e1)) = some (ns, en, e1) := by
          rw [rowd, hm]
          show ((if en = en then some ((i1, ns), en, e1) else none)).bind (fun r => if w_nn r.1.2.length then some (r.1.2, r.2) else none) = _
          rw [if_pos rfl]
          show (if w_nn ns.length then some (ns, en, e1) else none) = _
          rw [if_pos cw]
        refine q Y ?_ (fun ns' s' hs => ?_) gIY
        · rw [tv, p_to_s]
          exact ⟨by rw [gY 1000 57 (by omega)]; exact x57, by rw [y58, e69]; exact b2, by rw [y59 cw]; exact x59, t3, b5⟩
        · rw [tv] at hs
          have hs := (Prod.mk.inj (Option.some.inj hs)).1
          subst hs
          have c3 : ∀ (j : Nat) v, ns[j]? = some v → w_vok K j v := fun j v hj => by
            have := c3 j v hj
            rw [Nat.zero_add] at this
            exact this
          refine ⟨r_nos_tr cw NY c3 (y31 cw), fun x hx => ?_⟩
          exact (NY x _ (List.getElem?_eq_getElem hx)).2.2.2.2.1
      · have tv : p_tr K l (some (i0, e1)) = none := by
          rw [rowd, hm]
          show ((if en = en then some ((i1, ns), en, e1) else none)).bind (fun r => if w_nn r.1.2.length then some (r.1.2, r.2) else none) = _
          rw [if_pos rfl]
          show (if w_nn ns.length then some (ns, en, e1) else none) = _
          rw [if_neg cw]
        refine q Y ?_ (fun ns' s' hs => by rw [tv] at hs; exact absurd hs (by simp)) gIY
        rw [tv]
        refine ⟨by rw [gY 1000 57 (by omega), x57]; omega, by rw [gY 1000 57 (by omega), x57]; omega, by rw [y58, e69, b2]; omega, by rw [y58, e69, b2]; omega, y59' cw⟩
    · have hm : p_nos K l 31 0 (some (i1, en)) = none := hm
      have tv : p_tr K l (some (i0, e1)) = none := by rw [rowd, hm]; rfl
      exact q X (by rw [tv]; exact rX) (fun ns' s' hs => by rw [tv] at hs; exact absurd hs (by simp)) (m_gp_trans g1 gX)
end
