/-! ===== a PACKAGE read: both sides' readPackage ===== -/
noncomputable section
/-- a LEAF as it was read -/
abbrev p_L : Type := Int × Wt × Wt × Int × Wt × Wt
/-- a PACKAGE: key, LEAF, signature -/
def p_pk (K : Wt → Prop) (l : List Wt) (st : p_S) : Option ((Wt × p_L × Wt) × Nat × Nat) :=
  (p_8 l st).bind (fun a => if a.1 ≠ 1 then none else (p_t K 5 l (some a.2)).bind (fun ik => (p_lf K 1 l (some ik.2)).bind (fun lf => (p_t K 7 l (some lf.2)).map (fun g => ((ik.1, lf.1, g.1), g.2)))))
theorem p_pk_st {K : Wt → Prop} {z : Int} {l : List Wt} {st : p_S} (hz : ∀ b s, p_8 l st = some (b, s) → z = b) (S1 : p_S) (e1 : S1 = if z ≠ 1 then none else p_to (p_8 l st)) : p_to (p_pk K l st) = p_to (p_t K 7 l (p_to (p_lf K 1 l (p_to (p_t K 5 l S1))))) ∧ ∀ ik lf g s, p_pk K l st = some ((ik, lf, g), s) → (∃ s2, p_t K 5 l S1 = some (ik, s2)) ∧ (∃ s3, p_lf K 1 l (p_to (p_t K 5 l S1)) = some (lf, s3)) ∧ p_t K 7 l (p_to (p_lf K 1 l (p_to (p_t K 5 l S1)))) = some (g, s) := by
  obtain ⟨o1, c1⟩ : ∃ o1, p_8 l st = o1 := ⟨_, rfl⟩
  have bad : p_pk K l st = none → p_to (p_t K 7 l (p_to (p_lf K 1 l (p_to (p_t K 5 l S1))))) = none → p_to (p_pk K l st) = p_to (p_t K 7 l (p_to (p_lf K 1 l (p_to (p_t K 5 l S1))))) ∧ ∀ ik lf g s, p_pk K l st = some ((ik, lf, g), s) → (∃ s2, p_t K 5 l S1 = some (ik, s2)) ∧ (∃ s3, p_lf K 1 l (p_to (p_t K 5 l S1)) = some (lf, s3)) ∧ p_t K 7 l (p_to (p_lf K 1 l (p_to (p_t K 5 l S1)))) = some (g, s) := by
    intro h1 h2
    refine ⟨by rw [h1, h2]; rfl, fun ik lf g s h => ?_⟩
    rw [h1] at h
    exact absurd h (by simp)
  have s0 : S1 = none → p_to (p_t K 7 l (p_to (p_lf K 1 l (p_to (p_t K 5 l S1))))) = none := fun e => by rw [e]; rfl
  cases o1 with
  | none =>
    refine bad (by unfold p_pk; rw [c1]; rfl) (s0 ?_)
    rw [e1, c1]
    split <;> rfl
  | some a1 =>
    have ez : z = a1.1 := hz a1.1 a1.2 c1
    rw [c1, ez] at e1
    have el : p_pk K l st = if a1.1 ≠ 1 then none else (p_t K 5 l (some a1.2)).bind (fun ik => (p_lf K 1 l (some ik.2)).bind (fun lf => (p_t K 7 l (some lf.2)).map (fun g => ((ik.1, lf.1, g.1), g.2)))) := by
      unfold p_pk
      rw [c1]
      rfl
    by_cases cs : a1.1 ≠ 1
    · rw [if_pos cs] at e1 el
      exact bad el (s0 e1)
    · rw [if_neg cs] at e1 el
      have e1 : S1 = some a1.2 := e1
      subst e1
      obtain ⟨o2, c2⟩ : ∃ o2, p_t K 5 l (some a1.2) = o2 := ⟨_, rfl⟩
      cases o2 with
      | none =>
        rw [c2] at el
        exact bad el (by rw [c2]; rfl)
      | some k1 =>
        rw [c2] at el
        have el : p_pk K l st = (p_lf K 1 l (some k1.2)).bind (fun lf => (p_t K 7 l (some lf.2)).map (fun g => ((k1.1, lf.1, g.1), g.2))) := el
        have q2 : p_to (p_t K 5 l (some a1.2)) = some k1.2 := by rw [c2]; rfl
        obtain ⟨o3, c3⟩ : ∃ o3, p_lf K 1 l (some k1.2) = o3 := ⟨_, rfl⟩
        cases o3 with
        | none =>
          rw [c3] at el
          exact bad el (by rw [q2, c3]; rfl)
        | some l1 =>
          rw [c3] at el
          have el : p_pk K l st = (p_t K 7 l (some l1.2)).map (fun g => ((k1.1, l1.1, g.1), g.2)) := el
          have q3 : p_to (p_lf K 1 l (p_to (p_t K 5 l (some a1.2)))) = some l1.2 := by rw [q2, c3]; rfl
          obtain ⟨o4, c4⟩ : ∃ o4, p_t K 7 l (some l1.2) = o4 := ⟨_, rfl⟩
          cases o4 with
          | none =>
            rw [c4] at el
            exact bad el (by rw [q3, c4]; rfl)
          | some g1 =>
            rw [c4] at el
            have el : p_pk K l st = some ((k1.1, l1.1, g1.1), g1.2) := el
            refine ⟨by rw [el, q3, c4]; rfl, fun ik lf g s h => ?_⟩
            rw [el] at h
            have h := Option.some.inj h
            rw [Prod.mk.injEq, Prod.mk.injEq, Prod.mk.injEq] at h
            obtain ⟨⟨h1, h2, h3⟩, h4⟩ := h
            rw [← h1, ← h2, ← h3, ← h4]
            exact ⟨⟨k1.2, c2⟩, ⟨l1.2, by rw [q2]; exact c3⟩, by rw [q3]; exact c4⟩
section
variable {I J : sr_V} {nn fr : Nat} {K : Wt → Prop} {tl mk mm l : List Wt} {Q : Int → sr_V → Prop} {R : sr_V → Prop} {st : p_S} {w : Wt}
theorem p_lf_le {src : Int} {S : p_S} {lf : p_L} {s : Nat × Nat} (h : p_lf K src l S = some (lf, s)) : ∃ i e, s = (i + 1, e) := by
  obtain ⟨m, k, p, so, ph, g⟩ := lf
  have pl := (p_lf_st (K := K) (src := src) (l := l) (st := S) (z := match p_8 l (p_to (p_t K 5 l (p_to (p_t K 5 l (p_to (p_16 l S)))))) with | none => 0 | some x => x.1) (fun b s hb => by rw [hb]) _ _ rfl rfl).2 m k p so ph g s h
  obtain ⟨i, e, _, h2⟩ := p_t_le pl.2.2.2.2.2.2
  exact ⟨i, e, h2⟩
/-- what readPackage leaves -/
def m_po2 (I : sr_V) (mk : List Wt) (fr : Nat) (ik g : Wt) (sa : Nat) : Prop := w_at mk (I 1000 68) ik ∧ w_at mk (I 1000 70) g ∧ I 1000 69 = ((fr + sa : Nat) : Int) ∧ I 1000 72 = ((fr + sa + 1 : Nat) : Int)
theorem r_readPackage (hx : m_tk I mk K fr l) (h : m_rd I fr l st) (q : ∀ J, m_rd J fr l (p_to (p_pk K l st)) → J 1000 71 = I 1000 57 → (∀ ik m k p so ph g0 g i e, p_pk K l st = some ((ik, (m, k, p, so, ph, g0), g), i + 1, e) → m_po2 J mk fr ik g i ∧ (∃ sa, m_lo J mk fr m k p so ph g0 sa ∧ sa + 1 = i) ∧ ∃ j, J 1000 60 = ((fr + j : Nat) : Int) ∧ ∀ i0 e0, st = some (i0, e0) → j = i0 + 2) → m_fr [] [57, 58, 59, 60, 61, 62, 63, 64, 65, 66, 67, 68, 69, 70, 71, 72] I J → R J) : rm_276 I R := by
  have up : ∀ {A B : sr_V}, m_fr [] [57, 58, 59] A B → m_fr [] [57, 58, 59, 60, 61, 62, 63, 64, 65, 66, 67, 68, 69, 70, 71, 72] A B := fun {A B} f => m_fr_sub f (by simp) (by simp)
  unfold rm_276
  intro v48 e48 _ I52 e52
  have r52 : m_rd I52 fr l st := by rw [e52]; exact m_rd_su h (by omega)
  have f52 : m_fr [] [57, 58, 59, 60, 61, 62, 63, 64, 65, 66, 67, 68, 69, 70, 71, 72] I I52 := by rw [e52]; exact m_su_fr (by simp)
  have x71 : I52 1000 71 = I 1000 57 := by rw [e52, su_eq, e48]
  refine r_u8 (m_tk_f hx f52) r52 (fun z1 J1 r1 v1 _ _ g1 _ => ?_)
  have rest : ∀ (Z : sr_V) (S1 : p_S), m_rd Z fr l S1 → S1 = (if z1 ≠ 1 then none else p_to (p_8 l st)) → m_fr [] [57, 58, 59] I52 Z → rb_276_11 R Z := by
    intro Z S1 rZ eS fZ
    obtain ⟨pl1, pl2⟩ := p_pk_st (K := K) (z := z1) v1 S1 eS
    have f0 := m_fr_trans f52 (up fZ)
    unfold rb_276_11
    refine r_readTerm (so := 5) (by omega) (m_tk_f hx f0) rZ (fun z2 J2 r2 v2 _ g2 _ => ?_)
    intro I9 e9
    have r9 : m_rd I9 fr l (p_to (p_t K 5 l S1)) := by rw [e9]; exact m_rd_su r2 (by omega)
    have f9 := m_fr_trans (m_fr_trans f0 (up g2)) (show m_fr [] [57, 58, 59, 60, 61, 62, 63, 64, 65, 66, 67, 68, 69, 70, 71, 72] J2 I9 by rw [e9]; exact m_su_fr (by simp))
    have k9 : I9 1000 71 = I 1000 57 ∧ I9 1000 68 = z2 := ⟨by rw [e9, su_k (by decide), g2.2 71 (by decide), fZ.2 71 (by decide), x71], by rw [e9, su_eq]⟩
    refine r_readLeaf (src := 1) (m_tk_f hx f9) r9 (fun J3 r3 h60 v3 g3 => ?_)
    intro v20 e20 _ I24 e24
    have r24 : m_rd I24 fr l (p_to (p_lf K 1 l (p_to (p_t K 5 l S1)))) := by rw [e24]; exact m_rd_su r3 (by omega)
    have f24 := m_fr_trans (m_fr_trans f9 (m_fr_sub g3 (by simp) (by simp))) (show m_fr [] [57, 58, 59, 60, 61, 62, 63, 64, 65, 66, 67, 68, 69, 70, 71, 72] J3 I24 by rw [e24]; exact m_su_fr (by simp))
    refine r_readTerm (so := 7) (by omega) (m_tk_f hx f24) r24 (fun z4 J4 r4 v4 _ g4 _ => ?_)
    intro I36 e36 v40 e40 _ I44 e44
    have yk : ∀ k, 60 ≤ k → k ≠ 70 → k ≠ 72 → I44 1000 k = I24 1000 k := fun k hk h1 h2 => by rw [e44, su_k h2, e36, su_k h1, g4.2 k (by simp; omega)]
    have f44 : m_fr [] [57, 58, 59, 60, 61, 62, 63, 64, 65, 66, 67, 68, 69, 70, 71, 72] J4 I44 := by rw [e44, e36]; exact m_fr_trans (m_su_fr (by simp)) (m_su_fr (by simp))
    refine q I44 ?_ ?_ (fun ik m k p so ph g0 g i e hl => ?_) (m_fr_trans (m_fr_trans f24 (up g4)) f44)
    · rw [pl1, e44, e36]
      exact m_rd_su (m_rd_su r4 (by omega)) (by omega)
    · rw [yk 71 (by omega) (by decide) (by decide), e24, su_k (by decide), g3.2 71 (by decide), k9.1]
    · obtain ⟨⟨s2, c2⟩, ⟨s3, c3⟩, c4⟩ := pl2 ik (m, k, p, so, ph, g0) g (i + 1, e) hl
      obtain ⟨i3, e3, es3⟩ := p_lf_le c3
      subst es3
      have hi : i = i3 + 1 := by
        obtain ⟨i5, e5, h5, h6⟩ := p_t_le c4
        rw [c3] at h5
        have h5 := (Prod.mk.inj (Option.some.inj h5)).1
        have h6 := (Prod.mk.inj h6).1
        omega
      have at3 : J3 1000 57 = ((fr + (i3 + 1) : Nat) : Int) := by
        rw [c3] at r3
        exact r3.1
      have at4 : J4 1000 57 = ((fr + (i + 1) : Nat) : Int) := by
        rw [c4] at r4
        exact r4.1
      have yl : ∀ k, 60 ≤ k → k ≤ 67 → I44 1000 k = J3 1000 k := fun k h1 h2 => by rw [yk k h1 (by omega) (by omega), e24, su_k (by omega)]
      refine ⟨⟨?_, ?_, ?_, ?_⟩, ⟨i3, ?_, hi.symm⟩, s2.1, ?_, fun i0 e0 hst => ?_⟩
      · rw [yk 68 (by omega) (by decide) (by decide), e24, su_k (by decide), g3.2 68 (by decide), k9.2]
        exact v2 ik s2 c2
      · rw [e44, su_k (by decide), e36, su_eq]
        exact v4 g (i + 1, e) c4
      · rw [yk 69 (by omega) (by decide) (by decide), e24, su_eq, e20, at3, hi]
      · rw [e44, su_eq, e40, e36, su_k (by decide), at4]
        rfl
      · have lo := v3 m k p so ph g0 i3 e3 c3
        unfold m_lo at lo ⊢
        rw [yl 61 (by omega) (by omega), yl 62 (by omega) (by omega), yl 67 (by omega) (by omega), yl 63 (by omega) (by omega), yl 64 (by omega) (by omega), yl 66 (by omega) (by omega), yl 65 (by omega) (by omega)]
        exact lo
      · rw [yl 60 (by omega) (by omega), h60]
        rw [c2] at r9
        exact r9.1
      · obtain ⟨i7, e7, h7, h8⟩ := p_t_le c2
        rw [eS] at h7
        by_cases cz : z1 ≠ 1
        · rw [if_pos cz] at h7
          exact absurd h7 (by simp)
        · rw [if_neg cz, hst] at h7
          obtain ⟨o8, c8⟩ : ∃ o8, p_8 l (some (i0, e0)) = o8 := ⟨_, rfl⟩
          rw [c8] at h7
          cases o8 with
          | none => exact absurd h7 (by simp [p_to])
          | some o8 =>
            obtain ⟨b8, i8, e8⟩ := o8
            have a8 := p_8_le c8
            have h7 : some (i8, e8) = some (i7, e7) := h7
            have h7 := Option.some.inj h7
            rw [Prod.mk.injEq] at h7
            rw [h8]
            show i7 + 1 = i0 + 2
            omega
  refine ⟨fun c => rest J1 _ r1 (by rw [if_neg (by omega)]) g1, fun c => ?_⟩
  intro I64 e64
  exact rest I64 none (by rw [e64]; exact m_rd_1 r1) (by rw [if_pos c]) (m_fr_trans g1 (by rw [e64]; exact m_su_fr (by simp)))
end
section
variable {H Z X Y : sw_H} {nn nm r ra g m : Nat} {K K' S : Wt → Prop} {tl mk mm l : List Wt} {a b c x y n cn cs N U M : Int} {Q : sw_H → Prop} {P : Int → sw_H → Prop} {A B : List Nat} {w : Wt} {st : p_S}
theorem c_readPackage (hV : c_V H mk nn K tl cn cs) (hml : mk.length ≤ 999999999) (hs : c_rs H mk r ra l) (r22 : r ≠ 22) (ra22 : ra ≠ 22) (rv15 : sw_rv H 18 15 = 22) (t22 : sw_ty H 22 = 48) (h : c_rd H l st) (q : ∀ G, c_rd G l (p_to (p_pk K l st)) → (∀ ik m k p so ph g0 g s, p_pk K l st = some ((ik, (m, k, p, so, ph, g0), g), s) → c_lf G mk 22 m k p so ph ∧ w_at mk (sw_iv G 22 5) g0) → c_fr [18, 22] H G → c_k5 H G → Q G) : wm_265 18 H Q := by
  have up : ∀ {A B : sw_H}, c_fr [18] A B → c_fr [18, 22] A B := fun {A B} f => c_fr_sub f (by simp)
  have VV : ∀ {B : sw_H}, c_fr [18, 22] H B → c_V B mk nn K tl cn cs := fun {B} f => c_V_fr hV f (fun a ha => by simp at ha; unfold c_fix; omega)
  have SS : ∀ {B : sw_H}, c_fr [18, 22] H B → c_rs B mk r ra l ∧ sw_rv B 18 15 = 22 ∧ sw_ty B 22 = 48 := fun {B} f => ⟨c_rs_fr2 hs f r22 ra22, by rw [f.2.2.2.2.1]; exact rv15, by rw [f.2.2.1]; exact t22⟩
  unfold wm_265
  refine c_u8 hV.1 hs h (fun z1 J1 r1 v1 _ _ g1 n1 _ _ => ?_)
  have rest : ∀ (Z : sw_H) (S1 : p_S), c_rd Z l S1 → S1 = (if z1 ≠ 1 then none else p_to (p_8 l st)) → c_fr [18] H Z → c_k5 H Z → wb_265_7 Q 18 Z := by
    intro Z S1 rZ eS fZ nZ
    obtain ⟨pl1, pl2⟩ := p_pk_st (K := K) (z := z1) v1 S1 eS
    have f0 := up fZ
    obtain ⟨s0, rv0, ty0⟩ := SS f0
    unfold wb_265_7
    refine c_termOf (so := 5) (by omega) (by omega) (VV f0) hml s0 rZ (fun z2 J2 r2 v2 _ _ g2 n2 _ _ => ?_)
    have f2 := c_fr_t f0 (up g2)
    obtain ⟨s2, rv2, ty2⟩ := SS f2
    refine c_readLeaf (src := 1) (VV f2) hml s2 r22 ra22 rv2 ty2 (by omega) r2 (fun J3 r3 v3 g3 n3 _ => ?_)
    have f3 := c_fr_t f2 g3
    obtain ⟨s3, rv3, ty3⟩ := SS f3
    refine c_termOf (so := 7) (by omega) (by omega) (VV f3) hml s3 r3 (fun z4 J4 r4 v4 _ _ g4 n4 _ _ => ?_)
    have i22 : ∀ f, sw_iv J4 22 f = sw_iv J3 22 f := fun k => by rw [g4.2.2.2.2.2 22 (by simp)]
    refine q J4 (by rw [pl1]; exact r4) (fun ik m k p so ph g0 g s hl => ?_) (c_fr_t f3 (up g4)) (c_k5_t nZ (c_k5_t n2 (c_k5_t n3 n4)))
    obtain ⟨_, ⟨s3', c3⟩, _⟩ := pl2 ik (m, k, p, so, ph, g0) g s hl
    obtain ⟨k1, k2⟩ := v3 m k p so ph g0 s3' c3
    exact ⟨c_lf_iv k1 (fun f _ => i22 f) (w_le_refl _), by rw [i22]; exact k2⟩
  refine ⟨fun c => rest J1 _ r1 (by rw [if_neg (by omega)]) g1 n1, fun c => ?_⟩
  intro H21 e21
  obtain ⟨b1, b2, b3, b4⟩ := c_rd_b r1
  obtain ⟨w1, w2⟩ := c_rd_wrong b1 b2 b3 b4 e21
  exact rest H21 none w1 (by rw [if_pos c]) (c_fr_t g1 w2) (c_k5_t n1 (c_k5_si e21 (by omega)))
end
end
