/-! ===== the reference: readListed ===== -/
noncomputable section
variable {I J : sr_V} {nn fr mi : Nat} {K : Wt → Prop} {tl mk mm l : List Wt} {ms : List (List Wt)} {a b c y n S src m so : Int} {Q : Int → sr_V → Prop} {R : sr_V → Prop} {st : p_S} {w k p ph g : Wt} {x i e : Nat} {s : Nat × Nat} {v : p_C}
theorem s_ct (hx : m_tk I mk K fr l) (hS : ((fr + l.length : Nat) : Int) ≤ S) (hS2 : S ≤ 400000) (he : e ≤ l.length) (hp : p_ct K l (some (i, e)) = some (v, s)) (h : m_ry I fr i S) (q : ∀ J, m_co J mk fr s v → J 1000 74 = ((fr + i : Nat) : Int) → m_ry J fr s.1 S → m_fr [] m_F1 I J → R J) : rm_214 I R := by
  obtain ⟨kd, ⟨ik, lf, g⟩, n⟩ := v
  obtain ⟨m, k, p, so, ph, g0⟩ := lf
  obtain ⟨h8, hs, hc⟩ := p_ct_ix hp
  have hb := hx.2.1
  have tk : ∀ {A : sr_V}, m_fr [] m_F1 I A → m_tk A mk K fr l := fun {A} f => by
    have ea : ∀ g, g ≠ 1000 → A g = I g := fun g hg => f.1 g (by simp) hg
    unfold m_tk at hx ⊢
    rw [ea 26 (by decide), ea 16 (by decide), ea 6 (by decide)]
    exact hx
  have fs : ∀ {A : sr_V} {f : Nat} {z : Int}, m_fr [] m_F1 I A → (57 ≤ f ∧ f ≤ 75) → m_fr [] m_F1 I (su A 1000 f z) := fun {A f z} h hf => m_fr_trans h ⟨fun g _ g2 => by rw [su_f g2], fun f' hf' => by
    refine su_k (fun e => hf' ?_)
    rw [e]
    simp only [m_F1, List.mem_cons, List.not_mem_nil, or_false]
    omega⟩
  unfold rm_214
  intro v6 e6 _ I1 e1
  have r1 : m_ry I1 fr i S := by rw [e1]; exact m_ry_su h (by omega)
  have f1 : m_fr [] m_F1 I I1 := by rw [e1]; exact fs (m_fr_refl _ _ _) (by omega)
  have z74 : I1 1000 74 = ((fr + i : Nat) : Int) := by rw [e1, su_eq, e6]; exact h.1
  clear e1
  refine s_u8 (tk f1) hS he h8 r1 (fun J2 r2 f2 _ => ?_)
  intro I3 e3 I4 e4
  have r4 : m_ry I4 fr (i + 1) S := by rw [e4, e3]; exact m_ry_su (m_ry_su r2 (by omega)) (by omega)
  have f4 : m_fr [] m_F1 I I4 := by rw [e4, e3]; exact fs (fs (m_fr_trans f1 (m_F1_3 f2)) (by omega)) (by omega)
  have z73 : I4 1000 73 = kd := by rw [e4, su_k (by decide), e3, su_eq]
  have z74 : I4 1000 74 = ((fr + i : Nat) : Int) := by rw [e4, su_k (by decide), e3, su_k (by decide), f2.2 74 (by decide)]; exact z74
  clear e3 e4
  intro v31 e31 _ v37 e37 _
  rw [r4.2.1] at e31
  rcases hc with ⟨k1, hs1, h16, hpk, hn⟩ | ⟨k2, hs2, hlf, hik, hg, hn⟩ | ⟨k3, hs3, h16, hik, hlf, hg⟩
  · refine ⟨fun c => absurd (e37.trans (z73.trans k1)) c, fun _ => ?_⟩
    unfold rm_319
    refine s_u16 (tk f4) hS he h16 r4 (fun J5 r5 f5 _ => ?_)
    have F5 := m_fr_trans f4 (m_F1_3 f5)
    intro v21 e21 _ v24 e24 _
    rw [r5.1] at e21
    rw [r5.2.1] at e24
    have hpl : i + 12 ≤ e := by rw [hs1] at hs; exact hs
    rw [e21, sw_w_s (by omega) (by omega)]
    refine ⟨fun _ => ?_, fun c => by omega⟩
    unfold rb_319_13
    intro v1 e1 _
    refine ⟨fun _ => ?_, fun c => absurd (e1.trans r5.2.2) c⟩
    intro v4 e4 _
    rw [r5.1] at e4
    intro _ v82 e82 _
    refine ⟨fun _ => ?_, fun c => absurd (e82.trans r5.2.2) c⟩
    intro I86 e86
    rw [e4, sw_w_s (by omega) (by omega)] at e86
    have r86 : m_rd I86 fr l (some (i + 3, i + 12)) := ⟨by rw [e86, su_k (by decide)]; exact r5.1, by rw [e86, su_eq]; omega, by rw [e86, su_k (by decide)]; exact r5.2.2, by omega, by omega⟩
    have f86 : m_fr [] m_F1 I I86 := by rw [e86]; exact fs F5 (by omega)
    have z86 : ∀ k, 73 ≤ k → I86 1000 k = I4 1000 k := fun k hk => by rw [e86, su_k (by omega), f5.2 k (by simp; omega)]
    refine r_readPackage (tk f86) r86 (fun X rX h71 vX fX => ?_)
    rw [hpk, p_to_s] at rX
    obtain ⟨a1, a2, a3, _⟩ := rX
    obtain ⟨p1, ⟨sa, p2, p2'⟩, j, p3, p4⟩ := vX ik m k p so ph g0 g (i + 11) (i + 12) hpk
    have hj := p4 _ _ rfl
    subst hj
    have hsa : sa = i + 10 := by omega
    subst hsa
    have z71 : X 1000 71 = ((fr + (i + 3) : Nat) : Int) := by rw [h71]; exact r86.1
    have fX' : m_fr [] m_F1 I X := m_fr_trans f86 (m_fr_sub fX (by simp) (by simp [m_F1]))
    intro v97 e97 _
    rw [a1] at e97
    rw [e4, sw_w_s (by omega) (by omega)]
    refine ⟨fun _ => ?_, fun c => by omega⟩
    unfold rb_214_37
    intro I2 e2
    refine q I2 ⟨?_, fun _ => ⟨i + 3, by rw [hs1], ?_, ?_, ?_, ?_⟩, fun c => by omega, fun c => by omega⟩ ?_ ?_ (by rw [e2]; exact fs fX' (by omega))
    · rw [e2, su_k (by decide), fX.2 73 (by decide), z86 73 (by omega)]; exact z73
    · obtain ⟨b1, b2, b3, b4⟩ := p1
      exact ⟨by rw [e2, su_k (by decide)]; exact b1, by rw [e2, su_k (by decide)]; exact b2, by rw [e2, su_k (by decide)]; exact b3, by rw [e2, su_k (by decide)]; exact b4⟩
    · obtain ⟨b1, b2, b3, b4, b5, b6, b7⟩ := p2
      exact ⟨by rw [e2, su_k (by decide)]; exact b1, by rw [e2, su_k (by decide)]; exact b2, by rw [e2, su_k (by decide)]; exact b3, by rw [e2, su_k (by decide)]; exact b4, by rw [e2, su_k (by decide)]; exact b5, by rw [e2, su_k (by decide)]; exact b6, by rw [e2, su_k (by decide)]; exact b7⟩
    · rw [e2, su_k (by decide)]; exact z71
    · rw [e2, su_k (by decide)]; exact p3
    · rw [e2, su_k (by decide), fX.2 74 (by decide), z86 74 (by omega)]; exact z74
    · rw [hs1]
      exact ⟨by rw [e2, su_k (by decide)]; exact a1, by rw [e2, su_eq]; exact e31, by rw [e2, su_k (by decide)]; exact a3⟩
  · refine ⟨fun _ => ?_, fun c => by omega⟩
    intro v40 e40 _
    refine ⟨fun c => by omega, fun _ => ?_⟩
    have so2 : so = 2 := (p_lf_ix hlf).2.2.2.2.2.1 (by decide)
    refine s_lf (tk f4) hS he hlf r4 (fun X hlo h60 rX fX => ?_)
    rw [if_neg (by omega)] at hlo rX
    refine q X ⟨?_, fun c => by omega, fun _ => ⟨i + 1, by rw [hs2], hlo, h60⟩, fun c => by omega⟩ ?_ ?_ (m_fr_trans f4 (m_F0_1 fX))
    · rw [fX.2 73 (by decide)]; exact z73
    · rw [fX.2 74 (by decide)]; exact z74
    · rw [hs2]; exact rX
  · refine ⟨fun _ => ?_, fun c => by omega⟩
    intro v40 e40 _
    refine ⟨fun _ => ?_, fun c => by omega⟩
    intro v43 e43 _
    refine ⟨fun c => by omega, fun _ => ?_⟩
    refine s_u16 (tk f4) hS he h16 r4 (fun X rX fX _ => ?_)
    intro I59 e59
    refine q I59 ⟨?_, fun c => by omega, fun c => by omega, fun _ => by rw [e59, su_eq]⟩ ?_ ?_ (by rw [e59]; exact fs (m_fr_trans f4 (m_F1_3 fX)) (by omega))
    · rw [e59, su_k (by decide), fX.2 73 (by decide)]; exact z73
    · rw [e59, su_k (by decide), fX.2 74 (by decide)]; exact z74
    · rw [hs3, e59]; exact m_ry_su rX (by omega)
theorem r_readListed {k : Nat} (hx : m_tk I mk K fr l) (hus : 0 ≤ I 1000 23 ∧ I 1000 23 ≤ 400000) (hin : ((fr + l.length : Nat) : Int) ≤ I 1000 23) (hk : k < 1100) (h77 : I 77 k = ((fr + i : Nat) : Int)) (he : e ≤ l.length) (hp : p_ct K l (some (i, e)) = some (v, s)) (q : ∀ J, m_co J mk fr s v → J 1000 74 = ((fr + i : Nat) : Int) → J 1000 57 = ((fr + s.1 : Nat) : Int) → m_fr [] m_F1 I J → R J) : rm_190 k I R := by
  unfold rm_190
  refine ⟨by omega, by omega, ?_⟩
  intro v1 e1 _ v4 e4 _
  rw [Int.toNat_natCast, h77] at e1
  unfold rm_210
  intro I1 d1 I2 d2 I3 d3
  have r3 : m_ry I3 fr i (I 1000 23) := ⟨by rw [d3, su_k (by decide), d2, su_k (by decide), d1, su_eq, e1], by rw [d3, su_k (by decide), d2, su_eq, e4], by rw [d3, su_eq]⟩
  have f3 : m_fr [] m_F1 I I3 := m_F1_3 ⟨fun g _ g2 => by rw [d3, d2, d1, su_f g2, su_f g2, su_f g2], fun f hf => by
    simp only [List.mem_cons, List.not_mem_nil, or_false] at hf
    rw [d3, d2, d1, su_k (by omega), su_k (by omega), su_k (by omega)]⟩
  have hx3 : m_tk I3 mk K fr l := by
    have ea : ∀ g, g ≠ 1000 → I3 g = I g := fun g hg => f3.1 g (by simp) hg
    unfold m_tk at hx ⊢
    rw [ea 26 (by decide), ea 16 (by decide), ea 6 (by decide)]
    exact hx
  exact s_ct hx3 hin hus.2 he hp r3 (fun J c1 c2 c3 c4 => q J c1 c2 c3.1 (m_fr_trans f3 c4))
end
