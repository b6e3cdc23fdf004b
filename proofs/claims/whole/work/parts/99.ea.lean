/-! ===== the reference: a LEAF and a CONTENT that are right, where more follows ===== -/
noncomputable section
variable {I J : sr_V} {nn fr mi : Nat} {K : Wt → Prop} {tl mk mm l : List Wt} {ms : List (List Wt)} {a b c y n S src m so : Int} {Q : Int → sr_V → Prop} {R : sr_V → Prop} {st : p_S} {w k p ph g : Wt} {x i e : Nat} {s : Nat × Nat}
def m_F0 : List Nat := [57, 58, 59, 60, 61, 62, 63, 64, 65, 66, 67]
theorem m_F0_3 (f : m_fr [] [57, 58, 59] I J) : m_fr [] m_F0 I J := m_fr_sub f (by simp) (by simp [m_F0])
theorem m_F0_1 (f : m_fr [] m_F0 I J) : m_fr [] m_F1 I J := m_fr_sub f (by simp) (by simp [m_F0, m_F1])
theorem s_lf (hx : m_tk I mk K fr l) (hS : ((fr + l.length : Nat) : Int) ≤ S) (he : e ≤ l.length) (hp : p_lf K src l (some (i, e)) = some ((m, k, p, so, ph, g), s)) (h : m_ry I fr i S) (q : ∀ J, m_lo J mk fr m k p so ph g (i + (if so = 3 then 6 else 5)) → J 1000 60 = ((fr + i : Nat) : Int) → m_ry J fr (i + (if so = 3 then 7 else 6)) S → m_fr [] m_F0 I J → R J) : rm_320 src I R := by
  obtain ⟨x1, x2, x3, x4, x5, x6, y1, y2, y3, y4, y5, y6⟩ := p_lf_ix hp
  have tk : ∀ {A : sr_V}, m_fr [] m_F0 I A → m_tk A mk K fr l := fun {A} f => by
    have ea : ∀ g, g ≠ 1000 → A g = I g := fun g hg => f.1 g (by simp) hg
    unfold m_tk at hx ⊢
    rw [ea 26 (by decide), ea 16 (by decide), ea 6 (by decide)]
    exact hx
  have fs : ∀ {A : sr_V} {f : Nat} {z : Int}, m_fr [] m_F0 I A → (f = 60 ∨ f = 61 ∨ f = 62 ∨ f = 67 ∨ f = 63 ∨ f = 64 ∨ f = 65 ∨ f = 66) → m_fr [] m_F0 I (su A 1000 f z) := fun {A f z} h hf => m_fr_trans h ⟨fun g _ g2 => by rw [su_f g2], fun f' hf' => by
    refine su_k (fun e => hf' ?_)
    rw [e]
    simp only [m_F0, List.mem_cons, List.not_mem_nil, or_false]
    omega⟩
  unfold rm_320
  intro v42 e42 _ I1 e1
  have r1 : m_ry I1 fr i S := by rw [e1]; exact m_ry_su h (by omega)
  have f1 : m_fr [] m_F0 I I1 := by rw [e1]; exact fs (m_fr_refl _ _ _) (by omega)
  have z60 : I1 1000 60 = ((fr + i : Nat) : Int) := by rw [e1, su_eq, e42]; exact h.1
  clear e1
  refine s_u16 (tk f1) hS he y1 r1 (fun J2 r2 f2 _ => ?_)
  intro I3 e3
  have r3 : m_ry I3 fr (i + 2) S := by rw [e3]; exact m_ry_su r2 (by omega)
  have f3 : m_fr [] m_F0 I I3 := by rw [e3]; exact fs (m_fr_trans f1 (m_F0_3 f2)) (by omega)
  have z61 : I3 1000 61 = m := by rw [e3, su_eq]
  have z60 : I3 1000 60 = ((fr + i : Nat) : Int) := by rw [e3, su_k (by decide), f2.2 60 (by decide)]; exact z60
  clear e3
  refine s_t (so := 5) (by decide) (tk f3) hS he y2 r3 (fun z4 J4 v4 r4 f4 _ => ?_)
  intro I5 e5
  have r5 : m_ry I5 fr (i + 3) S := by rw [e5]; exact m_ry_su r4 (by omega)
  have f5 : m_fr [] m_F0 I I5 := by rw [e5]; exact fs (m_fr_trans f3 (m_F0_3 f4)) (by omega)
  have z62 : I5 1000 62 = z4 := by rw [e5, su_eq]
  have z61 : I5 1000 61 = m := by rw [e5, su_k (by decide), f4.2 61 (by decide)]; exact z61
  have z60 : I5 1000 60 = ((fr + i : Nat) : Int) := by rw [e5, su_k (by decide), f4.2 60 (by decide)]; exact z60
  clear e5
  refine s_t (so := 5) (by decide) (tk f5) hS he y3 r5 (fun z6 J6 v6 r6 f6 _ => ?_)
  intro I7 e7
  have r7 : m_ry I7 fr (i + 4) S := by rw [e7]; exact m_ry_su r6 (by omega)
  have f7 : m_fr [] m_F0 I I7 := by rw [e7]; exact fs (m_fr_trans f5 (m_F0_3 f6)) (by omega)
  have z67 : I7 1000 67 = z6 := by rw [e7, su_eq]
  have z62 : I7 1000 62 = z4 := by rw [e7, su_k (by decide), f6.2 62 (by decide)]; exact z62
  have z61 : I7 1000 61 = m := by rw [e7, su_k (by decide), f6.2 61 (by decide)]; exact z61
  have z60 : I7 1000 60 = ((fr + i : Nat) : Int) := by rw [e7, su_k (by decide), f6.2 60 (by decide)]; exact z60
  clear e7
  refine s_u8 (tk f7) hS he y4 r7 (fun J8 r8 f8 _ => ?_)
  intro I9 e9
  have r9 : m_ry I9 fr (i + 5) S := by rw [e9]; exact m_ry_su r8 (by omega)
  have f9 : m_fr [] m_F0 I I9 := by rw [e9]; exact fs (m_fr_trans f7 (m_F0_3 f8)) (by omega)
  have z63 : I9 1000 63 = so := by rw [e9, su_eq]
  have z67 : I9 1000 67 = z6 := by rw [e9, su_k (by decide), f8.2 67 (by decide)]; exact z67
  have z62 : I9 1000 62 = z4 := by rw [e9, su_k (by decide), f8.2 62 (by decide)]; exact z62
  have z61 : I9 1000 61 = m := by rw [e9, su_k (by decide), f8.2 61 (by decide)]; exact z61
  have z60 : I9 1000 60 = ((fr + i : Nat) : Int) := by rw [e9, su_k (by decide), f8.2 60 (by decide)]; exact z60
  clear e9
  -- the end
  have fin : ∀ {X : sr_V} {z : Int} {j : Nat}, w_az mk z ph → m_ry X fr j S → j = i + (if so = 3 then 6 else 5) → m_fr [] [57, 58, 59] I9 X → rb_320_48 R z X := by
    intro X z j hz rX hj fX
    subst hj
    unfold rb_320_48
    intro I2 e2 v6' e6 _ I10 e10
    have r10 : m_ry I10 fr (i + (if so = 3 then 6 else 5)) S := by rw [e10, e2]; exact m_ry_su (m_ry_su rX (by omega)) (by omega)
    have f10 : m_fr [] m_F0 I I10 := by rw [e10, e2]; exact fs (fs (m_fr_trans f9 (m_F0_3 fX)) (by omega)) (by omega)
    have z64 : I10 1000 64 = z := by rw [e10, su_k (by decide), e2, su_eq]
    have z65 : I10 1000 65 = ((fr + (i + (if so = 3 then 6 else 5)) : Nat) : Int) := by rw [e10, su_eq, e6, e2, su_k (by decide)]; exact rX.1
    have bk : ∀ k, k = 60 ∨ k = 61 ∨ k = 62 ∨ k = 63 ∨ k = 67 → I10 1000 k = I9 1000 k := fun k hk => by rw [e10, su_k (by omega), e2, su_k (by omega), fX.2 k (by simp; omega)]
    refine s_t (so := 7) (by decide) (tk f10) hS he y6 r10 (fun z19 J v19 rJ fJ _ => ?_)
    intro I22 e22
    have b2 : ∀ k, 60 ≤ k → k ≠ 66 → I22 1000 k = I10 1000 k := fun k hk hk2 => by rw [e22, su_k (by omega), fJ.2 k (by simp; omega)]
    refine q I22 ⟨?_, ?_, ?_, ?_, ?_, ?_, ?_⟩ ?_ ?_ (by rw [e22]; exact fs (m_fr_trans f10 (m_F0_3 fJ)) (by omega))
    · rw [b2 61 (by omega) (by omega), bk 61 (by omega)]; exact z61
    · rw [b2 62 (by omega) (by omega), bk 62 (by omega), z62]; exact v4
    · rw [b2 67 (by omega) (by omega), bk 67 (by omega), z67]; exact v6
    · rw [b2 63 (by omega) (by omega), bk 63 (by omega)]; exact z63
    · rw [b2 64 (by omega) (by omega), z64]; exact hz
    · rw [e22, su_eq]; exact v19
    · rw [b2 65 (by omega) (by omega)]; exact z65
    · rw [b2 60 (by omega) (by omega), bk 60 (by omega)]; exact z60
    · have : i + (if so = 3 then 7 else 6) = i + (if so = 3 then 6 else 5) + 1 := by split <;> omega
      rw [this, e22]
      exact m_ry_su rJ (by omega)
  have c39 : rb_320_39 R I9 := by
    unfold rb_320_39
    intro v26 e26 _
    refine ⟨fun c => fin (Or.inl ⟨rfl, x5 (by omega)⟩) r9 (by rw [if_neg (by omega)]) (m_fr_refl _ _ _), fun c => ?_⟩
    have s3 : so = 3 := by omega
    exact s_h (tk f9) hS he (y5 s3) r9 (fun z J hz rJ fJ _ => fin hz rJ (by rw [if_pos s3]) fJ)
  intro v98 e98 _
  refine ⟨fun c => by omega, fun _ => ?_⟩
  intro v101 e101 _
  refine ⟨fun c => by omega, fun _ => ⟨fun _ => c39, fun c => ?_⟩⟩
  intro v104 e104 _
  exact ⟨fun _ => c39, fun c2 => absurd (e104.trans (z63.trans (x6 c))) c2⟩
end
