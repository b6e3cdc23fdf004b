/-! ===== the reference: node ===== -/
noncomputable section
/-- what node answers without telling a term -/
def w_nv (G : w_G) (x : Nat) (y z : Int) : Prop := ((y < 0 ∨ 5 < y) ∧ z = -1) ∨ (y = 2 ∧ z = w_ones (t_um (gg_T G) x)) ∨ (y = 3 ∧ ((x % 2 = 0 ∧ t_ky (gg_T G) x ≠ [] ∧ z = t_ow (gg_T G) (x / 2)) ∨ (¬ (x % 2 = 0 ∧ t_ky (gg_T G) x ≠ []) ∧ z = -1))) ∨ (y = 4 ∧ z = (w_rs (gg_T G) (w_h x) x).length) ∨ (y = 5 ∧ ((gg_hd G x ≠ [] ∧ z = 1) ∨ (gg_hd G x = [] ∧ z = 0)))
/-- the term that node tells -/
def w_nt (G : w_G) (x : Nat) (y : Int) (w : Wt) : Prop := (y = 0 ∧ w = t_ky (gg_T G) x) ∨ (y = 1 ∧ w = t_ph (gg_T G) x)
theorem t_sub {T : w_T} (h : t_dp T ≤ 4) {x : Nat} (hx : x < t_w T) : x + 2 ^ w_h x ≤ t_w T := by
  have w31 := t_w31 h
  have key : ∀ d : Fin 5, ∀ x : Fin 31, x.val < 2 ^ (d.val + 1) - 1 → x.val + 2 ^ w_h x.val ≤ 2 ^ (d.val + 1) - 1 := by decide +kernel
  exact key ⟨t_dp T, by omega⟩ ⟨x, by omega⟩ hx
section
variable {I J : sr_V} {nn us : Nat} {K : Wt → Prop} {tl mk mm l : List Wt} {ms : List (List Wt)} {a b c x y n : Int} {Q : Int → sr_V → Prop} {R : sr_V → Prop} {s : Nat} {G : w_G} {P : Nat → Nat → Prop} {w : Wt}
/-- where node writes -/
def m_pn (f k : Nat) : Prop := f = 13 ∨ f = 14 ∨ f = 88 ∨ f = 89 ∨ (f = 1000 ∧ (k = 0 ∨ k = 18 ∨ k = 92))
theorem r_node {Ga : Nat → w_G} (hL : m_L I mk nn K tl) (hb : tl.length < 44998) (h01 : ∀ m : Nat, m < 24 → I 27 m = 0 ∨ I 27 m = 1) (hst : ∀ m : Nat, m < 24 → I 27 m = 1 → m_st I mk m (Ga m)) (q0 : (¬ ∃ m k : Nat, x = m ∧ m < 24 ∧ I 27 m = 1 ∧ n = k ∧ k < t_w (gg_T (Ga m))) → Q (-1) (su I 1000 0 0)) (qv : ∀ (m k : Nat) z J, x = m → m < 24 → I 27 m = 1 → n = k → k < t_w (gg_T (Ga m)) → w_nv (Ga m) k y z → m_L J mk nn K tl → J 1000 0 = 0 → m_gp m_pn I J → Q z J) (qt : ∀ (m k : Nat) w J, x = m → m < 24 → I 27 m = 1 → n = k → k < t_w (gg_T (Ga m)) → w_nt (Ga m) k y w → m_L J mk nn K (w_tp tl w).2 → J 1000 0 = 0 → m_gp m_pn I J → Q (w_tp tl w).1 J) : rm_41 x n y I Q := by
  unfold rm_41
  intro I2 e2
  have g2 := m_gp_su I 1000 0 0
  rw [← e2] at g2
  have L2 := m_L_gp hL g2 (fun f k p => by omega)
  have k2 : ∀ f, f ≠ 1000 → I2 f = I f := fun f hf => by rw [e2, su_f hf]
  have z2 : I2 1000 0 = 0 := by rw [e2, su_eq]
  have gn2 : m_gp m_pn I I2 := m_gp_sub g2 (fun f k p => Or.inr (Or.inr (Or.inr (Or.inr ⟨p.1, Or.inl p.2⟩))))
  rw [← e2] at q0
  refine ⟨fun c => q0 (fun ⟨m, k, h, _⟩ => by omega), fun c => ⟨fun c1 => q0 (fun ⟨m, k, h, h2, _⟩ => by omega), fun c1 => ⟨by omega, by omega, ?_⟩⟩⟩
  obtain ⟨m, em⟩ : ∃ m : Nat, x = m := ⟨x.toNat, by omega⟩
  subst em
  have hm24 : m < 24 := by omega
  intro v9 e9 _
  rw [Int.toNat_natCast, k2 27 (by decide)] at e9
  refine ⟨fun c2 => q0 (fun ⟨m', k, h, h2, h3, _⟩ => ?_), fun c2 => ⟨fun c3 => q0 (fun ⟨m', k, _, _, _, h, _⟩ => by omega), fun c3 => ?_⟩⟩
  · have : m' = m := by omega
    subst this
    omega
  have o1 := h01 m hm24
  have in1 : I 27 m = 1 := by omega
  have sm := hst m hm24 in1
  obtain ⟨s1, s2, s3, s4, s5, s6, s7, s8, s9⟩ := sm
  have w31 := t_w31 s4.1.1
  refine r_width (by omega) (by rw [k2 31 (by decide)]; exact s4.2.1) s4.1.1 (fun _ => ?_)
  rw [show 2 ^ (t_dp (gg_T (Ga m)) + 1) - 1 = t_w (gg_T (Ga m)) from rfl]
  refine ⟨fun c4 => ?_, fun c4 => q0 (fun ⟨m', k, h, _, _, h2, h3⟩ => ?_)⟩
  · obtain ⟨k, ek⟩ : ∃ k : Nat, n = k := ⟨n.toNat, by omega⟩
    subst ek
    have hk : k < t_w (gg_T (Ga m)) := by omega
    have qv := fun z J => qv m k z J rfl hm24 in1 rfl hk
    have qt := fun w J => qt m k w J rfl hm24 in1 rfl hk
    generalize Ga m = G at *
    clear q0 hst h01
    obtain ⟨a1, a2, a3, a4⟩ := s4.2.2.1 k hk
    have um := s4.1.2.1 k hk
    intro y19 e19
    rw [r_sp (by omega) (show k < 31 by omega)] at e19
    subst e19
    have tell : ∀ {t : Int} {w : Wt}, w_nt G k y w → w_az mk t w → rm_54 t I2 (fun z I => sw_c z → Q z I) := fun {t w} hnt hw => by
      refine r_tell L2 hb hw (fun J LJ f _ => qt w J hnt LJ (by rw [f.2 0 (by decide)]; exact z2) (m_gp_trans gn2 (m_gp_sub (m_fr_gp f) (fun f k p => ?_))))
      simp at p
      rcases p with ⟨_, p | p⟩ | ⟨p1, p2⟩
      · exact Or.inl p
      · exact Or.inr (Or.inl p)
      · exact Or.inr (Or.inr (Or.inr (Or.inr ⟨p1, Or.inr (Or.inl p2)⟩)))
    have vv : ∀ z, w_nv G k y z → Q z I2 := fun z hz => qv z I2 hz L2 z2 gn2
    refine ⟨fun cc => vv _ (Or.inl ⟨cc, rfl⟩), fun cc => ⟨by omega, by omega, ?_⟩, fun cc => ⟨by omega, by omega, ?_⟩, fun cc => ⟨by omega, by omega, ?_⟩, fun cc => ⟨by omega, by omega, ?_⟩, fun cc => ?_, fun cc => ⟨by omega, by omega, ?_⟩⟩
    · intro v ev _
      rw [Int.toNat_natCast, k2 37 (by decide)] at ev
      rw [ev]
      exact tell (Or.inl ⟨cc, rfl⟩) a2
    · intro v ev _
      rw [Int.toNat_natCast, k2 38 (by decide)] at ev
      rw [ev]
      exact tell (Or.inr ⟨cc, rfl⟩) a3
    · intro v ev _
      rw [Int.toNat_natCast, k2 39 (by decide), a4] at ev
      rw [ev]
      exact r_ones (by unfold sw_c; omega) (fun _ => vv _ (Or.inr (Or.inl ⟨cc, rfl⟩)))
    · intro v ev _
      rw [Int.toNat_natCast, k2 36 (by decide), a1] at ev
      have kk : v = 1 ↔ (k % 2 = 0 ∧ t_ky (gg_T G) k ≠ []) := by
        rw [ev]
        by_cases h1 : t_ky (gg_T G) k = []
        · rw [if_pos h1]
          exact ⟨fun h => absurd h (by decide), fun h => absurd h1 h.2⟩
        · rw [if_neg h1]
          by_cases h2 : k % 2 = 0
          · rw [if_pos h2]
            exact ⟨fun _ => ⟨h2, h1⟩, fun _ => rfl⟩
          · rw [if_neg h2]
            exact ⟨fun h => absurd h (by decide), fun h => absurd h.1 h2⟩
      refine ⟨fun c5 => vv _ (Or.inr (Or.inr (Or.inl ⟨cc, Or.inr ⟨fun h => c5 (kk.mpr h), rfl⟩⟩))), fun c5 => ⟨by omega, by omega, ?_⟩⟩
      obtain ⟨h1, h2⟩ := kk.mp c5
      intro v57 e57 _
      have lf := (s4.2.2.2 (k / 2) (by omega) (by rw [show 2 * (k / 2) = k by omega]; exact h2)).1
      rw [show 2 * (k / 2) = k by omega] at lf
      rw [Int.toNat_natCast, k2 40 (by decide), lf] at e57
      exact vv _ (Or.inr (Or.inr (Or.inl ⟨cc, Or.inl ⟨h1, h2, e57⟩⟩)))
    · have tr2 : m_tr I2 mk m (gg_T G) := m_tr_eq s4 (by rw [k2 31 (by decide)]) (fun f x a b c => by rw [k2 f (by omega)])
      refine r_resolve (by omega) tr2 (t_sub s4.1.1 hk) (fun J rJ fJ => ?_)
      intro v68 e68 _
      rw [rJ.1] at e68
      have gJ : m_gp m_pn I2 J := m_gp_sub (m_fr_gp fJ) (fun f k p => by
        simp at p
        rcases p with ⟨_, p | p⟩ | ⟨p1, p2⟩
        · exact Or.inr (Or.inr (Or.inl p))
        · exact Or.inr (Or.inr (Or.inr (Or.inl p)))
        · exact Or.inr (Or.inr (Or.inr (Or.inr ⟨p1, Or.inr (Or.inr p2)⟩))))
      refine qv v68 J (Or.inr (Or.inr (Or.inr (Or.inl ⟨cc, e68⟩)))) (m_L_fr L2 fJ (by simp) (by simp) (by simp) (by simp) (by simp)) (by rw [fJ.2 0 (by decide)]; exact z2) (m_gp_trans gn2 gJ)
    · intro v ev _
      rw [Int.toNat_natCast, k2 44 (by decide)] at ev
      have az := s8 k hk
      rw [← ev] at az
      refine ⟨fun c5 => vv _ (Or.inr (Or.inr (Or.inr (Or.inr ⟨cc, Or.inr ⟨?_, rfl⟩⟩)))), fun c5 => vv _ (Or.inr (Or.inr (Or.inr (Or.inr ⟨cc, Or.inl ⟨?_, rfl⟩⟩))))⟩
      · rcases az with ⟨_, h⟩ | h
        · exact h
        · have := w_at_le h; omega
      · rcases az with ⟨h, _⟩ | h
        · exact absurd h c5
        · exact w_at_ne hL h
  · have : m' = m := by omega
    subst this
    omega
end
end
