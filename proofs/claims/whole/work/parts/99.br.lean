/-! ===== the reference: member ===== -/
noncomputable section
/-- how many secrets of nodes are had -/
def w_hc (h : Nat → Wt) (n : Nat) : Nat := (List.range n).countP (fun x => @decide (h x ≠ []) (Classical.propDecidable _))
theorem w_hc_s (h : Nat → Wt) (n : Nat) : w_hc h (n + 1) = w_hc h n + @ite _ (h n ≠ []) (Classical.propDecidable _) 1 0 := by
  unfold w_hc
  rw [List.range_succ, List.countP_append, List.countP_singleton]
  congr 1
  by_cases c : h n ≠ []
  · rw [if_pos c, if_pos (by simpa using c)]
  · rw [if_neg c, if_neg (by simpa using c)]
theorem w_hc_le (h : Nat → Wt) (n : Nat) : w_hc h n ≤ n := by
  unfold w_hc
  have := List.countP_le_length (p := fun x => @decide (h x ≠ []) (Classical.propDecidable _)) (l := List.range n)
  rw [List.length_range] at this
  exact this
/-- what member answers without telling a term -/
def w_mv (inn pd : Prop) (np nu nk : Nat) (G : w_G) (y z : Int) : Prop := (y = 0 ∧ ((inn ∧ z = 1) ∨ (¬ inn ∧ z = 0))) ∨ (y = 8 ∧ z = np) ∨ (y = 9 ∧ z = nu) ∨ (y = 10 ∧ z = nk) ∨ (y = 11 ∧ ((pd ∧ z = 1) ∨ (¬ pd ∧ z = 0))) ∨ (y = 12 ∧ ((inn ∧ z = w_hc (gg_hd G) (t_w (gg_T G))) ∨ (¬ inn ∧ z = 0))) ∨ (1 ≤ y ∧ y ≤ 7 ∧ ¬ inn ∧ z = -1) ∨ (inn ∧ ((y = 1 ∧ z = gg_ep G) ∨ (y = 2 ∧ z = gg_lf G) ∨ (y = 3 ∧ z = t_dp (gg_T G))))
/-- the term that member tells -/
def w_mt (G : w_G) (y : Int) (w : Wt) : Prop := (y = 4 ∧ w = w_th (gg_T G) 0 (t_top (gg_T G))) ∨ (y = 5 ∧ w = gg_cf G) ∨ (y = 6 ∧ w = gg_in G) ∨ (y = 7 ∧ w = gg_es G)
section
variable {I J : sr_V} {nn us : Nat} {K : Wt → Prop} {tl mk mm l : List Wt} {ms : List (List Wt)} {a b c x y : Int} {Q : Int → sr_V → Prop} {R : sr_V → Prop} {s : Nat} {G : w_G} {P : Nat → Nat → Prop} {w : Wt}
theorem r_tell (hL : m_L I mk nn K tl) (hb : tl.length < 44998) (hw : w_az mk x w) (k : ∀ J, m_L J mk nn K (w_tp tl w).2 → m_fr [13, 14] [18] I J → Q (w_tp tl w).1 J) : rm_54 x I Q := by
  obtain ⟨h1, h2, h3, h4, h5⟩ := hL
  have xb := w_az_le hw
  refine m_tellp h1 h3 hb xb.1 (by omega) (fun J NJ f => ?_)
  rw [w_az_dz hw] at NJ
  rw [w_az_dz hw]
  refine k J ⟨m_T_fr f (fun g hg => by simp at hg; omega) (by simp) (by simp) h1, m_K_same (fun g hg => f.1 g (by simp; omega) (by omega)) (f.2 4 (by simp)) (f.2 19 (by simp)) h2, NJ, by rw [f.2 4 (by simp)]; exact h4, by rw [f.2 5 (by simp)]; exact h5⟩ f
theorem w_tls_same : ∀ {L : List Wt} (m0 : List Wt), (∀ w ∈ L, w ∈ m0) → w_tls m0 L = m0
  | [], m0, _ => rfl
  | v :: L, m0, h => by
    have e : w_tl m0 v = m0 := if_pos (h v (by simp))
    show w_tls (w_tl m0 v) L = m0
    rw [e]
    exact w_tls_same m0 (fun w hw => h w (by simp [hw]))
theorem w_ordk_in : ∀ x : Fin 31, 2 ^ w_h x.val ≤ x.val + 1 → ∀ y ∈ w_ordk (w_h x.val) x.val (w_h x.val + 1) 0, x.val + 1 ≤ y + 2 ^ w_h x.val ∧ y < x.val + 2 ^ w_h x.val := by decide +kernel
/-- a state's hashes are made already -/
theorem m_st_mkh (h : m_st I mk s G) : w_mkh (gg_T G) 0 (t_top (gg_T G)) mk = mk := by
  have hd := h.2.2.2.1.1.1
  obtain ⟨h1, h2, h3⟩ := t_top_h hd
  have w31 := t_w31 hd
  have hp2 : 0 < 2 ^ w_h (t_top (gg_T G)) := Nat.two_pow_pos _
  refine w_tls_same mk (fun w hw => ?_)
  obtain ⟨y, hy, e⟩ := List.mem_map.mp hw
  have yi := w_ordk_in ⟨t_top (gg_T G), by omega⟩ h3 y hy
  have yi2 : y < t_top (gg_T G) + 2 ^ w_h (t_top (gg_T G)) := yi.2
  rw [← e]
  exact h.2.2.2.2.2.2.2.2 y (by omega)
theorem r_secretsHeld (hs : s < 49) (hL : m_L I mk nn K tl) (hst : m_st I mk s G) (q : Q (w_hc (gg_hd G) (t_w (gg_T G))) I) : rm_133 s I Q := by
  obtain ⟨h1, h2, h3, h4, h5, h6, h7, h8, h9⟩ := hst
  have w31 := t_w31 h4.1.1
  have lp : ∀ (n i : Nat), i ≤ t_w (gg_T G) → t_w (gg_T G) - i < n → rl_133_4 Q n s (w_hc (gg_hd G) i) i I := by
    intro n
    induction n with
    | zero => intro i a1 a2; omega
    | succ n ih =>
      intro i a1 a2
      have hc := w_hc_le (gg_hd G) i
      unfold rl_133_4
      refine r_width hs h4.2.1 h4.1.1 (fun _ => ?_)
      rw [show 2 ^ (t_dp (gg_T G) + 1) - 1 = t_w (gg_T G) from rfl]
      refine ⟨fun c => ?_, fun c => ?_⟩
      · have ei : i = t_w (gg_T G) := by omega
        rw [ei]; exact q
      · have hi : i < t_w (gg_T G) := by omega
        unfold rm_67
        rw [r_sp hs (show i < 31 by omega)]
        intro _
        refine ⟨by omega, by omega, ?_⟩
        intro v23 e23 _
        rw [Int.toNat_natCast] at e23
        have az := h8 i hi
        rw [← e23] at az
        have nx := w_hc_s (gg_hd G) i
        have ih := ih (i + 1) (by omega) (by omega)
        refine ⟨fun c0 => ?_, fun c0 => ?_⟩
        · have e0 : gg_hd G i = [] := by
            rcases az with ⟨_, h⟩ | h
            · exact h
            · have := w_at_le h; omega
          rw [if_neg (by simp [e0])] at nx
          unfold rb_133_21
          intro y1 ey1 y5 ey5
          rw [sw_w_s (by omega) (by omega)] at ey1 ey5
          rw [ey1, ey5, show (i : Int) + 1 = ((i + 1 : Nat) : Int) by omega, Int.add_zero]
          rw [nx, Nat.add_zero] at ih
          exact ih
        · have e0 : gg_hd G i ≠ [] := by
            rcases az with ⟨h, _⟩ | h
            · exact absurd h c0
            · exact w_at_ne hL h
          rw [if_pos e0] at nx
          unfold rb_133_21
          intro y1 ey1 y5 ey5
          rw [sw_w_s (by omega) (by omega)] at ey1 ey5
          rw [ey1, ey5, show (i : Int) + 1 = ((i + 1 : Nat) : Int) by omega]
          rw [nx] at ih
          exact ih
  exact ⟨t_w (gg_T G) + 1, lp (t_w (gg_T G) + 1) 0 (by omega) (by omega)⟩
/-- a member's kept proposals: hashes, messages -/
def m_pp (I : sr_V) (mk : List Wt) (ms : List (List Wt)) (m : Nat) (L : List (Wt × Nat)) : Prop := I 46 m = L.length ∧ L.length ≤ 340 ∧ ∀ (i k : Nat) (h : Wt), L[i]? = some (h, k) → w_at mk (I 51 (340 * m + i)) h ∧ I 52 (340 * m + i) = k ∧ ∃ p, ms[k]? = some p ∧ h = w_t 1 [] [] [] p
/-- the part of member's formula that comes back for each question of a group -/
def r_mb (Q : Int → sr_V → Prop) (x1 x2 : Int) (I2 : sr_V) : Prop := 0 ≤ x1 ∧ x1 < 24 ∧ ∀ v9, v9 = I2 27 x1.toNat → sw_c v9 → (v9 ≠ 0 → (x2 < 1 ∨ 6 < x2 → 0 ≤ x1 ∧ x1 < 49 ∧ ∀ v12, v12 = I2 34 x1.toNat → sw_c v12 → rm_54 v12 I2 (fun z20 I16 => sw_c z20 → Q z20 I16)) ∧ (x2 = 1 → 0 ≤ x1 ∧ x1 < 49 ∧ ∀ v23, v23 = I2 29 x1.toNat → sw_c v23 → Q v23 I2) ∧ (x2 = 2 → 0 ≤ x1 ∧ x1 < 49 ∧ ∀ v26, v26 = I2 30 x1.toNat → sw_c v26 → Q v26 I2) ∧ (x2 = 3 → 0 ≤ x1 ∧ x1 < 49 ∧ ∀ v29, v29 = I2 31 x1.toNat → sw_c v29 → Q v29 I2) ∧ (x2 = 4 → rm_134 x1 I2 (fun z37 I33 => sw_c z37 → rm_135 x1 z37 0 I33 (fun z44 I40 => sw_c z44 → rm_54 z44 I40 (fun z51 I47 => sw_c z51 → Q z51 I47)))) ∧ (x2 = 5 → 0 ≤ x1 ∧ x1 < 49 ∧ ∀ v53, v53 = I2 33 x1.toNat → sw_c v53 → rm_54 v53 I2 (fun z61 I57 => sw_c z61 → Q z61 I57)) ∧ (x2 = 6 → 0 ≤ x1 ∧ x1 < 49 ∧ ∀ v63, v63 = I2 32 x1.toNat → sw_c v63 → rm_54 v63 I2 (fun z71 I67 => sw_c z71 → Q z71 I67))) ∧ (v9 = 0 → Q ((-1)) I2)
/-- where member writes -/
def m_pm (f k : Nat) : Prop := m_p2 f k ∨ f = 13 ∨ f = 14 ∨ (f = 1000 ∧ (k = 0 ∨ k = 18))
theorem r_member {Lk : Nat → List (Nat × Wt × Wt)} {Ga PGa : Nat → w_G} {Ua : Nat → List (Wt × Wt)} {Pa : Nat → List (Wt × Nat)} (hL : m_L I mk nn K tl) (hb : tl.length < 44998) (hbd : m_bd mk) (hpk : ∀ m : Nat, m < 24 → m_pk I mk m (Lk m) ∧ m_up I mk m (Ua m) ∧ m_pp I mk ms m (Pa m)) (h01 : ∀ m : Nat, m < 24 → (I 27 m = 0 ∨ I 27 m = 1) ∧ (I 28 m = 0 ∨ I 28 m = 1)) (hst : ∀ m : Nat, m < 24 → I 27 m = 1 → m_st I mk m (Ga m)) (q0 : ¬ (0 ≤ x ∧ x < 24 ∧ 0 ≤ y ∧ y ≤ 12) → Q (-1) (su I 1000 0 0)) (qv : ∀ (m : Nat) z, x = m → m < 24 → w_mv (I 27 m = 1) (I 28 m = 1) (Pa m).length (Ua m).length (Lk m).length (Ga m) y z → Q z (su I 1000 0 0)) (qt : ∀ (m : Nat) w J, x = m → m < 24 → I 27 m = 1 → w_mt (Ga m) y w → m_L J mk nn K (w_tp tl w).2 → J 1000 0 = 0 → m_gp m_pm I J → Q (w_tp tl w).1 J) : rm_39 x y I Q := by
  unfold rm_39
  intro I2 e2
  have g2 := m_gp_su I 1000 0 0
  rw [← e2] at g2
  have L2 := m_L_gp hL g2 (fun f k p => by omega)
  have k2 : ∀ f, f ≠ 1000 → I2 f = I f := fun f hf => by rw [e2, su_f hf]
  rw [← e2] at q0 qv
  refine ⟨fun c => q0 (by omega), fun c => ⟨fun c1 => q0 (by omega), fun c1 => ⟨fun c2 => q0 (by omega), fun c2 => ⟨fun c3 => ?_, fun c3 => q0 (by omega)⟩⟩⟩⟩
  obtain ⟨m, em⟩ : ∃ m : Nat, x = m := ⟨x.toNat, by omega⟩
  subst em
  have hm24 : m < 24 := by omega
  have qv := fun z => qv m z rfl hm24
  have qt := fun w J => qt m w J rfl hm24
  obtain ⟨pm, um, pp⟩ := hpk m hm24
  have o1 := h01 m hm24
  have st := hst m hm24
  generalize Lk m = L at *
  generalize Ga m = G at *
  generalize Ua m = U at *
  generalize Pa m = PL at *
  clear hpk h01 hst q0
  have i47 := um.1
  have i46 := pp.1
  have i45 := pm.1
  -- telling
  have tl1 : ∀ {Z : sr_V} {t : Int} {w : Wt}, I 27 m = 1 → w_mt G y w → m_L Z mk nn K tl → m_gp m_pm I Z → Z 1000 0 = 0 → w_az mk t w → rm_54 t Z (fun z I => sw_c z → Q z I) := fun {Z t w} in1 hmt LZ gZ z0 hw => by
    refine r_tell LZ hb hw (fun J LJ f _ => qt w J in1 hmt LJ (by rw [f.2 0 (by decide)]; exact z0) (m_gp_trans gZ (m_gp_sub (m_fr_gp f) (fun f k p => ?_))))
    simp at p
    rcases p with ⟨_, p | p⟩ | ⟨p1, p2⟩
    · exact Or.inr (Or.inl p)
    · exact Or.inr (Or.inr (Or.inl p))
    · exact Or.inr (Or.inr (Or.inr ⟨p1, Or.inr p2⟩))
  have gm2 : m_gp m_pm I I2 := m_gp_sub g2 (fun f k p => Or.inr (Or.inr (Or.inr ⟨p.1, Or.inl p.2⟩)))
  have z2 : I2 1000 0 = 0 := by rw [e2, su_eq]
  have body : 1 ≤ y → y ≤ 7 → r_mb Q m y I2 := by
    intro y1 y7
    unfold r_mb
    refine ⟨by omega, by omega, ?_⟩
    intro v9 e9 _
    rw [Int.toNat_natCast, k2 27 (by decide)] at e9
    refine ⟨fun c9 => ?_, fun c9 => qv (-1) ?_⟩
    · have in1 : I 27 m = 1 := by omega
      have sm := st in1
      obtain ⟨s1, s2, s3, s4, s5, s6, s7, s8, s9⟩ := sm
      refine ⟨fun cc => ⟨by omega, by omega, ?_⟩, fun cc => ⟨by omega, by omega, ?_⟩, fun cc => ⟨by omega, by omega, ?_⟩, fun cc => ⟨by omega, by omega, ?_⟩, fun cc => ?_, fun cc => ⟨by omega, by omega, ?_⟩, fun cc => ⟨by omega, by omega, ?_⟩⟩
      · intro v12 e12 _
        rw [Int.toNat_natCast, k2 34 (by decide)] at e12
        rw [e12]
        exact tl1 in1 (Or.inr (Or.inr (Or.inr ⟨by omega, rfl⟩))) L2 gm2 z2 (Or.inr s7)
      · intro v23 e23 _
        rw [Int.toNat_natCast, k2 29 (by decide), s2] at e23
        exact qv v23 (Or.inr (Or.inr (Or.inr (Or.inr (Or.inr (Or.inr (Or.inr ⟨in1, Or.inl ⟨cc, e23⟩⟩)))))))
      · intro v26 e26 _
        rw [Int.toNat_natCast, k2 30 (by decide), s3] at e26
        exact qv v26 (Or.inr (Or.inr (Or.inr (Or.inr (Or.inr (Or.inr (Or.inr ⟨in1, Or.inr (Or.inl ⟨cc, e26⟩)⟩)))))))
      · intro v29 e29 _
        rw [Int.toNat_natCast, k2 31 (by decide), s4.2.1] at e29
        exact qv v29 (Or.inr (Or.inr (Or.inr (Or.inr (Or.inr (Or.inr (Or.inr ⟨in1, Or.inr (Or.inr ⟨cc, e29⟩)⟩)))))))
      · obtain ⟨h1, h2, h3⟩ := t_top_h s4.1.1
        have tr2 : m_tr I2 mk m (gg_T G) := m_tr_eq s4 (by rw [k2 31 (by decide)]) (fun f x a b c => by rw [k2 f (by omega)])
        refine r_top (by omega) tr2.2.1 s4.1.1 (fun _ => ?_)
        have e := m_st_mkh (st in1)
        refine r_treeHash (x := t_top (gg_T G)) (by omega) h2 h3 L2 tr2 (by unfold sw_c; omega) (by rw [e]; exact hbd) (fun t J a1 a2 a3 _ => ?_)
        rw [e] at a1 a2
        exact tl1 in1 (Or.inl ⟨cc, rfl⟩) a1 (m_gp_trans gm2 (m_gp_sub (m_f2_gp a3) (fun f k p => Or.inl p))) (by rw [a3.2 0 (by decide)]; exact z2) (Or.inr a2)
      · intro v53 e53 _
        rw [Int.toNat_natCast, k2 33 (by decide)] at e53
        rw [e53]
        exact tl1 in1 (Or.inr (Or.inl ⟨cc, rfl⟩)) L2 gm2 z2 s6
      · intro v63 e63 _
        rw [Int.toNat_natCast, k2 32 (by decide)] at e63
        rw [e63]
        exact tl1 in1 (Or.inr (Or.inr (Or.inl ⟨cc, rfl⟩))) L2 gm2 z2 (Or.inr s5)
    · exact Or.inr (Or.inr (Or.inr (Or.inr (Or.inr (Or.inr (Or.inl ⟨y1, y7, by omega, rfl⟩))))))
  refine ⟨fun cc => by omega, fun cc => ⟨by omega, by omega, ?_⟩, fun cc => body (by omega) (by omega), fun cc => body (by omega) (by omega), fun cc => body (by omega) (by omega), fun cc => body (by omega) (by omega), fun cc => body (by omega) (by omega), fun cc => body (by omega) (by omega), fun cc => body (by omega) (by omega), fun cc => ⟨by omega, by omega, ?_⟩, fun cc => ⟨by omega, by omega, ?_⟩, fun cc => ⟨by omega, by omega, ?_⟩, fun cc => ⟨by omega, by omega, ?_⟩, fun cc => ⟨by omega, by omega, ?_⟩⟩
  · intro v ev _
    rw [Int.toNat_natCast, k2 27 (by decide)] at ev
    exact ⟨fun c0 => qv 0 (Or.inl ⟨cc, Or.inr ⟨by omega, rfl⟩⟩), fun c0 => qv 1 (Or.inl ⟨cc, Or.inl ⟨by omega, rfl⟩⟩)⟩
  · intro v ev _
    rw [Int.toNat_natCast, k2 46 (by decide), i46] at ev
    exact qv v (Or.inr (Or.inl ⟨cc, ev⟩))
  · intro v ev _
    rw [Int.toNat_natCast, k2 47 (by decide), i47] at ev
    exact qv v (Or.inr (Or.inr (Or.inl ⟨cc, ev⟩)))
  · intro v ev _
    rw [Int.toNat_natCast, k2 45 (by decide), i45] at ev
    exact qv v (Or.inr (Or.inr (Or.inr (Or.inl ⟨cc, ev⟩))))
  · intro v ev _
    rw [Int.toNat_natCast, k2 28 (by decide)] at ev
    exact ⟨fun c0 => qv 0 (Or.inr (Or.inr (Or.inr (Or.inr (Or.inl ⟨cc, Or.inr ⟨by omega, rfl⟩⟩))))), fun c0 => qv 1 (Or.inr (Or.inr (Or.inr (Or.inr (Or.inl ⟨cc, Or.inl ⟨by omega, rfl⟩⟩)))))⟩
  · intro v ev _
    rw [Int.toNat_natCast, k2 27 (by decide)] at ev
    refine ⟨fun c0 => qv 0 (Or.inr (Or.inr (Or.inr (Or.inr (Or.inr (Or.inl ⟨cc, Or.inr ⟨by omega, rfl⟩⟩)))))), fun c0 => ?_⟩
    have in1 : I 27 m = 1 := by omega
    have sm := st in1
    have st2 : m_st I2 mk m G := m_st_eq sm (fun f a b => by rw [k2 f (by omega)]) (fun f x a b c => by rw [k2 f (by omega)])
    exact r_secretsHeld (by omega) L2 st2 (fun _ => qv _ (Or.inr (Or.inr (Or.inr (Or.inr (Or.inr (Or.inl ⟨cc, Or.inl ⟨in1, rfl⟩⟩)))))))
end
end
