/-! ===== the reference: readNode ===== -/
noncomputable section
theorem sw_rem_31 : ∀ x : Fin 31, sw_rem (x.val : Int) 2 = ((x.val % 2 : Nat) : Int) := by decide
theorem sw_div_31 : ∀ x : Fin 31, sw_div (x.val : Int) 2 = ((x.val / 2 : Nat) : Int) := by decide
variable {I J : sr_V} {nn fr mi : Nat} {K : Wt → Prop} {tl mk mm l : List Wt} {ms : List (List Wt)} {a b c y n : Int} {Q : Int → sr_V → Prop} {R : sr_V → Prop} {st : p_S} {w : Wt} {done ns : List p_V} {x i e p : Nat} {v : p_V}
/-- what reading node p touches -/
def m_pN (p : Nat) (f k : Nat) : Prop := (36 ≤ f ∧ f ≤ 44 ∧ k = p) ∨ (f = 1000 ∧ 57 ≤ k ∧ k ≤ 75)
theorem m_pN_F1 (f : m_fr [] m_F1 I J) : m_gp (m_pN p) I J := m_gp_sub (m_fr_gp f) (fun f k q => by
  simp only [m_F1, List.mem_cons, List.not_mem_nil, or_false, and_false, false_or] at q
  exact Or.inr ⟨q.1, by omega, by omega⟩)
theorem m_pN_F (f : m_fr [] [57, 58, 59] I J) : m_gp (m_pN p) I J := m_pN_F1 (m_F1_3 f)
theorem m_pN_s {f : Nat} {z : Int} (e : J = su I 1000 f z) (hf : 57 ≤ f ∧ f ≤ 75) : m_gp (m_pN p) I J := by
  rw [e]
  exact m_gp_sub (m_gp_su I 1000 f z) (fun f' k q => Or.inr ⟨q.1, by omega, by omega⟩)
theorem m_pN_a {f : Nat} {z : Int} (e : J = su I f p z) (hf : 36 ≤ f ∧ f ≤ 44) : m_gp (m_pN p) I J := by
  rw [e]
  exact m_gp_sub (m_gp_su I f p z) (fun f' k q => Or.inl ⟨by omega, by omega, q.2⟩)
theorem m_tk_pN (h : m_tk I mk K fr l) (f : m_gp (m_pN p) I J) : m_tk J mk K fr l := by
  have e26 : J 26 = I 26 := by funext j; exact f 26 j (by unfold m_pN; omega)
  have e16 : J 16 = I 16 := by funext j; exact f 16 j (by unfold m_pN; omega)
  have e6 : J 6 = I 6 := by funext j; exact f 6 j (by unfold m_pN; omega)
  unfold m_tk at h ⊢
  rw [e26, e16, e6]
  exact h
theorem m_rd_a {f k : Nat} {z : Int} (h : m_rd I fr l st) (hf : f ≠ 1000) : m_rd (su I f k z) fr l st := m_rd_eq h (by rw [su_f (Ne.symm hf)]) (by rw [su_f (Ne.symm hf)]) (by rw [su_f (Ne.symm hf)])
/-- a node with a key -/
theorem r_no_key (hx : m_tk I mk K fr l) (hp : p < 1519) (h : m_rd I fr l st) (h39 : I 39 p = 0) (q : ∀ J, m_rd J fr l (p_to (p_row (p_ua l) l (p_to (p_h K l (p_to (p_t K 5 l st)))))) → (∀ k sk h sh b u su, p_t K 5 l st = some (k, sk) → p_h K l (some sk) = some (h, sh) → p_row (p_ua l) l (some sh) = some ((b, u), su) → J 36 p = 2 ∧ w_at mk (J 37 p) k ∧ w_az mk (J 38 p) h ∧ J 39 p = u) → m_gp (fun f k => ((f = 36 ∨ f = 37 ∨ f = 38 ∨ f = 39) ∧ k = p) ∨ (f = 1000 ∧ 57 ≤ k ∧ k ≤ 75)) I J → R J) : rb_373_48 R p 2 I := by
  have hb := hx.2.1
  have up : ∀ {A B : sr_V}, m_fr [] [57, 58, 59] A B → m_gp (fun f k => ((f = 36 ∨ f = 37 ∨ f = 38 ∨ f = 39) ∧ k = p) ∨ (f = 1000 ∧ 57 ≤ k ∧ k ≤ 75)) A B := fun {A B} f => m_gp_sub (m_fr_gp f) (fun f k q => by
    simp only [List.mem_cons, List.not_mem_nil, or_false, and_false, false_or] at q
    exact Or.inr ⟨q.1, by omega, by omega⟩)
  have ua : ∀ {A B : sr_V} {f : Nat} {z : Int}, B = su A f p z → (f = 36 ∨ f = 37 ∨ f = 38 ∨ f = 39) → m_gp (fun f k => ((f = 36 ∨ f = 37 ∨ f = 38 ∨ f = 39) ∧ k = p) ∨ (f = 1000 ∧ 57 ≤ k ∧ k ≤ 75)) A B := fun {A B f z} e hf => by
    rw [e]; exact m_gp_sub (m_gp_su A f p z) (fun f' k q => Or.inl ⟨by rw [q.1]; exact hf, q.2⟩)
  have toN : ∀ {A B : sr_V}, m_gp (fun f k => ((f = 36 ∨ f = 37 ∨ f = 38 ∨ f = 39) ∧ k = p) ∨ (f = 1000 ∧ 57 ≤ k ∧ k ≤ 75)) A B → m_gp (m_pN p) A B := fun {A B} g => m_gp_sub g (fun f k q => by
    rcases q with q | q
    · exact Or.inl ⟨by omega, by omega, q.2⟩
    · exact Or.inr q)
  unfold rb_373_48
  refine ⟨fun _ => ⟨by omega, by omega, ?_⟩, fun c => absurd rfl c⟩
  intro I1 e1
  rw [Int.toNat_natCast] at e1
  have g1 := ua e1 (Or.inl rfl)
  refine r_readTerm (so := 5) (by decide) (m_tk_pN hx (toN g1)) (by rw [e1]; exact m_rd_a h (by decide)) (fun z2 J2 r2 v2 _ f2 _ => ⟨by omega, by omega, ?_⟩)
  intro I3 e3
  rw [Int.toNat_natCast] at e3
  have g3 := m_gp_trans g1 (m_gp_trans (up f2) (ua e3 (Or.inr (Or.inl rfl))))
  refine r_readPerhaps (m_tk_pN hx (toN g3)) (by rw [e3]; exact m_rd_a r2 (by decide)) (fun z4 J4 r4 v4 _ f4 _ => ⟨by omega, by omega, ?_⟩)
  intro I5 e5
  rw [Int.toNat_natCast] at e5
  have g5 := m_gp_trans g3 (m_gp_trans (up f4) (ua e5 (Or.inr (Or.inr (Or.inl rfl)))))
  refine r_readRow (m_tk_pN hx (toN g5)) (by rw [e5]; exact m_rd_a r4 (by decide)) (fun z6 J6 r6 v6 l6 u6 f6 _ => ?_)
  have g6 := m_gp_trans g5 (up f6)
  have y36 : J6 36 p = 2 := by rw [f6.1 36 (by simp) (by simp), e5, su_f (by decide), f4.1 36 (by simp) (by simp), e3, su_f (by decide), f2.1 36 (by simp) (by simp), e1, su_eq]
  have y37 : J6 37 p = z2 := by rw [f6.1 37 (by simp) (by simp), e5, su_f (by decide), f4.1 37 (by simp) (by simp), e3, su_eq]
  have y38 : J6 38 p = z4 := by rw [f6.1 38 (by simp) (by simp), e5, su_eq]
  have y39 : J6 39 p = 0 := by rw [f6.1 39 (by simp) (by simp), e5, su_f (by decide), f4.1 39 (by simp) (by simp), e3, su_f (by decide), f2.1 39 (by simp) (by simp), e1, su_f (by decide)]; exact h39
  clear e1 e3 e5
  intro v7 e7 _ I8 e8 y9 e9
  rw [e9]
  have g8 : m_gp (fun f k => ((f = 36 ∨ f = 37 ∨ f = 38 ∨ f = 39) ∧ k = p) ∨ (f = 1000 ∧ 57 ≤ k ∧ k ≤ 75)) I I8 := m_gp_trans g6 (by rw [e8]; exact m_gp_sub (m_gp_su J6 1000 58 z6) (fun f k q => Or.inr ⟨q.1, by omega, by omega⟩))
  obtain ⟨S, eS⟩ : ∃ S, p_to (p_h K l (p_to (p_t K 5 l st))) = S := ⟨_, rfl⟩
  rw [eS] at r6 v6 q
  obtain ⟨o, eo⟩ : ∃ o, p_r l S = o := ⟨_, rfl⟩
  rw [eo] at r6 v6
  cases o with
  | none =>
    obtain ⟨m1, m2, m3, m4, m5⟩ := r6
    have rn : p_row (p_ua l) l S = none := by unfold p_row; rw [eo]; rfl
    refine ⟨1, ?_⟩
    unfold rl_373_81
    intro w1 ew1 _
    rw [e8, su_k (by decide)] at ew1
    refine ⟨fun _ => ?_, fun c => by omega⟩
    unfold rb_373_116
    intro I2 e2
    refine q I2 ?_ (fun k sk hh sh b u su' h1 h2 h3 => ?_) (m_gp_trans g8 (by rw [e2]; exact m_gp_sub (m_gp_su I8 1000 58 v7) (fun f k q => Or.inr ⟨q.1, by omega, by omega⟩)))
    · rw [rn]
      refine ⟨by rw [e2, su_k (by decide), e8, su_k (by decide)]; exact m1, by rw [e2, su_k (by decide), e8, su_k (by decide)]; exact m2, by rw [e2, su_eq, e7]; exact m3, by rw [e2, su_eq, e7]; exact m4, by rw [e2, su_k (by decide), e8, su_k (by decide)]; exact m5⟩
    · rw [h1, p_to_s, h2, p_to_s] at eS
      rw [← eS, h3] at rn
      exact absurd rn (by simp)
  | some ro =>
    obtain ⟨en, i1, e1⟩ := ro
    cases S with
    | none => exact absurd eo (by simp [p_r, p_16, p_8])
    | some s0 =>
    obtain ⟨i0, e0⟩ := s0
    obtain ⟨t1, t2, t3, t4, t5⟩ := p_r_ix eo
    subst t2
    obtain ⟨b1, b2, b3, b4, b5⟩ := r6
    have b1 : J6 1000 57 = ((fr + i1 : Nat) : Int) := b1
    have b2 : J6 1000 58 = ((fr + e1 : Nat) : Int) := b2
    have b3 : J6 1000 59 = 0 := b3
    have ez6 : z6 = ((fr + en : Nat) : Int) := v6 en _ rfl
    have r8 : m_rd I8 fr l (some (i1, en)) := ⟨by rw [e8, su_k (by decide)]; exact b1, by rw [e8, su_eq, ez6], by rw [e8, su_k (by decide)]; exact b3, t4, by omega⟩
    have sub : ∀ {A B : sr_V}, m_gp (fun f k => (f = 39 ∧ k = p) ∨ (f = 1000 ∧ (k = 57 ∨ k = 58 ∨ k = 59))) A B → m_gp (fun f k => ((f = 36 ∨ f = 37 ∨ f = 38 ∨ f = 39) ∧ k = p) ∨ (f = 1000 ∧ 57 ≤ k ∧ k ≤ 75)) A B := fun {A B} g => m_gp_sub g (fun f k q => by
      rcases q with q | q
      · exact Or.inl ⟨Or.inr (Or.inr (Or.inr q.1)), q.2⟩
      · exact Or.inr ⟨q.1, by omega, by omega⟩)
    have rowd : p_row (p_ua l) l (some (i0, e1)) = (p_us l (en - i1) (-1) 0 (some (i1, en))).bind (fun a => if a.2.1 = en then some ((i1, a.1), a.2.1, e1) else none) := by
      unfold p_row
      rw [eo]
      rfl
    refine ⟨en - i1 + 2, ?_⟩
    refine r_um_l (en := en) ez6 hp (by omega) (by rw [e7, b2]; omega) (en - i1 + 2) i1 (-1) 0 (m_tk_pN hx (toN g8)) r8 (by rw [e8, su_f (by decide)]; exact y39) (by decide) (by decide) (by decide) (by decide) (by omega) (fun w s X hw x57 x58 x59 x39 gX => ?_) (fun X hw rX gX => ?_)
    · have hs := p_us_in t4 hw
      subst hs
      have rv : p_row (p_ua l) l (some (i0, e1)) = some ((i1, w), en, e1) := by
        rw [rowd, hw]
        exact if_pos rfl
      refine q X ?_ (fun k sk hh sh b u su' h1 h2 h3 => ?_) (m_gp_trans g8 (sub gX))
      · rw [rv, p_to_s]
        exact ⟨x57, by rw [x58, e7, b2], x59, t3, b5⟩
      · have h1' := h1
        rw [h1, p_to_s, h2, p_to_s] at eS
        have eS := Option.some.inj eS
        rw [eS, rv] at h3
        have h3 := Option.some.inj h3
        simp only [Prod.mk.injEq] at h3
        have hz4 : w_az mk z4 hh := v4 hh sh (by rw [h1, p_to_s]; exact h2)
        refine ⟨?_, ?_, ?_, by rw [x39, h3.1.2]⟩
        · rw [gX 36 p (by omega), e8, su_f (by decide)]; exact y36
        · rw [gX 37 p (by omega), e8, su_f (by decide), y37]; exact v2 k sk h1'
        · rw [gX 38 p (by omega), e8, su_f (by decide), y38]; exact hz4
    · have rv : p_row (p_ua l) l (some (i0, e1)) = none := by rw [rowd, hw]; rfl
      refine q X (by rw [rv]; exact rX) (fun k sk hh sh b u su' h1 h2 h3 => ?_) (m_gp_trans g8 (sub gX))
      rw [h1, p_to_s, h2, p_to_s] at eS
      have eS := Option.some.inj eS
      rw [eS, rv] at h3
      exact absurd h3 (by simp)
/-- the nodes that were read, in the reference's WORK -/
def m_nds (I : sr_V) (mk : List Wt) (ns : List p_V) : Prop := ∀ (x : Nat) (v : p_V), ns[x]? = some v → I 36 (1488 + x) = v.1 ∧ w_az mk (I 37 (1488 + x)) v.2.2.1 ∧ w_az mk (I 38 (1488 + x)) v.2.2.2.1 ∧ I 39 (1488 + x) = v.2.2.2.2 ∧ I 44 (1488 + x) = 0 ∧ (v.1 = 1 → I 40 (1488 + x) = v.2.1.1 ∧ w_at mk (I 43 (1488 + x)) v.2.1.2.2.1 ∧ I 41 (1488 + x) = v.2.1.2.2.2.1 ∧ w_at mk (I 42 (1488 + x)) v.2.1.2.2.2.2.2)
theorem m_nds_snoc (h : m_nds I mk done) (hx : done.length = x) (g : m_gp (m_pN (1488 + x)) I J) (hv : J 36 (1488 + x) = v.1 ∧ w_az mk (J 37 (1488 + x)) v.2.2.1 ∧ w_az mk (J 38 (1488 + x)) v.2.2.2.1 ∧ J 39 (1488 + x) = v.2.2.2.2 ∧ J 44 (1488 + x) = 0 ∧ (v.1 = 1 → J 40 (1488 + x) = v.2.1.1 ∧ w_at mk (J 43 (1488 + x)) v.2.1.2.2.1 ∧ J 41 (1488 + x) = v.2.1.2.2.2.1 ∧ w_at mk (J 42 (1488 + x)) v.2.1.2.2.2.2.2)) : m_nds J mk (done ++ [v]) := by
  intro j u hj
  by_cases cj : j < done.length
  · rw [List.getElem?_append_left cj] at hj
    have back : ∀ f, 36 ≤ f → f ≤ 44 → J f (1488 + j) = I f (1488 + j) := fun f h1 h2 => g f _ (by unfold m_pN; omega)
    rw [back 36 (by omega) (by omega), back 37 (by omega) (by omega), back 38 (by omega) (by omega), back 39 (by omega) (by omega), back 44 (by omega) (by omega), back 40 (by omega) (by omega), back 43 (by omega) (by omega), back 41 (by omega) (by omega), back 42 (by omega) (by omega)]
    exact h j u hj
  · have ej : j = x := by
      have := (List.getElem?_eq_some_iff.mp hj).1
      rw [List.length_append] at this
      simp at this
      omega
    subst ej
    rw [List.getElem?_append_right (by omega), hx, Nat.sub_self] at hj
    have hj := Option.some.inj hj
    subst hj
    exact hv
theorem r_readNode (hx31 : x < 31) (hx : m_tk I mk K fr l) (h : m_rd I fr l (some (i, e))) (hN : m_nds I mk done) (hlen : done.length = x) (q : ∀ J, m_rd J fr l (p_to (p_no K l x (some (i, e)))) → (∀ v s, p_no K l x (some (i, e)) = some (v, s) → m_nds J mk (done ++ [v])) → m_gp (m_pN (1488 + x)) I J → R J) : rm_373 x I R := by
  have hb := hx.2.1
  unfold rm_373 rm_67
  rw [show (48 : Int) = ((48 : Nat) : Int) from rfl, r_sp (s := 48) (by decide) (by omega), show 31 * 48 + x = 1488 + x by omega]
  intro _
  refine r_blank (s := 48) (by decide) hx31 ?_
  rw [show 31 * 48 + x = 1488 + x by omega]
  obtain ⟨B, eB⟩ : ∃ B, m_bl I (1488 + x) = B := ⟨_, rfl⟩
  rw [eB]
  have gB : m_gp (m_pN (1488 + x)) I B := fun f k hk => by
    rw [← eB]
    unfold m_bl
    rw [if_neg (fun h => hk (Or.inl ⟨by omega, by omega, h.2⟩))]
  have zB : ∀ f, f = 36 ∨ f = 37 ∨ f = 38 ∨ f = 39 ∨ f = 44 → B f (1488 + x) = 0 := fun f hf => by
    rw [← eB]; unfold m_bl; rw [if_pos ⟨hf, rfl⟩]
  have rB : m_rd B fr l (some (i, e)) := m_rd_eq h (by rw [← eB]; unfold m_bl; rw [if_neg (by omega)]) (by rw [← eB]; unfold m_bl; rw [if_neg (by omega)]) (by rw [← eB]; unfold m_bl; rw [if_neg (by omega)])
  refine r_u8 (m_tk_pN hx gB) rB (fun z1 J1 r1 v1 z0 z255 f1 _ => ?_)
  have g1 := m_gp_trans gB (m_pN_F (p := 1488 + x) f1)
  have hx1 := m_tk_pN hx g1
  obtain ⟨p0, p1, p2, p3⟩ := p_no_st (K := K) (x := x) v1
  have z1B : ∀ f, f = 36 ∨ f = 37 ∨ f = 38 ∨ f = 39 ∨ f = 44 → J1 f (1488 + x) = 0 := fun f hf => by rw [f1.1 f (by simp) (by omega)]; exact zB f hf
  have p1519 : 1488 + x < 1519 := by omega
  -- all is wrong from here on
  have wrong : ∀ {X : sr_V}, p_no K l x (some (i, e)) = none → m_rd X fr l none → m_gp (m_pN (1488 + x)) I X → X 39 (1488 + x) = 0 → rb_373_33 R x (1488 + x : Nat) z1 X := by
    intro X hn rX gX x39
    have fin : ∀ {Y : sr_V}, m_rd Y fr l none → m_gp (m_pN (1488 + x)) I Y → Y 39 (1488 + x) = 0 → rb_373_48 R (1488 + x : Nat) z1 Y := by
      intro Y rY gY y39
      by_cases c2 : z1 = 2
      · rw [c2]
        refine r_no_key (m_tk_pN hx gY) p1519 rY y39 (fun Z rZ _ gZ => q Z ?_ (fun v s hv => by rw [hn] at hv; exact absurd hv (by simp)) (m_gp_trans gY (m_gp_sub gZ (fun f k q => by
          rcases q with q | q
          · exact Or.inl ⟨by omega, by omega, q.2⟩
          · exact Or.inr q))))
        rw [hn]
        have : p_row (p_ua l) l (p_to (p_h K l (p_to (p_t K 5 l none)))) = none := rfl
        rw [this] at rZ
        exact rZ
      · unfold rb_373_48
        exact ⟨fun c => absurd c c2, fun _ => q Y (by rw [hn]; exact rY) (fun v s hv => by rw [hn] at hv; exact absurd hv (by simp)) gY⟩
    unfold rb_373_33
    refine ⟨fun c => fin rX gX x39, fun c => ?_⟩
    refine r_readLeaf (src := 0) (m_tk_pN hx gX) rX (fun Y rY _ _ fY => ?_)
    have gY := m_gp_trans gX (m_pN_F1 (p := 1488 + x) (m_fr_sub fY (by simp) (by simp [m_F1])))
    have : p_lf K 0 l none = none := rfl
    rw [this] at rY
    intro v108 e108 _
    have b59 : Y 1000 59 = 1 := rY.2.2.2.2
    exact ⟨fun _ => fin rY gY (by rw [fY.1 39 (by simp) (by simp)]; exact x39), fun c => by omega⟩
  have c30 : p_no K l x (some (i, e)) = none → rb_373_30 R x (1488 + x : Nat) z1 J1 := by
    intro hn
    unfold rb_373_30
    intro I2 e2
    exact wrong hn (by rw [e2]; exact m_rd_1 r1) (m_gp_trans g1 (m_pN_s e2 (by omega))) (by rw [e2, su_f (by decide)]; exact z1B 39 (by omega))
  -- a LEAF
  have c33 : z1 ≤ 2 → ¬ (z1 = 1 ∧ x % 2 = 1) → ¬ (z1 = 2 ∧ x % 2 = 0) → rb_373_33 R x (1488 + x : Nat) z1 J1 := by
    intro hz n1 n2
    unfold rb_373_33
    refine ⟨fun c => ?_, fun c => ?_⟩
    · by_cases c2 : z1 = 2
      · have odd : x % 2 = 1 := by omega
        have en := p2 c2 odd
        rw [c2]
        refine r_no_key hx1 p1519 r1 (z1B 39 (by omega)) (fun Z rZ vZ gZ => ?_)
        have gZ' : m_gp (m_pN (1488 + x)) J1 Z := m_gp_sub gZ (fun f k q => by
          rcases q with q | q
          · exact Or.inl ⟨by omega, by omega, q.2⟩
          · exact Or.inr q)
        refine q Z ?_ (fun v s hv => ?_) (m_gp_trans g1 gZ')
        · rw [en]
          obtain ⟨o1, eo1⟩ : ∃ o, p_t K 5 l (p_to (p_8 l (some (i, e)))) = o := ⟨_, rfl⟩
          rw [eo1] at rZ ⊢
          cases o1 with
          | none => exact rZ
          | some k =>
            obtain ⟨k, sk⟩ := k
            rw [p_to_s] at rZ
            show m_rd Z fr l (p_to ((p_h K l (some sk)).bind (fun h => (p_row (p_ua l) l (some h.2)).map (fun u => (((2 : Int), p_L0, k, h.1, u.1.2), u.2)))))
            obtain ⟨o2, eo2⟩ : ∃ o, p_h K l (some sk) = o := ⟨_, rfl⟩
            rw [eo2] at rZ ⊢
            cases o2 with
            | none => exact rZ
            | some hh =>
              obtain ⟨hh, sh⟩ := hh
              rw [p_to_s] at rZ
              show m_rd Z fr l (p_to ((p_row (p_ua l) l (some sh)).map (fun u => (((2 : Int), p_L0, k, hh, u.1.2), u.2))))
              cases ho : p_row (p_ua l) l (some sh) with
              | none => rw [ho] at rZ; exact rZ
              | some a => rw [ho] at rZ; exact rZ
        · rw [en, Option.bind_eq_some_iff] at hv
          obtain ⟨⟨k, sk⟩, h1, hv⟩ := hv
          rw [Option.bind_eq_some_iff] at hv
          obtain ⟨⟨hh, sh⟩, h2, hv⟩ := hv
          rw [Option.map_eq_some_iff] at hv
          obtain ⟨⟨⟨b, u'⟩, su'⟩, h3, hv⟩ := hv
          have hv := (Prod.mk.inj hv).1
          subst hv
          obtain ⟨y1, y2, y3, y4⟩ := vZ k sk hh sh b u' su' h1 h2 h3
          refine m_nds_snoc hN hlen (m_gp_trans g1 gZ') ⟨y1, Or.inr y2, y3, y4, ?_, fun c => absurd c (by simp)⟩
          rw [gZ 44 _ (by omega)]; exact z1B 44 (by omega)
      · have c0 : z1 = 0 := by omega
        have en := p0 c0
        unfold rb_373_48
        refine ⟨fun c => absurd c c2, fun _ => q J1 ?_ (fun v s hv => ?_) g1⟩
        · rw [en]
          cases ho : p_8 l (some (i, e)) with
          | none => rw [ho] at r1; exact r1
          | some a => rw [ho] at r1; exact r1
        · rw [en, Option.map_eq_some_iff] at hv
          obtain ⟨a, _, hv⟩ := hv
          have hv := (Prod.mk.inj hv).1
          subst hv
          refine m_nds_snoc hN hlen g1 ⟨z1B 36 (by omega), Or.inl ⟨z1B 37 (by omega), rfl⟩, Or.inl ⟨z1B 38 (by omega), rfl⟩, z1B 39 (by omega), z1B 44 (by omega), fun c => absurd c (by decide)⟩
    · have ev : x % 2 = 0 := by omega
      have en := p1 c ev
      have n2' : ¬ z1 = 2 := by omega
      refine r_readLeaf (src := 0) hx1 r1 (fun Y rY _ vY fY => ?_)
      have gY := m_gp_trans g1 (m_pN_F1 (p := 1488 + x) (m_fr_sub fY (by simp) (by simp [m_F1])))
      intro v108 e108 _
      obtain ⟨o, eo⟩ : ∃ o, p_lf K 0 l (p_to (p_8 l (some (i, e)))) = o := ⟨_, rfl⟩
      rw [eo] at rY en vY
      cases o with
      | none =>
        have b59 : Y 1000 59 = 1 := rY.2.2.2.2
        have en : p_no K l x (some (i, e)) = none := en
        refine ⟨fun _ => ?_, fun c => by omega⟩
        unfold rb_373_48
        exact ⟨fun c => absurd c n2', fun _ => q Y (by rw [en]; exact rY) (fun v s hv => by rw [en] at hv; exact absurd hv (by simp)) gY⟩
      | some a =>
        obtain ⟨⟨m, k, p', so, ph, g⟩, s1, s2⟩ := a
        have b59 : Y 1000 59 = 0 := rY.2.2.1
        have en : p_no K l x (some (i, e)) = some ((1, (m, k, p', so, ph, g), k, ph, 0), s1, s2) := en
        refine ⟨fun c => by omega, fun _ => ?_⟩
        rw [sw_div_31 ⟨x, hx31⟩]
        refine r_putLeaf (s := 48) (k := x / 2) (by decide) (by omega) ?_
        rw [show 31 * 48 + 2 * (x / 2) = 1488 + x by omega]
        have gP : m_gp (m_pN (1488 + x)) Y (m_plf Y (1488 + x)) := m_gp_sub m_plf_gp (fun f k q => Or.inl q)
        unfold rb_373_48
        refine ⟨fun c => absurd c n2', fun _ => q _ ?_ (fun v s hv => ?_) (m_gp_trans gY gP)⟩
        · rw [en, p_to_s]
          exact m_rd_eq rY (m_plf_ne (by omega)) (m_plf_ne (by omega)) (m_plf_ne (by omega))
        · rw [en] at hv
          have hv := (Prod.mk.inj (Option.some.inj hv)).1
          subst hv
          obtain ⟨i', ei'⟩ : ∃ i', s1 = i' + 1 := by
            obtain ⟨i', e', hh⟩ := p_lf_le eo
            exact ⟨i', (Prod.mk.inj hh).1⟩
          subst ei'
          obtain ⟨o61, o62, o67, o63, o64, o66, _⟩ := vY m k p' so ph g i' s2 rfl
          have pl : ∀ f, m_plf Y (1488 + x) f (1488 + x) = (if f = 36 then 1 else if f = 37 then Y 1000 62 else if f = 38 then Y 1000 64 else if f = 39 then 0 else if f = 40 then Y 1000 61 else if f = 43 then Y 1000 67 else if f = 41 then Y 1000 63 else if f = 42 then Y 1000 66 else if f = 44 then 0 else Y f (1488 + x)) := fun f => if_pos rfl
          refine m_nds_snoc hN hlen (m_gp_trans gY gP) ⟨by rw [pl]; rfl, by rw [pl]; exact Or.inr o62, by rw [pl]; exact o64, by rw [pl]; rfl, by rw [pl]; rfl, fun _ => ⟨by rw [pl]; exact o61, by rw [pl]; exact o67, by rw [pl]; exact o63, by rw [pl]; exact o66⟩⟩
  have er := sw_rem_31 ⟨x, hx31⟩
  have er : sw_rem (x : Int) 2 = ((x % 2 : Nat) : Int) := er
  have c23 : z1 ≤ 2 → ¬ (z1 = 1 ∧ x % 2 = 1) → rb_373_23 R x (1488 + x : Nat) z1 J1 := by
    intro hz n1
    unfold rb_373_23
    rw [er]
    refine ⟨fun c => c33 hz n1 (fun h => c h.1), fun c => ⟨fun c2 => c33 hz n1 (fun h => c2 (by omega)), fun c2 => c30 (p3 (by omega) (by omega) (by omega))⟩⟩
  rw [er]
  refine ⟨fun c => c30 (p3 (by omega) (by omega) (by omega)), fun c => ⟨fun c1 => c23 c (fun h => c1 h.1), fun c1 => ⟨fun c2 => c30 (p3 (by omega) (by omega) (by omega)), fun c2 => c23 c (fun h => c2 (by omega))⟩⟩⟩
end
