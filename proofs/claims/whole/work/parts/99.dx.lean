/-! ===== the reference: readWelcome ===== -/
noncomputable section
variable {I J : sr_V} {nn fr mi : Nat} {K : Wt → Prop} {tl mk mm l : List Wt} {ms : List (List Wt)} {a b c y n : Int} {Q : Int → sr_V → Prop} {R : sr_V → Prop} {st : p_S} {w : Wt} {done ns : List p_V} {x i e p : Nat} {v : p_V}
/-- what reading a WELCOME touches -/
def m_pwl (f k : Nat) : Prop := m_pNs f k ∨ (f = 1000 ∧ ((112 ≤ k ∧ k ≤ 120) ∨ k = 104))
theorem m_pwl_N (h : m_gp m_pNs I J) : m_gp m_pwl I J := m_gp_sub h (fun _ _ q => Or.inl q)
theorem m_pwl_F (f : m_fr [] [57, 58, 59] I J) : m_gp m_pwl I J := m_pwl_N (m_pNs_F f)
theorem m_pwl_s {f : Nat} {z : Int} (e : J = su I 1000 f z) (hf : (57 ≤ f ∧ f ≤ 75) ∨ (112 ≤ f ∧ f ≤ 120) ∨ f = 104) : m_gp m_pwl I J := by
  rw [e]
  refine m_gp_sub (m_gp_su I 1000 f z) (fun f' k q => ?_)
  rcases hf with h | h
  · exact Or.inl (Or.inr (Or.inl ⟨q.1, by omega, by omega⟩))
  · exact Or.inr ⟨q.1, by omega⟩
theorem m_tk_pwl (h : m_tk I mk K fr l) (f : m_gp m_pwl I J) : m_tk J mk K fr l := by
  have e26 : J 26 = I 26 := by funext j; exact f 26 j (by unfold m_pwl m_pNs; omega)
  have e16 : J 16 = I 16 := by funext j; exact f 16 j (by unfold m_pwl m_pNs; omega)
  have e6 : J 6 = I 6 := by funext j; exact f 6 j (by unfold m_pwl m_pNs; omega)
  unfold m_tk at h ⊢
  rw [e26, e16, e6]
  exact h
/-- the rows of a WELCOME: HASH and SEALED -/
theorem r_prs {en : Nat} {x2 : Int} (hen : en ≤ l.length) : ∀ (n i : Nat) {I : sr_V}, m_tk I mk K fr l → m_rd I fr l (some (i, en)) → I 1000 113 = ((fr + en : Nat) : Int) → en - i < n → (∀ prs s J, p_many (p_hs K l) (en - i) (some (i, en)) = some (prs, s) → J 1000 57 = ((fr + en : Nat) : Int) → J 1000 59 = 0 → m_fr [] [57, 58, 59] I J → rb_234_50 Q x2 J) → (∀ J, p_many (p_hs K l) (en - i) (some (i, en)) = none → m_rd J fr l none → m_fr [] [57, 58, 59] I J → rb_234_50 Q x2 J) → rl_234_33 Q n x2 I
  | 0, _, _, _, _, _, h, _, _ => by omega
  | n + 1, i, I, hx, h, h113, hn, k, k0 => by
    obtain ⟨h57, h58, h59, hi, _⟩ := id h
    have h57 : I 1000 57 = ((fr + i : Nat) : Int) := h57
    have h59 : I 1000 59 = 0 := h59
    unfold rl_234_33
    intro v1 ev1 _
    refine ⟨fun c => by omega, fun _ => ?_⟩
    intro v2 ev2 _ v3 ev3 _
    refine ⟨fun c => ?_, fun c => ?_⟩
    · have ie : i = en := by omega
      exact k [] (i, en) I (p_many_e (by omega)) (by rw [h57, ie]) h59 ⟨fun _ _ _ => rfl, fun _ _ => rfl⟩
    · have hie : i < en := by omega
      refine r_readTerm (so := 1) (by decide) hx h (fun z1 J1 r1 v1 _ f1 _ => ?_)
      refine r_readTerm (so := 6) (by decide) (m_tk_fr hx f1) r1 (fun z2 J2 r2 v2 _ f2 _ => ?_)
      have f12 := m_fr_trans f1 f2
      have enn : en - i = (en - i - 1) + 1 := by omega
      rw [← p_hs_to] at r2
      obtain ⟨o, eo⟩ : ∃ o, p_hs K l (some (i, en)) = o := ⟨_, rfl⟩
      rw [eo] at r2
      cases o with
      | none =>
        have r2 : m_rd J2 fr l none := r2
        have hN : p_many (p_hs K l) (en - i) (some (i, en)) = none := by rw [enn, p_many_s hie, eo]; rfl
        cases n with
        | zero => omega
        | succ n =>
          unfold rl_234_33
          intro w1 ew1 _
          refine ⟨fun _ => k0 J2 hN r2 f12, fun c => ?_⟩
          have := r2.2.2.2.2
          omega
      | some a =>
        obtain ⟨v, i', e'⟩ := a
        obtain ⟨b1, b2, b3⟩ := p_hs_fw.2 _ _ _ _ eo
        have b1 : i < i' := b1
        have b3 : e' = en := b3
        subst b3
        have r2 : m_rd J2 fr l (some (i', e')) := r2
        refine r_prs hen n i' (m_tk_fr hx f12) r2 (by rw [f12.2 113 (by decide)]; exact h113) (by omega) (fun prs s X hm x57 x59 fX => k (v :: prs) s X ?_ x57 x59 (m_fr_trans f12 fX)) (fun X hm rX fX => k0 X ?_ rX (m_fr_trans f12 fX))
        · rw [enn, p_many_s hie, eo]
          show (p_many (p_hs K l) (e' - i - 1) (some (i', e'))).map (fun r => (v :: r.1, r.2)) = _
          rw [p_many_f p_hs_fw (e' - i - 1) (e' - i') i' e' (by omega) (by omega), hm]
          rfl
        · rw [enn, p_many_s hie, eo]
          show (p_many (p_hs K l) (e' - i - 1) (some (i', e'))).map (fun r => (v :: r.1, r.2)) = _
          rw [p_many_f p_hs_fw (e' - i - 1) (e' - i') i' e' (by omega) (by omega), hm]
          rfl
/-- the end of a WELCOME -/
theorem r_we_79 (hx : m_tk I mk K fr l) (h : m_rd I fr l st) (q : ∀ z J, m_rd J fr l (p_to (p_t K 7 l (p_to (p_t K 2 l st)))) → ((z = 1 ∧ ∃ e, p_to (p_t K 7 l (p_to (p_t K 2 l st))) = some (e, e)) ∨ (z = 0 ∧ ∀ e, p_to (p_t K 7 l (p_to (p_t K 2 l st))) ≠ some (e, e))) → (∀ w s, p_t K 2 l st = some (w, s) → w_at mk (J 1000 104) w) → (∀ i e, p_to (p_t K 2 l st) = some (i, e) → J 1000 119 = ((fr + i : Nat) : Int)) → (∀ w s, p_t K 7 l (p_to (p_t K 2 l st)) = some (w, s) → w_at mk (J 1000 120) w) → m_fr [] [57, 58, 59, 104, 119, 120] I J → Q z J) : rb_234_79 Q I := by
  unfold rb_234_79
  refine r_readTerm (so := 2) (by decide) hx h (fun z1 J1 r1 v1 _ f1 _ => ?_)
  intro I9 e9 v13 e13 _ I17 e17
  have f1' : m_fr [] [57, 58, 59, 104, 119, 120] I J1 := m_fr_sub f1 (by simp) (by simp)
  have r17 : m_rd I17 fr l (p_to (p_t K 2 l st)) := by rw [e17, e9]; exact m_rd_su (m_rd_su r1 (by omega)) (by omega)
  have f17 : m_fr [] [57, 58, 59, 104, 119, 120] J1 I17 := by
    refine ⟨fun f hf hf2 => ?_, fun k hk => ?_⟩
    · rw [e17, e9]; funext j; rw [su_f hf2, su_f hf2]
    · simp only [List.mem_cons, List.not_mem_nil, or_false] at hk
      rw [e17, e9, su_k (by omega), su_k (by omega)]
  have F17 := m_fr_trans f1' f17
  have hx17 : m_tk I17 mk K fr l := by
    have e : ∀ g, g ≠ 1000 → I17 g = I g := fun g hg => F17.1 g (by simp) hg
    unfold m_tk at hx ⊢
    rw [e 26 (by decide), e 16 (by decide), e 6 (by decide)]
    exact hx
  refine r_readTerm (so := 7) (by decide) hx17 r17 (fun z2 J2 r2 v2 _ f2 _ => ?_)
  intro I29 e29
  have r29 : m_rd I29 fr l (p_to (p_t K 7 l (p_to (p_t K 2 l st)))) := by rw [e29]; exact m_rd_su r2 (by omega)
  have F29 : m_fr [] [57, 58, 59, 104, 119, 120] I I29 := by
    refine m_fr_trans F17 (m_fr_trans (m_fr_sub (A' := []) (F' := [57, 58, 59, 104, 119, 120]) f2 (by simp) (by simp)) ⟨fun f hf hf2 => ?_, fun k hk => ?_⟩)
    · rw [e29]; funext j; rw [su_f hf2]
    · simp only [List.mem_cons, List.not_mem_nil, or_false] at hk
      rw [e29, su_k (by omega)]
  have fin : ∀ z, ((z = 1 ∧ ∃ e, p_to (p_t K 7 l (p_to (p_t K 2 l st))) = some (e, e)) ∨ (z = 0 ∧ ∀ e, p_to (p_t K 7 l (p_to (p_t K 2 l st))) ≠ some (e, e))) → Q z I29 := fun z hz => by
    refine q z I29 r29 hz (fun w s hw => ?_) (fun i e hi => ?_) (fun w s hw => ?_) F29
    · rw [e29, su_k (by decide), f2.2 104 (by decide), e17, su_k (by decide), e9, su_eq]; exact v1 w s hw
    · rw [e29, su_k (by decide), f2.2 119 (by decide), e17, su_eq, e13, e9, su_k (by decide)]
      rw [hi] at r1
      exact r1.1
    · rw [e29, su_eq]; exact v2 w s hw
  intro v33 e33 _
  obtain ⟨S, eS⟩ : ∃ S, p_to (p_t K 7 l (p_to (p_t K 2 l st))) = S := ⟨_, rfl⟩
  rw [eS] at r29 fin
  cases S with
  | none =>
    have := r29.2.2.2.2
    exact ⟨fun _ => fin 0 (Or.inr ⟨rfl, fun e => by simp⟩), fun c => by omega⟩
  | some s =>
    obtain ⟨i, e⟩ := s
    obtain ⟨m1, m2, m3, m4, m5⟩ := r29
    refine ⟨fun c => by omega, fun _ => ?_⟩
    intro v36 e36 _ v39 e39 _
    refine ⟨fun c => fin 0 (Or.inr ⟨rfl, fun e' h => ?_⟩), fun c => fin 1 (Or.inl ⟨rfl, e, ?_⟩)⟩
    · have h := Prod.mk.inj (Option.some.inj h)
      omega
    · have : i = e := by omega
      rw [this]
end
