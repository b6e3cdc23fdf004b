/-! ===== the reference: text with a size to be filled in; resolveSide ===== -/
noncomputable section
variable {I I0 J X : sr_V} {nn s u k h us : Nat} {K K' : Wt → Prop} {tl mk mm l0 l1 l2 lw : List Wt} {a b c y n m : Int} {Q : Int → sr_V → Prop} {R : sr_V → Prop} {x i e l : Nat} {T T0 T1 T' T'' : w_T} {P : Nat → Nat → Prop} {S : Wt → Prop} {w ls n0 : Wt} {kf : Nat → Wt} {C : Nat → Int}
/-- text l0, two signs to be filled in, text l1 -/
def m_th (I : sr_V) (mk : List Wt) (us : Nat) (l0 l1 : List Wt) : Prop := I 1000 23 = us ∧ I 1000 110 = ((us + l0.length + 2 + l1.length : Nat) : Int) ∧ m_at mk.length (w_d mk) (I 26) us l0 ∧ m_at mk.length (w_d mk) (I 26) (us + l0.length + 2) l1 ∧ us ≤ 360000
theorem m_at_ap2 {n : Int} {d : Nat → Wt} {f : Nat → Int} {p : Nat} (h1 : m_at n d f p l1) (h2 : m_at n d f (p + l1.length) l2) : m_at n d f p (l1 ++ l2) := by
  intro k w hk
  rcases Nat.lt_or_ge k l1.length with c | c
  · rw [List.getElem?_append_left c] at hk
    exact h1 k w hk
  · rw [List.getElem?_append_right c] at hk
    have := h2 (k - l1.length) w hk
    rw [show p + l1.length + (k - l1.length) = p + k by omega] at this
    exact this
theorem r_flush0 {p : Nat} (h : m_rr I mk l2) (e110 : I 1000 110 = (p : Nat)) (hl : l2.length ≤ 6000) (hb : p + l2.length ≤ 362000) (q : ∀ J, J 1000 110 = ((p + l2.length : Nat) : Int) → m_at mk.length (w_d mk) (J 26) p l2 → m_rr J mk [] → m_gp (fun f k => (f = 26 ∧ p ≤ k ∧ k < p + l2.length) ∨ f = 55 ∨ (f = 1000 ∧ (k = 56 ∨ k = 110))) I J → R J) : rm_78 I R := by
  have ln := m_rr_len h
  refine m_flush h.1 (by omega) (by omega) (by omega) (fun J f e56 e110' hq => ?_)
  refine q J (by rw [e110', e110, ln]; omega) ?_ (m_rr_0 e56) ?_
  · intro k w hk
    obtain ⟨h0, h1, h2⟩ := h
    have kl : k < l2.length := by
      rcases Nat.lt_or_ge k l2.length with c | c
      · exact c
      · rw [List.getElem?_eq_none c] at hk
        exact absurd hk (by simp)
    have er : (m_row I)[k]? = some (I 55 k) := by
      unfold m_row
      rw [List.getElem?_map, List.getElem?_range (by omega)]
      rfl
    have g2 : l2[k]? = some (w_sg (w_d mk) (I 55 k)) := by rw [← h2, List.getElem?_map, er]; rfl
    rw [hk] at g2
    rw [hq, if_pos (by omega), show (((p + k : Nat) : Int) - I 1000 110).toNat = k by omega]
    exact ⟨h1 _ (List.mem_of_getElem? er), (Option.some.inj g2).symm⟩
  · intro g i hp
    by_cases c26 : g = 26
    · subst c26
      rw [hq, if_neg (by omega)]
    · by_cases c1000 : g = 1000
      · subst c1000
        exact f.2 i (by simp; omega)
      · rw [f.1 g (by simpa using c26) c1000]
theorem r_flushH (h : m_rr I mk l2) (t : m_th I mk us l0 l1) (hl : l0.length + l1.length + l2.length ≤ 1900) (q : ∀ J, m_th J mk us l0 (l1 ++ l2) → m_rr J mk [] → m_gp (m_pf us) I J → R J) : rm_78 I R := by
  obtain ⟨t1, t2, t3, t4, t5⟩ := t
  refine r_flush0 h t2 (by omega) (by omega) (fun J e1 e2 e3 g => ?_)
  refine q J ⟨by rw [g 1000 23 (by omega)]; exact t1, by rw [e1, List.length_append]; omega, m_at_cg t3 (fun k hk => g 26 _ (by omega)), m_at_ap2 (m_at_cg t4 (fun k hk => g 26 _ (by omega))) e2, t5⟩ e3 (m_gp_sub g (fun f k p => by unfold m_pf; omega))
theorem m_th_gp (h : m_th I mk us l0 l1) (f : m_gp P I J) (p : ∀ f k, P f k → f ≠ 26 ∧ (f = 1000 → k ≠ 23 ∧ k ≠ 110)) : m_th J mk us l0 l1 := by
  obtain ⟨t1, t2, t3, t4, t5⟩ := h
  exact ⟨by rw [f 1000 23 (fun c => (p _ _ c).2 rfl |>.1 rfl)]; exact t1, by rw [f 1000 110 (fun c => (p _ _ c).2 rfl |>.2 rfl)]; exact t2, m_at_cg t3 (fun k _ => f 26 _ (fun c => (p _ _ c).1 rfl)), m_at_cg t4 (fun k _ => f 26 _ (fun c => (p _ _ c).1 rfl)), t5⟩
theorem m_th_le (h : m_th I mk us l0 l1) (hl : w_le mk mm) : m_th I mm us l0 l1 := ⟨h.1, h.2.1, m_at_le h.2.2.1 hl, m_at_le h.2.2.2.1 hl, h.2.2.2.2⟩
theorem m_th_p2 (h : m_th I mk us l0 l1) (f : m_gp m_p2 I J) : m_th J mk us l0 l1 := m_th_gp h f (fun f k p => by unfold m_p2 at p; omega)
theorem m_th_of (t : m_tx I mk us l0) : m_th (su I 1000 110 ((us + l0.length + 2 : Nat) : Int)) mk us l0 [] := by
  obtain ⟨t1, t2, t3, t4⟩ := t
  exact ⟨by rw [su_k (by decide)]; exact t1, by rw [su_eq]; rfl, by rw [su_f (by decide)]; exact t3, (fun k w hk => by cases hk), t4⟩
/-- the size is filled in -/
theorem m_th_fill {p : Nat} {z : Int} (ep : p = us + l0.length) (t : m_th I mk us l0 l1) (hz : z = (l1.length : Nat)) (hl : l1.length < 65536) : m_tx (su (su I 26 p (sw_shr z 8)) 26 (p + 1) (sw_and z 255)) mk us (l0 ++ (w_b16 (l1.length : Nat) ++ l1)) ∧ m_gp (m_pf us) I (su (su I 26 p (sw_shr z 8)) 26 (p + 1) (sw_and z 255)) := by
  obtain ⟨t1, t2, t3, t4, t5⟩ := t
  have e1 : sw_shr z 8 = ((l1.length / 256 : Nat) : Int) := by
    rw [hz, sw_shr_k (k := 8) (by unfold sw_c; omega) (by decide) (by decide)]
    omega
  have e2 : sw_and z 255 = ((l1.length % 256 : Nat) : Int) := by rw [hz, sw_and_255]; omega
  rw [e1, e2]
  have at26 : ∀ k, k ≠ p → k ≠ p + 1 → su (su I 26 p ((l1.length / 256 : Nat) : Int)) 26 (p + 1) ((l1.length % 256 : Nat) : Int) 26 k = I 26 k := fun k h1 h2 => by rw [su_k h2, su_k h1]
  refine ⟨⟨by rw [su_f (by decide), su_f (by decide)]; exact t1, ?_, ?_, t5⟩, fun f k hn => ?_⟩
  · rw [su_f (by decide), su_f (by decide), t2, List.length_append, List.length_append]
    have : (w_b16 (l1.length : Nat)).length = 2 := rfl
    omega
  · refine m_at_ap2 (m_at_cg t3 (fun k hk => at26 _ (by omega) (by omega))) ?_
    have b0 : m_at mk.length (w_d mk) (su (su I 26 p ((l1.length / 256 : Nat) : Int)) 26 (p + 1) ((l1.length % 256 : Nat) : Int) 26) (us + l0.length) (w_b16 (l1.length : Nat)) := by
      intro k w hk
      unfold w_b16 at hk
      match k, hk with
      | 0, hk =>
        cases hk
        have e0 : us + l0.length + 0 = p := by omega
        rw [e0, su_k (by omega), su_eq]
        have : ((l1.length / 256 : Nat) : Int) = (l1.length : Int) / 256 % 256 := by omega
        rw [this]
        exact w_sg_byte (by omega) (by omega)
      | 1, hk =>
        cases hk
        rw [← ep, su_eq]
        have : ((l1.length % 256 : Nat) : Int) = (l1.length : Int) % 256 := by omega
        rw [this]
        exact w_sg_byte (by omega) (by omega)
      | k + 2, hk => cases hk
    refine m_at_ap2 b0 ?_
    have : (w_b16 (l1.length : Nat)).length = 2 := rfl
    rw [this]
    exact m_at_cg t4 (fun k hk => at26 _ (by omega) (by omega))
  · unfold m_pf at hn
    rw [su_at, if_neg (by omega), su_at, if_neg (by omega)]
theorem r_flushTermH (hL : m_L I mk nn K tl) (hm : mk.length ≤ 44999) (t : m_th I mk us l0 l1) (ha : w_at mk a w) (hl : l0.length + l1.length ≤ 1800) (q : ∀ J, m_L J mk nn K tl → m_th J mk us l0 (l1 ++ [w]) → m_rr J mk [] → m_gp (m_pf us) I J → R J) : rm_80 a I R := by
  unfold rm_80
  intro I2 e2
  obtain ⟨L2, r2, f2⟩ := r_rs0 hL e2
  refine r_term r2 (by simp) hm ha (fun J3 r3 f3 => ?_)
  have f13 := m_fr_trans f2 f3
  have L3 := m_f0_L hL f13
  have g13 : m_gp (m_pf us) I J3 := m_gp_sub (m_fr_gp f13) (fun f k p => by simp at p; unfold m_pf; omega)
  refine r_flushH r3 (m_th_p2 t (m_f0_gp f13)) (by simp; omega) (fun J4 t4 r4 g4 => ?_)
  exact q J4 (m_L_pf L3 g4) t4 r4 (m_gp_trans g13 g4)
/-- the resolution of the other side, without leaves that are added -/
def w_keep (msk : Int) (y : Nat) : Bool := decide (¬ (y % 2 = 0 ∧ w_bit msk (y / 2) = 1))
def w_rq (T : w_T) (msk : Int) (l k : Nat) : List Nat := (w_rs T k (t_si l k)).filter (w_keep msk)
theorem w_uml_lt {z : Int} {y : Nat} : ∀ k, y ∈ w_uml z k → y < 2 * k
  | 0, h => by unfold w_uml at h; simp at h
  | k + 1, h => by
    rw [w_uml_s, List.mem_append] at h
    rcases h with h | h
    · have := w_uml_lt k h; omega
    · split at h
      · rw [List.mem_singleton] at h; omega
      · cases h
theorem w_rs_lt (ht : t_ok T) : ∀ (h x : Nat), w_h x = h → x + 2 ^ h ≤ t_w T → ∀ y ∈ w_rs T h x, y < 32
  | 0, x, e, hx, y, hy => by
    have w31 := t_w_4 ht.1
    have hp : 0 < 2 ^ 0 := by decide
    unfold w_rs at hy
    split at hy
    · cases hy
    · rcases List.mem_cons.mp hy with c | c
      · omega
      · have := w_uml_lt 16 c; omega
  | h + 1, x, e, hx, y, hy => by
    have w31 := t_w_4 ht.1
    have hp : 0 < 2 ^ (h + 1) := Nat.two_pow_pos _
    have hp2 : 2 ^ (h + 1) = 2 * 2 ^ h := by rw [Nat.pow_succ]; omega
    unfold w_rs at hy
    split at hy
    · obtain ⟨k1, k2, k3⟩ := w_h_kid (by omega) e
      rcases List.mem_append.mp hy with c | c
      · exact w_rs_lt ht h _ k2 (by omega) y c
      · exact w_rs_lt ht h _ k3 (by omega) y c
    · rcases List.mem_cons.mp hy with c | c
      · omega
      · have := w_uml_lt 16 c; omega
end
