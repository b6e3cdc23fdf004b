/-! ===== changes: what is listed; the reference reads one of the list ===== -/
noncomputable section
/-- a change: content, leaf of who proposes, HASH (or nothing) -/
abbrev w_Ch : Type := p_C × Int × Wt
def h_lf (c : w_Ch) : p_L := c.1.2.1.2.1
def h_go (c : w_Ch) : Int := if c.1.1 = 1 then (h_lf c).1 else if c.1.1 = 2 then c.2.1 else c.1.2.2
def h_rm (L : List w_Ch) (l : Int) : Prop := ∃ c, c ∈ L ∧ c.1.1 = 3 ∧ h_go c = l
def h_hl (T : w_T) (g : Int) : Prop := 0 ≤ g ∧ g < ((2 ^ t_dp T : Nat) : Int) ∧ t_ky T (2 * g.toNat) ≠ []
def h_ar (T : w_T) (L P : List w_Ch) (c : w_Ch) : Prop := w_pks c.1.2.1 ∧ (h_lf c).2.1 ≠ c.1.2.1.1 ∧ (∀ l : Nat, l < 2 ^ t_dp T → t_ky T (2 * l) ≠ [] → t_ow T l = (h_lf c).1 → h_rm L l) ∧ ∀ d ∈ P, d.1.1 = 1 → h_go d ≠ h_go c
def h_cr (T : w_T) (com : Int) (P : List w_Ch) (c : w_Ch) : Prop := h_go c ≠ com ∧ h_hl T (h_go c) ∧ (∀ d ∈ P, d.1.1 ≠ 1 → h_go d ≠ h_go c) ∧ (c.1.1 = 3 ∨ ((h_lf c).1 = t_ow T (h_go c).toNat ∧ w_lfs (h_lf c) (h_go c)))
def h_it (T : w_T) (L : List w_Ch) (com : Int) (P : List w_Ch) (c : w_Ch) : Prop := (c.1.1 = 1 → h_ar T L P c) ∧ (c.1.1 ≠ 1 → h_cr T com P c)
def h_all (T : w_T) (L : List w_Ch) (com : Int) : Prop := ∀ k c, L[k]? = some c → h_it T L com (L.take k) c
def p_cok (v : p_C) : Prop := (v.1 = 1 ∨ v.1 = 2 ∨ v.1 = 3) ∧ (v.1 ≠ 3 → t_lfok v.2.1.2.1) ∧ (v.1 = 1 → v.2.1.2.1.2.2.2.1 = 1) ∧ (v.1 = 2 → v.2.1.2.1.2.2.2.1 = 2) ∧ 0 ≤ v.2.2 ∧ v.2.2 < 65536
section
variable {K K' : Wt → Prop} {l : List Wt} {i e : Nat} {s : Nat × Nat} {src : Int} {f : p_L} {v : p_C}
theorem p_lf_ok (hvl : w_vl l) (he : e ≤ l.length) (h : p_lf K src l (some (i, e)) = some (f, s)) : t_lfok f ∧ (0 < src → f.2.2.2.1 = src) := by
  obtain ⟨m, k, p, so, ph, g⟩ := f
  obtain ⟨x1, x2, x3, x4, x5, x6, y1, y2, y3, y4, y5, y6⟩ := p_lf_ix h
  obtain ⟨z1, z2, z3, z4⟩ := p_lf_sl hvl he h
  refine ⟨⟨z3, z4, x3, x4, x5, ?_⟩, x6⟩
  intro c
  have := (p_t_in y2).2.2.2.1
  have c : k = [] := c
  rw [c] at this
  cases this
theorem p_ct_ok (hvl : w_vl l) (he : e ≤ l.length) (h : p_ct K l (some (i, e)) = some (v, s)) : p_cok v := by
  obtain ⟨kd, ⟨ik, lf, g⟩, n⟩ := v
  obtain ⟨_, x2, hx⟩ := p_ct_ix h
  rcases hx with ⟨rfl, es, _, hp, rfl⟩ | ⟨rfl, es, hp, _, _, rfl⟩ | ⟨rfl, es, hp, _, rfl, _⟩
  · have e2 : i + 12 ≤ l.length := by rw [es] at x2; exact Nat.le_trans x2 he
    obtain ⟨_, _, _, _, hq, _⟩ := p_pk_ix hp
    obtain ⟨a1, a2⟩ := p_lf_ok hvl e2 hq
    exact ⟨Or.inl rfl, fun _ => a1, fun _ => a2 (by decide), fun c => absurd c (by decide : ¬ (1 : Int) = 2), Int.le_refl 0, (by decide : (0 : Int) < 65536)⟩
  · obtain ⟨a1, a2⟩ := p_lf_ok hvl he hp
    exact ⟨Or.inr (Or.inl rfl), fun _ => a1, fun c => absurd c (by decide : ¬ (2 : Int) = 1), fun _ => a2 (by decide), Int.le_refl 0, (by decide : (0 : Int) < 65536)⟩
  · obtain ⟨_, b1, b2, _⟩ := p_16_sl hvl he hp
    exact ⟨Or.inr (Or.inr rfl), fun c => absurd rfl c, fun c => absurd c (by decide : ¬ (3 : Int) = 1), fun c => absurd c (by decide : ¬ (3 : Int) = 2), b1, b2⟩
end
variable {I J X : sr_V} {nn fr mi s u k h : Nat} {K K' : Wt → Prop} {tl mk mm l : List Wt} {a b c y n S src m so com : Int} {Q : Int → sr_V → Prop} {R : sr_V → Prop} {x i e : Nat} {T T' T'' : w_T} {f : p_L} {L : List w_Ch} {d : w_Ch} {P : Nat → Nat → Prop}
def m_le (I : sr_V) (mk : List Wt) (K : Wt → Prop) (k : Nat) (c : w_Ch) : Prop := (∃ (fr : Nat) (l : List Wt) (i e : Nat) (s : Nat × Nat), m_tk I mk K fr l ∧ ((fr + l.length : Nat) : Int) ≤ I 1000 23 ∧ e ≤ l.length ∧ p_ct K l (some (i, e)) = some (c.1, s) ∧ I 77 k = ((fr + i : Nat) : Int)) ∧ I 78 k = c.2.1 ∧ I 79 k = c.1.1 ∧ I 80 k = h_go c ∧ p_cok c.1 ∧ (0 ≤ c.2.1 ∧ c.2.1 < 65536) ∧ w_az mk (I 81 k) c.2.2 ∧ I 82 k = (if c.2.2 = [] then 0 else 1)
def m_li (I : sr_V) (mk : List Wt) (K : Wt → Prop) (L : List w_Ch) : Prop := I 1000 76 = L.length ∧ L.length ≤ 1100 ∧ (0 ≤ I 1000 23 ∧ I 1000 23 ≤ 400000) ∧ ∀ k c, L[k]? = some c → m_le I mk K k c
theorem m_li_gp (h : m_li I mk K L) (g : m_gp P I J) (hP : ∀ f k, P f k → f ≠ 26 ∧ f ≠ 16 ∧ f ≠ 6 ∧ ¬ (77 ≤ f ∧ f ≤ 82) ∧ ¬ (f = 1000 ∧ (k = 76 ∨ k = 23))) : m_li J mk K L := by
  have ef : ∀ f, (f = 26 ∨ f = 16 ∨ f = 6 ∨ (77 ≤ f ∧ f ≤ 82)) → J f = I f := fun f hf => funext (fun k => g f k (fun c => by have := hP f k c; omega))
  have e76 : J 1000 76 = I 1000 76 := g 1000 76 (fun c => by have := hP _ _ c; omega)
  have e23 : J 1000 23 = I 1000 23 := g 1000 23 (fun c => by have := hP _ _ c; omega)
  unfold m_li at h ⊢
  rw [e76, e23]
  refine ⟨h.1, h.2.1, h.2.2.1, fun k c hk => ?_⟩
  have hh := h.2.2.2 k c hk
  unfold m_le m_tk at hh ⊢
  rw [e23, ef 26 (by omega), ef 16 (by omega), ef 6 (by omega), ef 77 (by omega), ef 78 (by omega), ef 79 (by omega), ef 80 (by omega), ef 81 (by omega), ef 82 (by omega)]
  exact hh
theorem m_tr_gp (h : m_tr I mk s T) (g : m_gp P I J) (p : ∀ f k, m_pl s f k → ¬ P f k) : m_tr J mk s T := by
  have w31 := t_w_4 h.1.1
  have e31 : J 31 s = I 31 s := g 31 s (p 31 s (Or.inl ⟨by omega, by omega, rfl⟩))
  have en : ∀ f x, 36 ≤ f → f ≤ 44 → x < t_w T → J f (31 * s + x) = I f (31 * s + x) := fun f x h1 h2 h3 => g f _ (p f _ (Or.inr ⟨h1, h2, by omega, by omega⟩))
  obtain ⟨h1, h2, h3, h4⟩ := h
  refine ⟨h1, e31.trans h2, fun x hx => ?_, fun k hk hne => ?_⟩
  · rw [en 36 x (by omega) (by omega) hx, en 37 x (by omega) (by omega) hx, en 38 x (by omega) (by omega) hx, en 39 x (by omega) (by omega) hx]
    exact h3 x hx
  · rw [en 40 _ (by omega) (by omega) hk, en 43 _ (by omega) (by omega) hk, en 41 _ (by omega) (by omega) hk, en 42 _ (by omega) (by omega) hk]
    exact h4 k hk hne
/-- what reading and checking touch -/
def m_pd (f k : Nat) : Prop := f = 55 ∨ (f = 1000 ∧ 56 ≤ k ∧ k ≤ 75)
theorem m_pd_F (g : m_fr [] m_F1 I J) : m_gp m_pd I J := m_gp_sub (m_fr_gp g) (fun f k p => by
  rcases p with ⟨_, c⟩ | ⟨c, d⟩
  · cases c
  · simp only [m_F1, List.mem_cons, List.mem_nil_iff, or_false] at d
    unfold m_pd; omega)
theorem m_pd_5 (g : m_fr [55] [56] I J) : m_gp m_pd I J := m_gp_sub (m_fr_gp g) (fun f k p => by
  simp only [List.mem_cons, List.mem_nil_iff, or_false] at p
  unfold m_pd; omega)
theorem m_li_pd (h : m_li I mk K L) (g : m_gp m_pd I J) : m_li J mk K L := m_li_gp h g (fun f k p => by unfold m_pd at p; omega)
theorem m_tr_pd (h : m_tr I mk s T) (g : m_gp m_pd I J) : m_tr J mk s T := m_tr_gp h g (fun f k p q => by unfold m_pl at p; unfold m_pd at q; omega)
theorem m_L_pd (h : m_L I mk nn K tl) (g : m_gp m_pd I J) : m_L J mk nn K tl := m_L_gp h g (fun f k p => by unfold m_pd at p; omega)
theorem m_me_pd (h : m_me I mk) (g : m_gp m_pd I J) : m_me J mk := m_me_gp h g (fun f k p => by unfold m_pd at p; omega)
theorem r_readL (hli : m_li I mk K L) (hk : L[k]? = some d) (q : ∀ (J : sr_V) (fr : Nat) (l : List Wt) (i e : Nat) (s : Nat × Nat), m_tk J mk K fr l → e ≤ l.length → p_ct K l (some (i, e)) = some (d.1, s) → m_co J mk fr s d.1 → J 1000 74 = ((fr + i : Nat) : Int) → J 1000 57 = ((fr + s.1 : Nat) : Int) → m_fr [] m_F1 I J → R J) : rm_190 k I R := by
  obtain ⟨⟨fr, l, i, e, s, h1, h2, h3, h4, h5⟩, _⟩ := hli.2.2.2 k d hk
  have hlt : k < L.length := by
    rcases Nat.lt_or_ge k L.length with g | g
    · exact g
    · rw [List.getElem?_eq_none g] at hk; cases hk
  have := hli.2.1
  refine r_readListed h1 hli.2.2.1 h2 (by omega) h5 h3 h4 (fun J hc h74 h57 hf => q J fr l i e s ?_ h3 h4 hc h74 h57 hf)
  have ea : ∀ g, g ≠ 1000 → J g = I g := fun g hg => hf.1 g (by simp) hg
  unfold m_tk at h1 ⊢
  rw [ea 26 (by decide), ea 16 (by decide), ea 6 (by decide)]
  exact h1
theorem h_get (hk : k < L.length) : ∃ d, L[k]? = some d := ⟨L[k], List.getElem?_eq_getElem hk⟩
theorem r_rem_2 (hli : m_li I mk K L) (q1 : h_rm L a → Q 1 I) (q0 : ¬ h_rm L a → Q 0 I) : ∀ (n k : Nat), k ≤ L.length → L.length - k < n → (∀ j c, j < k → L[j]? = some c → ¬ (c.1.1 = 3 ∧ h_go c = a)) → rl_228_2 Q n a k I
  | 0, _, _, h, _ => by omega
  | n + 1, k, hk, hn, hp => by
    have b1 := hli.2.1
    unfold rl_228_2
    intro v e _
    rw [hli.1] at e
    subst e
    refine ⟨fun c => q0 ?_, fun c => ?_⟩
    · rintro ⟨w, hw, h1, h2⟩
      obtain ⟨j, hj⟩ := List.mem_iff_getElem?.mp hw
      have : j < L.length := by
        rcases Nat.lt_or_ge j L.length with g | g
        · exact g
        · rw [List.getElem?_eq_none g] at hj; cases hj
      exact hp j w (by omega) hj ⟨h1, h2⟩
    · obtain ⟨w, hw⟩ := h_get (L := L) (k := k) (by omega)
      obtain ⟨_, _, e79, e80, _⟩ := hli.2.2.2 k w hw
      have next : ¬ (w.1.1 = 3 ∧ h_go w = a) → rl_228_2 Q n a ((k + 1 : Nat) : Int) I := fun hx => r_rem_2 hli q1 q0 n (k + 1) (by omega) (by omega) (fun j c hj hc => by
        rcases Nat.lt_or_ge j k with g | g
        · exact hp j c g hc
        · rw [show j = k by omega, hw] at hc
          cases hc
          exact hx)
      refine ⟨by omega, by omega, ?_⟩
      intro v8 e8 _
      rw [Int.toNat_natCast, e79] at e8
      subst e8
      refine ⟨fun c3 => ?_, fun c3 => ⟨by omega, by omega, ?_⟩⟩
      · unfold rb_228_20
        intro y ey
        rw [sw_s1 (by omega)] at ey
        subst ey
        exact next (fun g => c3 g.1)
      · intro v11 e11 _
        rw [Int.toNat_natCast, e80] at e11
        subst e11
        refine ⟨fun c4 => ?_, fun c4 => q1 ⟨w, List.mem_of_getElem? hw, c3, c4⟩⟩
        unfold rb_228_20
        intro y ey
        rw [sw_s1 (by omega)] at ey
        subst ey
        exact next (fun g => c4 g.2)
theorem r_isRemoved (hli : m_li I mk K L) (q1 : h_rm L a → Q 1 I) (q0 : ¬ h_rm L a → Q 0 I) : rm_228 a I Q := by
  unfold rm_228
  exact ⟨L.length + 1, r_rem_2 hli q1 q0 _ 0 (by omega) (by omega) (fun j c hj => by omega)⟩
end
