/-! ===== the reference: what is right is read also where more follows ===== -/
noncomputable section
variable {I J : sr_V} {nn fr mi : Nat} {K : Wt → Prop} {tl mk mm l : List Wt} {ms : List (List Wt)} {a b c y n S src : Int} {Q : Int → sr_V → Prop} {R : sr_V → Prop} {st : p_S} {w : Wt} {x i e p : Nat} {s : Nat × Nat}
/-- where one stands, with much behind it -/
def m_ry (I : sr_V) (fr i : Nat) (S : Int) : Prop := I 1000 57 = ((fr + i : Nat) : Int) ∧ I 1000 58 = S ∧ I 1000 59 = 0
theorem m_ry_su {f : Nat} {z : Int} (h : m_ry I fr i S) (hf : 60 ≤ f) : m_ry (su I 1000 f z) fr i S := ⟨by rw [su_k (by omega)]; exact h.1, by rw [su_k (by omega)]; exact h.2.1, by rw [su_k (by omega)]; exact h.2.2⟩
theorem s_u8 (hx : m_tk I mk K fr l) (hS : ((fr + l.length : Nat) : Int) ≤ S) (he : e ≤ l.length) (hp : p_8 l (some (i, e)) = some (b, s)) (h : m_ry I fr i S) (q : ∀ J, m_ry J fr (i + 1) S → m_fr [] [57, 58, 59] I J → Q b J) : rm_211 I Q := by
  obtain ⟨h1, h2, h3⟩ := h
  have hb := hx.2.1
  have hpd : i < e ∧ ((l[i]?).getD []).head? = some 1000 := by
    refine Decidable.byContradiction (fun g => ?_)
    rw [show p_8 l (some (i, e)) = none from if_neg g] at hp
    exact absurd hp (by simp)
  have ep : p_8 l (some (i, e)) = some (w_bv ((l[i]?).getD []), i + 1, e) := if_pos hpd
  obtain ⟨k1, k2⟩ := m_tk_8 hx (i := i) (by omega)
  have c2 := k1.mpr hpd.2
  obtain ⟨k3, k4⟩ := k2 c2
  rw [ep] at hp
  have hbv := (Prod.mk.inj (Option.some.inj hp)).1
  unfold rm_211
  intro v24 e24 _ v27 e27 _
  refine ⟨fun c => by omega, fun c => ?_⟩
  intro v30 e30 _
  refine ⟨by omega, by omega, ?_⟩
  intro v33 e33 _
  rw [e30, h1, Int.toNat_natCast] at e33
  refine ⟨fun _ => ?_, fun c => by omega⟩
  unfold rb_211_15
  intro v1 e1 _
  refine ⟨fun _ => ?_, fun c3 => by omega⟩
  intro v4 e4 _ I8 e8 v12 e12 _
  rw [e4, h1, sw_w_s (by omega) (by omega)] at e8
  have e12 : v12 = ((fr + i : Nat) : Int) + 1 := by rw [e12, e8, su_eq]
  rw [e12, sw_w_s (by omega) (by omega), show ((fr + i : Nat) : Int) + 1 - 1 = ((fr + i : Nat) : Int) by omega]
  refine ⟨by omega, by omega, ?_⟩
  intro v15 e15 _
  rw [Int.toNat_natCast, e8, su_f (by decide)] at e15
  have : v15 = b := by rw [e15, ← k3, hbv]
  rw [this]
  refine q I8 ⟨by rw [e8, su_eq]; omega, by rw [e8, su_k (by decide)]; exact h2, by rw [e8, su_k (by decide)]; exact h3⟩ ⟨fun g _ g2 => by rw [e8, su_f g2], fun f hf => by rw [e8, su_k (by simp at hf; omega)]⟩
theorem p_8_b (hx : m_tk I mk K fr l) (he : e ≤ l.length) (hp : p_8 l (some (i, e)) = some (b, s)) : 0 ≤ b ∧ b < 256 := by
  obtain ⟨_, h1, h2, h3⟩ := p_8_in hp
  obtain ⟨k1, k2⟩ := m_tk_8 hx (i := i) (by omega)
  have c2 := k1.mpr h2
  obtain ⟨k3, k4⟩ := k2 c2
  rw [h3, k3]
  exact ⟨k4, c2⟩
theorem s_u16 (hx : m_tk I mk K fr l) (hS : ((fr + l.length : Nat) : Int) ≤ S) (he : e ≤ l.length) (hp : p_16 l (some (i, e)) = some (b, s)) (h : m_ry I fr i S) (q : ∀ J, m_ry J fr (i + 2) S → m_fr [] [57, 58, 59] I J → Q b J) : rm_213 I Q := by
  unfold p_16 at hp
  rw [Option.bind_eq_some_iff] at hp
  obtain ⟨⟨a, s1⟩, h1, hp⟩ := hp
  rw [Option.map_eq_some_iff] at hp
  obtain ⟨⟨c, s2⟩, h2, hp⟩ := hp
  have hab : 256 * a + c = b := (Prod.mk.inj hp).1
  have e1' : s1 = (i + 1, e) := (p_8_in h1).1
  subst e1'
  obtain ⟨a0, a1⟩ := p_8_b hx he h1
  obtain ⟨c0, c1⟩ := p_8_b hx he h2
  unfold rm_213
  refine s_u8 hx hS he h1 h (fun J1 r1 f1 _ => ?_)
  refine s_u8 (m_tk_fr hx f1) hS he h2 r1 (fun J2 r2 f2 _ => ?_)
  rw [sw_or_16 a0 a1 c0 c1, hab]
  exact q J2 r2 (m_fr_trans f1 f2)
theorem s_t {so : Nat} (h9 : so ≤ 9) (hx : m_tk I mk K fr l) (hS : ((fr + l.length : Nat) : Int) ≤ S) (he : e ≤ l.length) (hp : p_t K so l (some (i, e)) = some (w, s)) (h : m_ry I fr i S) (q : ∀ z J, w_at mk z w → m_ry J fr (i + 1) S → m_fr [] [57, 58, 59] I J → Q z J) : rm_215 so I Q := by
  obtain ⟨h1, h2, h3⟩ := h
  have hb := hx.2.1
  have h45 := hx.2.2.1
  have hpd : i < e ∧ ((l[i]?).getD []).head? = some so ∧ K ((l[i]?).getD []) := by
    refine Classical.byContradiction (fun g => ?_)
    rw [show p_t K so l (some (i, e)) = none from if_neg g] at hp
    exact absurd hp (by simp)
  have ep : p_t K so l (some (i, e)) = some ((l[i]?).getD [], i + 1, e) := if_pos hpd
  obtain ⟨g1, g2⟩ := m_tk_at hx (i := i) (by omega)
  have tt := (m_tk_t hx (i := i) (by omega) h9).mpr hpd.2
  obtain ⟨t1, t2, t3⟩ := tt
  rw [ep] at hp
  have hw := (Prod.mk.inj (Option.some.inj hp)).1
  unfold m_vs at g1
  unfold rm_215
  intro v24 e24 _ v27 e27 _
  refine ⟨fun c => by omega, fun c => ?_⟩
  intro v30 e30 _
  refine ⟨by omega, by omega, ?_⟩
  intro v33 e33 _
  rw [e30, h1, Int.toNat_natCast] at e33
  refine ⟨fun c2 => by omega, fun c2 => ?_⟩
  intro v36 e36 _
  refine ⟨by omega, by omega, ?_⟩
  intro v39 e39 _
  rw [e36, h1, Int.toNat_natCast] at e39
  rw [e39, sw_w_s (by omega) (by omega)]
  refine ⟨by omega, by omega, ?_⟩
  intro v42 e42 _
  refine ⟨fun c3 => absurd (e42.trans t2) c3, fun c3 => ?_⟩
  intro v45 e45 _
  refine ⟨by omega, by omega, ?_⟩
  intro v48 e48 _
  rw [e45, h1, Int.toNat_natCast] at e48
  rw [e48, sw_w_s (by omega) (by omega)]
  refine ⟨by omega, by omega, ?_⟩
  intro v51 e51 _
  refine ⟨fun c4 => ?_, fun c4 => absurd (e51.symm.trans c4) t3⟩
  unfold rb_215_38
  intro v1 e1 _
  refine ⟨fun _ => ?_, fun c3 => by omega⟩
  intro v4 e4 _ I8 e8 v12 e12 _
  rw [e4, h1, sw_w_s (by omega) (by omega)] at e8
  have e12 : v12 = ((fr + i : Nat) : Int) + 1 := by rw [e12, e8, su_eq]
  rw [e12, sw_w_s (by omega) (by omega), show ((fr + i : Nat) : Int) + 1 - 1 = ((fr + i : Nat) : Int) by omega]
  refine ⟨by omega, by omega, ?_⟩
  intro v15 e15 _
  rw [Int.toNat_natCast, e8, su_f (by decide)] at e15
  rw [e15, sw_w_s (by omega) (by omega)]
  refine q _ I8 ?_ ⟨by rw [e8, su_eq]; omega, by rw [e8, su_k (by decide)]; exact h2, by rw [e8, su_k (by decide)]; exact h3⟩ ⟨fun g _ g2 => by rw [e8, su_f g2], fun f hf => by rw [e8, su_k (by simp at hf; omega)]⟩
  rw [← hw, ← g2]
  unfold w_sg
  rw [if_neg (by omega)]
  exact w_at_of (by omega) (by omega)
theorem s_h (hx : m_tk I mk K fr l) (hS : ((fr + l.length : Nat) : Int) ≤ S) (he : e ≤ l.length) (hp : p_h K l (some (i, e)) = some (w, s)) (h : m_ry I fr i S) (q : ∀ z J, w_az mk z w → m_ry J fr (i + 1) S → m_fr [] [57, 58, 59] I J → Q z J) : rm_327 I Q := by
  obtain ⟨h1, h2, h3⟩ := id h
  have hb := hx.2.1
  have hie : i < e := by
    obtain ⟨_, h4, _⟩ := p_h_in hp
    omega
  obtain ⟨g1, g2⟩ := m_tk_at hx (i := i) (by omega)
  have z0 : I 26 (fr + i) = 0 ↔ (l[i]?).getD [] = w_by 0 := by
    rw [← g2]
    constructor
    · intro h0; rw [h0]; rfl
    · intro h0
      have hd : ((l[i]?).getD []).head? = some 1000 := by rw [← g2, h0]; rfl
      obtain ⟨k1, k2⟩ := m_tk_8 hx (i := i) (by omega)
      have k3 := (k2 (k1.mpr hd)).1
      rw [← g2, h0] at k3
      have c5 : w_bv (w_by 0) = 0 := rfl
      omega
  unfold rm_327
  intro v8 e8 _ v11 e11 _
  refine ⟨fun c => by omega, fun c => ?_⟩
  intro v14 e14 _
  refine ⟨by omega, by omega, ?_⟩
  intro v17 e17 _
  rw [e14, h1, Int.toNat_natCast] at e17
  by_cases c0 : (l[i]?).getD [] = w_by 0
  · refine ⟨fun c => absurd (e17.trans (z0.mpr c0)) c, fun _ => ?_⟩
    rw [show p_h K l (some (i, e)) = some ([], i + 1, e) from if_pos ⟨hie, c0⟩] at hp
    have hw := (Prod.mk.inj (Option.some.inj hp)).1
    intro v20 e20 _ I24 e24
    rw [e20, h1, sw_w_s (by omega) (by omega)] at e24
    refine q 0 I24 (Or.inl ⟨rfl, hw.symm⟩) ⟨by rw [e24, su_eq]; omega, by rw [e24, su_k (by decide)]; exact h2, by rw [e24, su_k (by decide)]; exact h3⟩ ⟨fun g _ g2 => by rw [e24, su_f g2], fun f hf => by rw [e24, su_k (by simp at hf; omega)]⟩
  · refine ⟨fun _ => ?_, fun c => absurd (z0.mp (e17.symm.trans c)) c0⟩
    rw [show p_h K l (some (i, e)) = p_t K 1 l (some (i, e)) from if_neg (fun g => c0 g.2)] at hp
    unfold rb_327_19
    exact s_t (so := 1) (by decide) hx hS he hp h (fun z J hz rJ fJ _ => q z J (Or.inr hz) rJ fJ)
end
