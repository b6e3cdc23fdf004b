/-! ===== the class: the Reader's readContent ===== -/
noncomputable section
section
variable {H Z X Y : sw_H} {nn nm r ra g m : Nat} {K K' S : Wt → Prop} {tl mk mm l : List Wt} {a b c x y n cn cs N U M : Int} {Q : sw_H → Prop} {P : Int → sw_H → Prop} {A B : List Nat} {w : Wt} {st : p_S}
theorem c_rd_k {f : Nat} {z : Int} (h : c_rd H l st) (hf : 5 ≤ f) : c_rd (sw_si H 18 f z) l st := by
  have e : ∀ k, k < 5 → sw_iv (sw_si H 18 f z) 18 k = sw_iv H 18 k := fun k hk => c_si_f (by omega)
  cases st with
  | none =>
    obtain ⟨h1, h2, h3, h4, h5⟩ := h
    exact ⟨by rw [e 2 (by omega)]; exact h1, by rw [e 2 (by omega)]; exact h2, by rw [e 3 (by omega)]; exact h3, by rw [e 3 (by omega)]; exact h4, by rw [e 4 (by omega)]; exact h5⟩
  | some s =>
    obtain ⟨i, e'⟩ := s
    obtain ⟨h1, h2, h3, h4, h5⟩ := h
    exact ⟨by rw [e 2 (by omega)]; exact h1, by rw [e 3 (by omega)]; exact h2, by rw [e 4 (by omega)]; exact h3, h4, h5⟩
theorem p_o_le {i e i1 en : Nat} (h : p_o l (some (i, e)) = some (i1, en)) : en ≤ e := by
  unfold p_o p_r at h
  rw [Option.map_eq_some_iff] at h
  obtain ⟨⟨x1, x2, x3⟩, h1, h2⟩ := h
  rw [Option.bind_eq_some_iff] at h1
  obtain ⟨⟨z, i2, e2⟩, h3, h4⟩ := h1
  have a := p_16_le h3
  have h4 : (if (i2 : Int) + z ≤ (e2 : Int) then some (i2 + z.toNat, i2, e2) else none) = some (x1, x2, x3) := h4
  have h2 : (x2, x1) = (i1, en) := h2
  rw [Prod.mk.injEq] at h2
  by_cases c : (i2 : Int) + z ≤ (e2 : Int)
  · rw [if_pos c] at h4
    have h4 := Option.some.inj h4
    rw [Prod.mk.injEq, Prod.mk.injEq] at h4
    omega
  · rw [if_neg c] at h4
    exact absurd h4 (by simp)
/-- what stands in the Reader behind a CONTENT -/
def c_co (H : sw_H) (mk : List Wt) : p_C → Prop
  | (kd, (_, (m, k, p, so, ph, g0), _), _) => sw_iv H 18 8 = kd ∧ (kd ≠ 3 → c_lf H mk 22 m k p so ph ∧ w_at mk (sw_iv H 22 5) g0)
theorem c_readContent (hV : c_V H mk nn K tl cn cs) (hml : mk.length ≤ 999999999) (hs : c_rs H mk r ra l) (r22 : r ≠ 22) (ra22 : ra ≠ 22) (rv15 : sw_rv H 18 15 = 22) (t22 : sw_ty H 22 = 48) (h : c_rd H l st) (q : ∀ G, c_rd G l (p_to (p_ct K l st)) → (∀ v s, p_ct K l st = some (v, s) → c_co G mk v) → c_fr [18, 22] H G → (∀ f, 5 ≤ f → f ≠ 8 → sw_iv G 18 f = sw_iv H 18 f) → Q G) : wm_346 18 H Q := by
  have up : ∀ {A B : sw_H}, c_fr [18] A B → c_fr [18, 22] A B := fun {A B} f => c_fr_sub f (by simp)
  have VV : ∀ {B : sw_H}, c_fr [18, 22] H B → c_V B mk nn K tl cn cs := fun {B} f => c_V_fr hV f (fun a ha => by simp at ha; unfold c_fix; omega)
  have SS : ∀ {B : sw_H}, c_fr [18, 22] H B → c_rs B mk r ra l ∧ sw_rv B 18 15 = 22 ∧ sw_ty B 22 = 48 := fun {B} f => ⟨c_rs_fr2 hs f r22 ra22, by rw [f.2.2.2.2.1]; exact rv15, by rw [f.2.2.1]; exact t22⟩
  unfold wm_346
  refine c_u8 hV.1 hs h (fun z1 J1 r1 v1 _ _ g1 n1 _ _ => ?_)
  intro H6 e6
  have r6 : c_rd H6 l (p_to (p_8 l st)) := by rw [e6]; exact c_rd_k r1 (by omega)
  have f6 : c_fr [18, 22] H H6 := c_fr_t (up g1) (by rw [e6]; exact c_fr_sub (c_fr_si _ _ _ _) (by simp))
  have k6 : sw_iv H6 18 8 = z1 := by rw [e6, c_si_eq]
  have n6 : ∀ f, 5 ≤ f → f ≠ 8 → sw_iv H6 18 f = sw_iv H 18 f := fun f h5 h8 => by rw [e6, c_si_f h8, n1 f h5]
  clear e6
  obtain ⟨s6, rv6, ty6⟩ := SS f6
  obtain ⟨p1, p2, p3, p4⟩ := p_ct_st (K := K) v1
  intro v9 e9 _
  rw [k6] at e9
  refine ⟨fun c1 => ?_, fun c1 => ?_⟩
  · intro v12 e12 _
    rw [k6] at e12
    refine ⟨fun c2 => ?_, fun c2 => ?_⟩
    · intro v15 e15 _
      rw [k6] at e15
      refine ⟨fun c3 => ?_, fun c3 => ?_⟩
      · intro H18 e18
        obtain ⟨b1, b2, b3, b4⟩ := c_rd_b r6
        obtain ⟨w1, w2⟩ := c_rd_wrong b1 b2 b3 b4 e18
        have e := p4 (by omega) (by omega) (by omega)
        exact q H18 (by rw [e]; exact w1) (fun v s hv => by rw [e] at hv; exact absurd hv (by simp)) (c_fr_t f6 (up w2)) (fun f h5 h8 => by rw [e18, c_si_f (by omega), n6 f h5 h8])
      · refine c_u16 (VV f6).1 s6 r6 (fun z3 J3 r3 v3 _ _ g3 n3 _ _ => ?_)
        have e := p3 (by omega)
        refine q J3 (by rw [e, p_to_map]; exact r3) (fun v s hv => ?_) (c_fr_t f6 (up g3)) (fun f h5 h8 => by rw [n3 f h5, n6 f h5 h8])
        rw [e, Option.map_eq_some_iff] at hv
        obtain ⟨x, _, hv⟩ := hv
        have hv := (Prod.mk.inj hv).1
        rw [← hv]
        exact ⟨by rw [n3 8 (by omega), k6]; omega, fun h => absurd rfl h⟩
    · refine c_readLeaf (src := 2) (VV f6) hml s6 r22 ra22 rv6 ty6 (by omega) r6 (fun J3 r3 v3 g3 n3 _ => ?_)
      have e := p2 (by omega)
      refine q J3 (by rw [e, p_to_map]; exact r3) (fun v s hv => ?_) (c_fr_t f6 g3) (fun f h5 h8 => by rw [n3 f h5, n6 f h5 h8])
      rw [e, Option.map_eq_some_iff] at hv
      obtain ⟨⟨⟨m, k, p, so, ph, g0⟩, s'⟩, hx, hv⟩ := hv
      have hv := (Prod.mk.inj hv).1
      rw [← hv]
      exact ⟨by rw [n3 8 (by omega), k6]; omega, fun _ => v3 m k p so ph g0 s' hx⟩
  · obtain ⟨b1, b2, b3, b4⟩ := c_rd_b r6
    refine c_openRow (VV f6) s6 r6 (fun J2 r2 g2 n2 _ _ => ?_)
    have f2 := c_fr_t f6 (up g2)
    obtain ⟨s2, rv2, ty2⟩ := SS f2
    refine c_readPackage (VV f2) hml s2 r22 ra22 rv2 ty2 r2 (fun J3 r3 v3 g3 n3 _ => ?_)
    have f3 := c_fr_t f2 g3
    have e := p1 (by omega)
    obtain ⟨pa1, pa2⟩ := p_add_st K l (p_to (p_8 l st))
    obtain ⟨en, een⟩ : ∃ en : Nat, sw_iv H6 18 3 = en := ⟨(sw_iv H6 18 3).toNat, by omega⟩
    refine c_closeRow (e := en) r3 (by omega) (fun i f hf => ?_) een (fun J4 r4 g4 n4 _ => ?_)
    · obtain ⟨S, eS⟩ : ∃ S, p_to (p_8 l st) = S := ⟨_, rfl⟩
      rw [eS] at hf r6
      cases S with
      | none => exact absurd hf (by simp [p_o, p_r, p_16, p_8, p_to, p_pk])
      | some s =>
        obtain ⟨i0, e0⟩ := s
        have h0 : sw_iv H6 18 3 = (e0 : Int) := r6.2.1
        obtain ⟨o, eo⟩ : ∃ o, p_o l (some (i0, e0)) = o := ⟨_, rfl⟩
        rw [eo] at hf
        cases o with
        | none => exact absurd hf (by simp [p_8, p_to, p_pk])
        | some o =>
          obtain ⟨i1, e1⟩ := o
          have l1 := p_o_le eo
          obtain ⟨pk, ek⟩ : ∃ pk, p_pk K l (some (i1, e1)) = pk := ⟨_, rfl⟩
          rw [ek] at hf
          cases pk with
          | none => exact absurd hf (by simp [p_to])
          | some pk =>
            obtain ⟨pv, ps⟩ := pk
            have l2 := p_pk_e ek
            have hf : some ps = some (i, f) := hf
            have hf := Option.some.inj hf
            rw [hf] at l2
            have l2 : f = e1 := l2
            omega
    · have i22 : ∀ f, sw_iv J4 22 f = sw_iv J3 22 f := fun k => by rw [g4.2.2.2.2.2 22 (by simp)]
      refine q J4 ?_ (fun v s hv => ?_) (c_fr_t f3 (up g4)) (fun f h5 h8 => by rw [n4 f h5, n3 f h5, n2 f h5, n6 f h5 h8])
      · rw [e]
        obtain ⟨S, eS⟩ : ∃ S, p_to (p_8 l st) = S := ⟨_, rfl⟩
        rw [eS] at pa1 pa2 r4 r6 ⊢
        cases S with
        | none => rw [pa2 rfl]; exact r4
        | some s =>
          obtain ⟨i0, e0⟩ := s
          have h0 : sw_iv H6 18 3 = (e0 : Int) := r6.2.1
          have : en = e0 := by omega
          subst this
          rw [pa1 i0 en rfl]
          exact r4
      · rw [e] at hv
        unfold p_add at hv
        rw [Option.bind_eq_some_iff] at hv
        obtain ⟨⟨x1, x2, x3⟩, hr, hv⟩ := hv
        rw [Option.bind_eq_some_iff] at hv
        obtain ⟨⟨⟨ik, ⟨m, k, p, so, ph, g0⟩, g⟩, s'⟩, hp, hv⟩ := hv
        have eo : p_o l (p_to (p_8 l st)) = some (x2, x1) := by unfold p_o; rw [hr]; rfl
        have hv : (if s'.1 = x1 then some (((1 : Int), (ik, (m, k, p, so, ph, g0), g), (0 : Int)), s'.1, x3) else none) = some (v, s) := hv
        by_cases cc : s'.1 = x1
        · rw [if_pos cc] at hv
          have hv := (Prod.mk.inj (Option.some.inj hv)).1
          rw [← hv]
          obtain ⟨y1, y2⟩ := v3 ik m k p so ph g0 g s' (by rw [eo]; exact hp)
          exact ⟨by rw [n4 8 (by omega), n3 8 (by omega), n2 8 (by omega), k6]; omega, fun _ => ⟨c_lf_iv y1 (fun f _ => i22 f) (w_le_refl _), by rw [i22]; exact y2⟩⟩
        · rw [if_neg cc] at hv
          exact absurd hv (by simp)
end
end
