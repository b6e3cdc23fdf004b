/-! ===== the reference: lookUp ===== -/
noncomputable section
variable {I I0 J X : sr_V} {nn us fr : Nat} {K K' : Wt → Prop} {tl mk l : List Wt} {Q : Int → sr_V → Prop} {R : sr_V → Prop} {m mi : Nat} {P : Nat → Nat → Prop} {h sg cf tg : Wt} {G : w_G} {ms : List (List Wt)} {C : List w_Ch} {c : w_Ch} {Lk : List (Wt × Nat)} {ep sd x2 : Int} {b e1 : Nat} {es : List p_E} {pt : Option p_P}
theorem d_kc (hkc : w_kc K ms Lk C) {j : Nat} (hj : C[j]? = some c) : ∃ k : Nat, Lk[j]? = some (c.2.2, k) := by
  have jl : j < C.length := (List.getElem?_eq_some_iff.mp hj).1
  obtain ⟨⟨h0, k0⟩, e0⟩ : ∃ y, Lk[j]? = some y := ⟨_, List.getElem?_eq_getElem (by rw [← hkc.1]; exact jl)⟩
  obtain ⟨p, ep, lf, v, sg, tg, _, _, hC⟩ := hkc.2 j k0 h0 e0
  rw [hj] at hC
  have hC := Option.some.inj hC
  rw [hC]
  exact ⟨k0, e0⟩
theorem d_kc_no (hkc : w_kc K ms Lk C) (hn : ∀ e ∈ Lk, e.1 ≠ h) : ∀ c ∈ C, c.2.2 ≠ h := fun c hc => by
  obtain ⟨j, hj⟩ := List.getElem?_of_mem hc
  obtain ⟨k, hk⟩ := d_kc hkc hj
  exact hn _ (List.mem_of_getElem? hk)
/-- the HASHes are all known -/
theorem r_lu_5 (hm : m < 24) (hg : m_gc I mk nn K' tl ms us m G Lk K) (hkc : w_kc K ms Lk C) (hes : m_es I mk fr es) (hl : es.length ≤ 1100) (q1 : (∀ x ∈ es, x.2.1 ≠ [] → ∃ c ∈ C, c.2.2 = x.2.1) → ∃ n31, rl_224_31 Q n31 m es.length 0 (su I 1000 76 0)) (q0 : d_un C es → Q 0 I) : ∀ (n k : Nat), k ≤ es.length → es.length - k < n → (∀ (j : Nat) (x : p_E), j < k → es[j]? = some x → x.2.1 ≠ [] → ∃ c ∈ C, c.2.2 = x.2.1) → rl_224_5 Q n m es.length k I
  | 0, _, _, h, _ => by omega
  | n + 1, k, hk, hn, inv => by
    unfold rl_224_5
    refine ⟨fun c => ?_, fun c => ?_⟩
    · intro I56 e56
      rw [e56]
      refine q1 (fun x hx hne => ?_)
      obtain ⟨j, hj⟩ := List.getElem?_of_mem hx
      have := (List.getElem?_eq_some_iff.mp hj).1
      exact inv j x (by omega) hj hne
    · have hkl : k < es.length := by omega
      obtain ⟨⟨pl, h, v⟩, hu⟩ : ∃ e, es[k]? = some e := ⟨es[k]'hkl, List.getElem?_eq_getElem hkl⟩
      obtain ⟨_, a2, a3, a4⟩ := hes.2 k pl h v hu
      have next : (h ≠ [] → ∃ c ∈ C, c.2.2 = h) → rb_224_24 Q (rl_224_5 Q n) m es.length k I := fun hh => by
        unfold rb_224_24
        intro y ey
        rw [sw_s1 (by omega)] at ey
        subst ey
        refine r_lu_5 hm hg hkc hes hl q1 q0 n (k + 1) (by omega) (by omega) (fun j x hj hx hne => ?_)
        rcases Nat.lt_or_ge j k with g | g
        · exact inv j x g hx hne
        · rw [show j = k by omega, hu] at hx
          have hx := Option.some.inj hx
          rw [← hx] at hne ⊢
          exact hh hne
      refine ⟨by omega, by omega, ?_⟩
      intro v63 e63 _
      rw [Int.toNat_natCast] at e63
      refine ⟨fun c1 => next (fun hne => ?_), fun c1 => ⟨by omega, by omega, ?_⟩⟩
      · rw [a4 hne] at e63
        omega
      · have hne : h ≠ [] := fun c2 => c1 (by rw [e63]; exact a3 c2)
        have a2 : w_at mk (I 81 k) h := by
          rcases a2 with ⟨_, c2⟩ | a2
          · exact absurd c2 hne
          · exact a2
        intro v66 e66 _
        rw [Int.toNat_natCast] at e66
        rw [← e66] at a2
        refine r_findProposal hm (m_L_nd hg.1.1) hg.2.2.1 a2 (fun i k' hi hfi => ?_) (fun hno => ?_)
        · intro _
          refine ⟨fun _ => next (fun _ => ?_), fun c3 => by omega⟩
          obtain ⟨p, ep, lf, v, sg, tg, _, _, hC⟩ := hkc.2 i k' h hi
          exact ⟨_, List.mem_of_getElem? hC, rfl⟩
        · intro _
          refine ⟨fun c3 => absurd rfl c3, fun _ => q0 ⟨_, List.mem_of_getElem? hu, hne, d_kc_no hkc hno⟩⟩
theorem r_lu_31 (hm : m < 24) (hg : m_gc I0 mk nn K' tl ms us m G Lk K) (hkc : w_kc K ms Lk C) (hcm : p_cm K l ep sd b e1 es pt sg cf tg) (hx : m_tk I0 mk K fr l) (hfr : ((fr + l.length : Nat) : Int) ≤ I0 1000 23) (h101 : I0 1000 101 = sd) (hes : m_es I0 mk fr es) (hl : es.length ≤ 1100) (hal : ∀ x ∈ es, x.2.1 ≠ [] → ∃ c ∈ C, c.2.2 = x.2.1) (q1 : ∀ J, m_li J mk K (d_L C sd es) → m_gp m_pga I0 J → Q 1 J) : ∀ (n k : Nat) {I : sr_V}, m_gp m_pga I0 I → m_li I mk K ((d_L C sd es).take k) → (∀ f j, f = 77 ∨ f = 81 ∨ f = 82 → k ≤ j → I f j = I0 f j) → k ≤ es.length → es.length - k < n → rl_224_31 Q n m es.length k I
  | 0, _, _, _, _, _, _, h => by omega
  | n + 1, k, I, gI, hli, same, hk, hn => by
    have hc := m_gc_gp hm hg gI
    have hb := hx.2.1
    have hus : I 1000 23 = us := hc.1.2.2.2
    have hus0 : I0 1000 23 = us := hg.1.2.2.2
    have us3 := m_wr_us hc.1
    have tkl := m_tk_vl hx
    unfold rl_224_31
    refine ⟨fun c => ?_, fun c => ?_⟩
    · rw [List.take_of_length_le (by rw [d_L_len]; omega)] at hli
      exact q1 I hli gI
    · have hkl : k < es.length := by omega
      obtain ⟨⟨pl, h, v⟩, hu⟩ : ∃ e, es[k]? = some e := ⟨es[k]'hkl, List.getElem?_eq_getElem hkl⟩
      obtain ⟨a1, a2, a3, a4⟩ := hes.2 k pl h v hu
      have i77 : I 77 k = ((fr + pl : Nat) : Int) := by rw [same 77 k (by omega) (Nat.le_refl _), a1]
      have i81 : I 81 k = I0 81 k := same 81 k (by omega) (Nat.le_refl _)
      have i82 : I 82 k = I0 82 k := same 82 k (by omega) (Nat.le_refl _)
      have lk : ((d_L C sd es).take k).length = k := by rw [List.length_take, d_L_len]; omega
      have next : ∀ {J : sr_V}, m_li J mk K ((d_L C sd es).take k ++ [d_get C sd (pl, h, v)]) → m_gp (m_pls ((d_L C sd es).take k).length) I J → ∀ y11, y11 = sw_w ((k : Int) + 1) → rl_224_31 Q n m es.length y11 J := fun {J} lJ gJ y ey => by
        rw [sw_s1 (by omega)] at ey
        subst ey
        rw [lk] at gJ
        have gJ2 : m_gp m_pga I J := m_gp_sub gJ (fun f k p => by unfold m_pls m_pd at p; unfold m_pga m_pdn m_pdl m_pd; omega)
        refine r_lu_31 hm hg hkc hcm hx hfr h101 hes hl hal q1 n (k + 1) (m_gp_trans gI gJ2) ?_ (fun f j hf hj => ?_) (by omega) (by omega)
        · rw [List.take_add_one, d_L_at hu]
          exact lJ
        · rw [gJ f j (by unfold m_pls m_pd; omega)]
          exact same f j hf (by omega)
      refine ⟨by omega, by omega, ?_⟩
      intro v36 e36 _
      rw [Int.toNat_natCast, i82] at e36
      refine ⟨fun c1 => ?_, fun c1 => ⟨by omega, by omega, ?_⟩⟩
      · have h0 : h = [] := by
          refine Decidable.byContradiction (fun c2 => ?_)
          rw [a4 c2] at e36
          omega
        subst h0
        obtain ⟨e, s, he, hct⟩ := p_cm_ct hcm (List.mem_of_getElem? hu)
        have hsd : 0 ≤ sd ∧ sd < 65536 := by
          have := p_16_sl tkl (Nat.le_refl _) hcm.2.2.2.1
          exact ⟨this.2.1, this.2.2.1⟩
        unfold rb_224_48
        refine ⟨fun c => absurd rfl c, fun _ => ⟨by omega, by omega, ?_⟩⟩
        intro v32 e32 _
        rw [Int.toNat_natCast, i77] at e32
        unfold rb_224_64
        refine ⟨fun c => absurd rfl c, fun _ => ?_⟩
        intro v22 e22 _
        have i101 : I 1000 101 = I0 1000 101 := gI 1000 101 (by unfold m_pga m_pdn m_pdl m_pd m_pl; omega)
        rw [i101, h101] at e22
        subst e22
        unfold rb_224_73
        refine ⟨by omega, by omega, ?_⟩
        intro v1 e1 _
        rw [Int.toNat_natCast, i81] at e1
        rw [← e1] at a2
        have hx' : m_tk I mk K fr l := by
          unfold m_tk at hx ⊢
          have ef : ∀ f, (f = 26 ∨ f = 16 ∨ f = 6) → I f = I0 f := fun f hf => funext (fun k => gI f k (by unfold m_pga m_pdn m_pdl m_pd m_pl; omega))
          rw [ef 26 (by omega), ef 16 (by omega), ef 6 (by omega)]
          exact hx
        refine r_list (v := v) (hs := []) hli (by rw [lk]; omega) hx' (by omega) he hct e32 hsd a2 (fun J lJ gJ => next ?_ gJ)
        rw [d_get_0 rfl]
        exact lJ
      · have hne : h ≠ [] := fun c2 => c1 (by rw [e36]; exact a3 c2)
        have a2 : w_at mk (I0 81 k) h := by
          rcases a2 with ⟨_, c2⟩ | a2
          · exact absurd c2 hne
          · exact a2
        intro v39 e39 _
        rw [Int.toNat_natCast, i81] at e39
        have a2' := a2
        rw [← e39] at a2'
        obtain ⟨c0, hc0, hc1⟩ := hal _ (List.mem_of_getElem? hu) hne
        refine r_findProposal hm (m_L_nd hc.1.1) hc.2.2.1 a2' (fun i mi hi hfi => ?_) (fun hno => absurd hc1 (d_kc_no hkc hno c0 hc0))
        intro _
        obtain ⟨p, ep', lf, v', sg', tg', g1, g2, g3⟩ := hkc.2 i mi h hi
        have ed : d_get C sd (pl, h, v) = (v', lf, h) := d_get_1 hne (d_find g3 rfl (fun j c' hj hj' => by
          obtain ⟨k', hk'⟩ := d_kc hkc hj'
          exact hfi j _ hj hk'))
        have milt : mi < ms.length := (List.getElem?_eq_some_iff.mp g1).1
        obtain ⟨m1, m2, m3, m4, m5⟩ := hc.1.2.2.1
        obtain ⟨b1, b2, b3, b4, b5⟩ := m5 mi p g1
        obtain ⟨r1, _, _, r4, r5, _, _⟩ := g2
        have tk := hc.2.2.2 mi p g1
        have lfb := p_16_sl (m_tk_vl tk) (Nat.le_refl _) r4
        obtain ⟨f2, efr⟩ : ∃ fr : Nat, I 24 mi = fr := ⟨(I 24 mi).toNat, by omega⟩
        have tk2 := tk
        rw [efr, Int.toNat_natCast] at tk2
        have hb2 := tk2.2.1
        unfold rb_224_48
        refine ⟨fun _ => ⟨by omega, by omega, ?_⟩, fun c => by omega⟩
        intro v29 e29 _
        rw [Int.toNat_natCast, efr] at e29
        have e7 : sw_w (v29 + 7) = ((f2 + 7 : Nat) : Int) := by rw [e29, sw_w_s (by omega) (by omega)]; omega
        rw [e7]
        clear e7
        unfold rb_224_64
        refine ⟨fun _ => ?_, fun c => by omega⟩
        refine r_leafOfProposal hc.1.1 hc.1.2.2.1 g1 (Nat.le_refl _) tk r4 ?_
        intro _
        unfold rb_224_73
        refine ⟨by omega, by omega, ?_⟩
        intro v1 e1 _
        rw [Int.toNat_natCast, i81] at e1
        rw [← e1] at a2
        have used : ((f2 + p.length : Nat) : Int) ≤ I 1000 23 := by omega
        refine r_list (v := v') (hs := h) hli (by rw [lk]; omega) tk2 used (Nat.le_refl _) r5 rfl ⟨lfb.2.1, lfb.2.2.1⟩ (Or.inr a2) (fun J lJ gJ => next ?_ gJ)
        rw [ed]
        exact lJ
theorem r_lookUp (hm : m < 24) (hg : m_gc I mk nn K' tl ms us m G Lk K) (hkc : w_kc K ms Lk C) (hcm : p_cm K l ep sd b e1 es pt sg cf tg) (hx : m_tk I mk K fr l) (hfr : ((fr + l.length : Nat) : Int) ≤ I 1000 23) (h101 : I 1000 101 = sd) (hes : m_es I mk fr es) (hl : es.length ≤ 1100) (q1 : ∀ J, ¬ d_un C es → m_li J mk K (d_L C sd es) → m_gp m_pga I J → Q 1 J) (q0 : d_un C es → Q 0 I) : rm_224 m I Q := by
  unfold rm_224
  intro v79 e79 _
  rw [hes.1] at e79
  subst e79
  refine ⟨es.length + 1, r_lu_5 hm hg hkc hes hl (fun hal => ?_) q0 _ 0 (by omega) (by omega) (fun j x hj => by omega)⟩
  have g0 : m_gp m_pga I (su I 1000 76 0) := m_gp_sub (m_gp_su _ _ _ _) (fun f k p => by unfold m_pga; omega)
  have hus : I 1000 23 = us := hg.1.2.2.2
  have us3 := m_wr_us hg.1
  refine ⟨es.length + 1, r_lu_31 hm hg hkc hcm hx hfr h101 hes hl hal (fun J lJ gJ => q1 J ?_ lJ gJ) _ 0 g0 ?_ (fun f j hf _ => ?_) (by omega) (by omega)⟩
  · rintro ⟨x, hx, hne, hno⟩
    obtain ⟨c, hc, hcx⟩ := hal x hx hne
    exact hno c hc hcx
  · rw [List.take_zero]
    refine ⟨by simp [su_at], by simp, ?_, fun k c hk => by cases hk⟩
    rw [show su I 1000 76 0 1000 23 = I 1000 23 by simp [su_at]]
    omega
  · simp only [su_at]
    rw [if_neg (by omega)]
end
