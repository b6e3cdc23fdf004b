/-! ===== what holds of members: deliver ===== -/
noncomputable section
section
variable {K K' : Wt → Prop} {l lm : List Wt} {nn nm m n mi : Nat} {ms ms' : List (List Wt)} {v v' : v_M} {C L : List w_Ch} {Pt : List (List Wt × Wt × Wt)} {G : w_G} {kd of wp z : Int}
theorem p_we_ok {ep sd : Int} {b e1 : Nat} {prs : List (Wt × Wt)} {th cf cm sg : Wt} {ns : List p_V} (hvl : w_vl lm) (h : p_we K lm ep b e1 prs th cf sd ns cm sg) : t_ok (t_of ns) := by
  have hn := p_we_nn h
  obtain ⟨_, _, _, _, _, _, _, h8, _⟩ := h
  unfold p_tr at h8
  rw [Option.bind_eq_some_iff] at h8
  obtain ⟨⟨⟨i0, r⟩, s⟩, hr, h8⟩ := h8
  split at h8
  · have e := (Prod.mk.inj (Option.some.inj h8)).1
    have e : r = ns := e
    subst e
    unfold p_row at hr
    rw [Option.bind_eq_some_iff] at hr
    obtain ⟨⟨e0, i1, e2⟩, hp, hr⟩ := hr
    rw [Option.bind_eq_some_iff] at hr
    obtain ⟨⟨r2, s2⟩, hq, hr⟩ := hr
    have hq : p_nos K lm 31 0 (some (i1, e0)) = some (r2, s2) := hq
    split at hr
    · have e3 := (Prod.mk.inj (Prod.mk.inj (Option.some.inj hr)).1).2
      have e3 : r2 = r := e3
      subst e3
      unfold p_r at hp
      rw [Option.bind_eq_some_iff] at hp
      obtain ⟨⟨a, j, e4⟩, h16, hp⟩ := hp
      obtain ⟨x1, x2, x3⟩ := p_16_le h16
      have sl := p_16_sl hvl (Nat.le_refl _) h16
      split at hp
      · next c =>
        have hp := Option.some.inj hp
        have y1 : j + a.toNat = e0 := (Prod.mk.inj hp).1
        have y2 : j = i1 := (Prod.mk.inj (Prod.mk.inj hp).2).1
        have c : (j : Int) + a ≤ (e4 : Int) := c
        have := p_nos_in hvl (by omega) (by omega) hq
        exact t_of_ok hn (fun k w hk => by have := this.2.2 k w hk; rw [Nat.zero_add] at this; exact this)
      · cases hp
    · cases hr
  · cases h8
theorem w_pt_er {Lk : List (Nat × Wt × Wt)} (h : w_pt ms Lk Pt) (i : Nat) : w_pt ms (Lk.eraseIdx i) (Pt.eraseIdx i) := by
  refine ⟨by rw [List.length_eraseIdx, List.length_eraseIdx, h.1], fun j k u w hj => ?_⟩
  rw [List.getElem?_eraseIdx] at hj ⊢
  split at hj
  · next c => rw [if_pos c]; exact h.2 _ k u w hj
  · next c => rw [if_neg c]; exact h.2 _ k u w hj
theorem w_pki_er (h : w_pki K m Pt) (i : Nat) : w_pki K m (Pt.eraseIdx i) := fun e he => h e (List.mem_of_mem_eraseIdx he)
/-- the group of a WELCOME -/
theorem e_weR_iv {o : w_G} {i : Nat} (hx5 : w_x5 ms) (hvl : ∀ p ∈ ms, w_vl p) (hmi : ms[mi]? = some lm) (hpi : w_pki K m Pt) {inn : Prop} (hR : e_weR K inn Pt lm z (some (o, i))) : g_iv m o ∧ gg_lv o := by
  have hlm := List.mem_of_getElem? hmi
  rcases hR with ⟨_, _, e⟩ | ⟨ep, b, e1, prs, th, cf, sd, ns, cm, sg, hp, ⟨_, _, e⟩ | ⟨_, ⟨_, _, e⟩ | ⟨k, i', pr, e, hf, hR⟩⟩⟩
  · cases e
  · cases e
  · cases e
  have he := List.mem_of_getElem? hf.2.1
  obtain ⟨ik', f', g0', hP', hm', hk'⟩ := hpi e he
  obtain ⟨a, jn, sc, L, ik, f, g0, _, hP, hR⟩ := hR
  have y := w_isP_un hP hP'
  simp only [Prod.mk.injEq] at y
  obtain ⟨_, y2, _⟩ := y
  subst y2
  rcases hR with ⟨_, _, e⟩ | ⟨_, ⟨_, _, e⟩ | ⟨_, ⟨_, _, e⟩ | ⟨hs, hg, l, hf1, ⟨_, _, e⟩ | ⟨_, ⟨_, _, e⟩ | ⟨_, ⟨_, _, _, e⟩ | ⟨_, _, e⟩⟩⟩⟩⟩⟩
  · cases e
  · cases e
  · cases e
  · cases e
  · cases e
  · cases e
  have e := (Prod.mk.inj (Option.some.inj e)).1
  subst e
  exact (e_iv (p_we_ok (hvl lm hlm) hp) (p_we_5 (hx5 lm hlm) hp) hs hg hf1 hm' hk' (p_32_c hp.2.2.2.1)).2
theorem v_mo_dl (h300 : ms.length ≤ 300) (hg : v_in v → gg_ok (v_G v)) (hx5 : w_x5 ms) (hvl : ∀ p ∈ ms, w_vl p) (hmi : ms[mi]? = some lm) (hd : v_dl K mi v C Pt lm z v') (h : v_mo K nn ms m v C Pt) : ∃ C' Pt', v_mo K nn ms m v' C' Pt' := by
  rcases hd with ⟨_, _, e⟩ | ⟨_, _, e⟩ | ⟨_, hR, e⟩ | ⟨_, o, hR, e⟩ | ⟨_, o, hR, e⟩
  · rw [e]; exact ⟨C, Pt, h⟩
  · rw [e]; exact ⟨C, Pt, h⟩
  · rw [e]
    obtain ⟨C', h'⟩ := v_mo_dp h300 hmi hR h
    exact ⟨C', Pt, h'⟩
  · rw [e]
    cases o with
    | none => exact ⟨C, Pt, h⟩
    | some o =>
      cases o with
      | none => exact ⟨[], Pt, v_mo_gr (fun c => c.elim) h.1.2.2.1 h.1.2.2.2.1⟩
      | some G' =>
        have hin := d_dcR_in hR
        exact ⟨[], Pt, v_mo_gr (fun _ => d_dcR_iv (hg hin) hx5 hvl hmi hin hR h) h.1.2.2.1 h.1.2.2.2.1⟩
  · rw [e]
    cases o with
    | none => exact ⟨C, Pt, h⟩
    | some o =>
      obtain ⟨G', i⟩ := o
      exact ⟨[], Pt.eraseIdx i, v_mo_gr (fun _ => e_weR_iv hx5 hvl hmi h.1.2.2.2.1 hR) (w_pt_er h.1.2.2.1 i) (w_pki_er h.1.2.2.2.1 i)⟩
end
end
