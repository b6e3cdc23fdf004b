/-! ===== what holds of members: propose, commit, a COMMIT delivered ===== -/
noncomputable section
section
variable {K K' : Wt → Prop} {l lm : List Wt} {nn nm m n mi : Nat} {ms ms' : List (List Wt)} {v v' : v_M} {C L : List w_Ch} {Pt : List (List Wt × Wt × Wt)} {G : w_G} {kd of wp z : Int}
theorem g_lf16 (hg : gg_ok G) (hi : g_iv m G) : gg_lf G < 16 := by
  have := hg.2.1
  have := t_w_4 hi.2.2.2.2.2.1
  omega
theorem v_mo_pr (hm : m < 24) (h300 : ms.length < 300) (hin : v_in v) (hg : gg_ok (v_G v)) (hn : ¬ w_prN m kd of n) (hp : kd = 1 → w_rp K l) (hfr : kd = 2 → v_prM m nn v kd of l ∉ ms) (h : v_mo K nn ms m v C Pt) : ∃ C', v_mo (w_lrs K (v_prM m nn v kd of l)) (if kd = 2 then nn + 1 else nn) (ms ++ [v_prM m nn v kd of l]) m (v_pr m nn ms.length v kd of l) C' Pt := by
  have iv := h.1.1 hin
  have hkh := h.2.1
  have hnd := h.2.2.1
  have hUl := h.2.2.2.1
  have hU5 := h.2.2.2.2.1
  have hUk := iv.2.2
  have hkc0 := h.1.2.1
  obtain ⟨c, sg, tg, hpr, hc2⟩ := v_pr_rd (K2 := w_lrs K (v_prM m nn v kd of l)) (G := v_G v) (nn := nn) hm hg.1 (g_lf16 hg iv.1) hn hp (fun w hw => w_lrs_sub _ hw) (fun w hw hd => w_lrs_mem _ hw hd)
  obtain ⟨p, ep⟩ : ∃ p, p = v_prM m nn v kd of l := ⟨_, rfl⟩
  have hpr : p_pr (w_lrs K p) p (gg_ep (v_G v)) (gg_lf (v_G v)) c sg tg := by rw [ep]; exact hpr
  unfold v_pr
  rw [← ep] at hfr ⊢
  have hs := w_msl_app ms [p]
  obtain ⟨⟨a1, a2, a3, a4, a5⟩, h2, h3, h4, h5, h6, h7⟩ := v_mo_mo (nm := if kd = 2 then nn + 1 else nn) (fun w hw => w_lrs_sub p hw) hs (by split <;> omega) h
  have hmi : (ms ++ [p])[ms.length]? = some p := by simp
  have kh := v_kh_kp h2 hmi
  have nd := v_nd_kp (h := w_hs p) (mi := ms.length) h3
  have le : (v_La v).length ≤ (w_kp (v_La v) (w_hs p) ms.length).length := by
    unfold w_kp
    split
    · exact Nat.le_refl _
    · rw [List.length_append]; omega
  have ll : (w_kp (v_La v) (w_hs p) ms.length).length ≤ (ms ++ [p]).length := v_la_len (v := v_ok2 v (w_kp (v_La v) (w_hs p) ms.length) (v_U v)) kh nd
  rw [List.length_append, List.length_singleton] at ll
  have notin : kd = 2 → w_hs p ∉ (v_La v).map Prod.fst := fun k2 hh => by
    obtain ⟨q, q1, q2⟩ := v_la_in hkh hh
    exact hfr k2 (by rw [w_hs_inj q2]; exact q1)
  have notU : kd = 2 → ∀ u, (w_hs p, u) ∉ v_U v := fun k2 u hu => by
    obtain ⟨_, q, q1, q2⟩ := hU5 _ hu
    exact hfr k2 (by rw [w_hs_inj q2]; exact q1)
  refine ⟨if w_hs p ∈ (v_La v).map Prod.fst then C else C ++ [(c, (gg_lf (v_G v) : Int), w_hs p)], ⟨fun _ => ⟨iv.1, iv.2.1, fun d hd d1 d2 => ?_⟩, v_kc_kp a2 hmi hpr, a3, a4, ?_⟩, kh, nd, ?_, fun u hu => ?_, fun c => absurd hin c, h7⟩
  · show (∃ u, (d.2.2, u) ∈ if kd = 2 then v_U v ++ [(w_hs p, w_nm nn)] else v_U v) ∧ ∀ u, ((d.2.2, u) ∈ if kd = 2 then v_U v ++ [(w_hs p, w_nm nn)] else v_U v) → (h_lf d).2.1 = w_p5 u
    have old : d ∈ C → (∃ u, (d.2.2, u) ∈ if kd = 2 then v_U v ++ [(w_hs p, w_nm nn)] else v_U v) ∧ ∀ u, ((d.2.2, u) ∈ if kd = 2 then v_U v ++ [(w_hs p, w_nm nn)] else v_U v) → (h_lf d).2.1 = w_p5 u := fun hc => by
      obtain ⟨⟨u, hu⟩, hall⟩ := hUk d hc d1 d2
      by_cases k2 : kd = 2
      · rw [if_pos k2]
        refine ⟨⟨u, List.mem_append_left _ hu⟩, fun w hw => ?_⟩
        rw [List.mem_append, List.mem_singleton] at hw
        rcases hw with hw | hw
        · exact hall w hw
        · have e := (Prod.mk.inj hw).1
          rw [e] at hu
          exact absurd hu (notU k2 u)
      · rw [if_neg k2]
        exact ⟨⟨u, hu⟩, hall⟩
    split at hd
    · exact old hd
    · rw [List.mem_append, List.mem_singleton] at hd
      rcases hd with hd | hd
      · exact old hd
      · rw [hd] at d1
        obtain ⟨k2, ek⟩ := hc2 d1
        rw [if_pos k2, hd]
        refine ⟨⟨w_nm nn, by simp⟩, fun w hw => ?_⟩
        rw [List.mem_append, List.mem_singleton] at hw
        rcases hw with hw | hw
        · exact absurd hw (notU k2 w)
        · rw [(Prod.mk.inj hw).2]
          exact ek
  · show (w_kp (v_La v) (w_hs p) ms.length).length < 340
    omega
  · show (if kd = 2 then v_U v ++ [(w_hs p, w_nm nn)] else v_U v).length ≤ (w_kp (v_La v) (w_hs p) ms.length).length
    by_cases k2 : kd = 2
    · have : w_kp (v_La v) (w_hs p) ms.length = v_La v ++ [(w_hs p, ms.length)] := if_neg (notin k2)
      rw [if_pos k2, this, List.length_append, List.length_append]
      simp only [List.length_singleton]
      omega
    · rw [if_neg k2]
      omega
  · have hu : u ∈ if kd = 2 then v_U v ++ [(w_hs p, w_nm nn)] else v_U v := hu
    by_cases k2 : kd = 2
    · rw [if_pos k2] at hu
      rw [List.mem_append, List.mem_singleton] at hu
      rcases hu with hu | hu
      · exact h5 u hu
      · rw [if_pos k2, hu]
        exact ⟨⟨nn, by omega, rfl⟩, p, by simp, rfl⟩
    · rw [if_neg k2] at hu
      exact h5 u hu
/-- the next tree's leaves -/
theorem k_T2_lv (hm : m < 24) (hg : gg_ok G) (hi : g_iv m G) (hlv : gg_lv G) (hok : ∀ c ∈ L, p_cok c.1) (h5 : h_p5 L) (hd : L = [] ∨ h_done (gg_T G) L (gg_lf G)) : t_lv (k_T2 G m nn wp L) := by
  obtain ⟨ha, hr⟩ := k_dn hd
  have a1 : t_lv (k_T1 G L) := h_ap_lv hi.2.2.2.2.2.1 hlv hok ha
  obtain ⟨b1, _, _, _, b5⟩ := k_T1_ok hg hi hok h5 hd
  unfold k_T2
  split
  · exact a1
  · unfold w_pT2
    have d16 := t_d_16 b1.1
    have l16 : gg_lf G < 16 := by have := b5.1; omega
    refine t_lv_put (t_lv_sub a1 ?_ (fun k => Or.inr ?_) ?_ ?_) ⟨?_, ?_⟩
    · unfold w_pth
      rw [t_dp_w t_pth_dp]
      exact Nat.le_refl _
    · unfold w_pth
      exact t_pth_lf l16 b1.1
    · unfold w_pth
      exact t_pth_ow.1
    · unfold w_pth
      exact t_pth_ow.2
    · show (m : Int) < 24
      omega
    · show w_pub m = w_pub (m : Int).toNat
      rw [Int.toNat_natCast]
theorem v_mo_cm (hm : m < 24) (hin : v_in v) (hg : gg_ok (v_G v)) (hx5 : w_x5 ms) (hvl : ∀ p ∈ ms, w_vl p) (hs : w_msl ms ms') (hK : ∀ w, K w → K' w) (hnn : nn ≤ nm) (h : v_mo K nn ms m v C Pt) : v_mo K' nm ms' m (v_cm m nn wp (v_L C v) v) C Pt := by
  obtain ⟨⟨a1, a2, a3, a4, a5⟩, h2, h3, h4, h5, h6, h7⟩ := v_mo_mo hK hs hnn h
  refine ⟨⟨a1, a2, a3, a4, a5⟩, h2, h3, h4, h5, fun c => absurd hin c, fun lp G' e => ?_⟩
  have e : some (k_M (v_G v) m nn wp (v_L C v), k_G (v_G v) m nn wp (v_L C v)) = some (lp, G') := e
  have e := (Prod.mk.inj (Option.some.inj e)).2
  subst e
  have iv := a1 hin
  have okC := w_kc_ok hvl h.1.2.1
  have sub : ∀ c ∈ v_L C v, c ∈ C := fun c hc => by
    rcases h_ga_sub C [] c hc with h | h
    · cases h
    · exact h
  have hok : ∀ c ∈ v_L C v, p_cok c.1 := fun c hc => okC c (sub c hc)
  have p5 : h_p5 (v_L C v) := fun c hc => w_kc_5 hx5 h.1.2.1 c (sub c hc)
  have hd : v_L C v = [] ∨ h_done (gg_T (v_G v)) (v_L C v) (gg_lf (v_G v)) := h_ga_ok C [] (Or.inl rfl)
  exact ⟨(k_iv hm hg iv.1 hok p5 hd).2, k_T2_lv hm hg iv.1 iv.2.1 hok p5 hd⟩
/-- the next group of a COMMIT -/
theorem d_dcR_iv {o : w_G} (hg : gg_ok (v_G v)) (hx5 : w_x5 ms) (hvl : ∀ p ∈ ms, w_vl p) (hmi : ms[mi]? = some lm) (hin : v_in v) (hR : d_dcR K (v_in v) (v_G v) C (v_pd v) lm z (some (some o))) (h : v_mo K nn ms m v C Pt) : g_iv m o ∧ gg_lv o := by
  have hlm := List.mem_of_getElem? hmi
  have iv := h.1.1 hin
  have hkc := h.1.2.1
  rcases hR with ⟨_, _, e⟩ | ⟨ep, sd, b, e1, es, pt, sg, cf, tg, hcm, ⟨_, _, e⟩ | ⟨_, _, hR⟩⟩
  · cases e
  · cases e
  rcases hR with ⟨_, ⟨G', e1, _, e⟩ | ⟨_, _, e⟩⟩ | ⟨hne, ⟨_, _, e⟩ | ⟨hsd, ⟨_, _, e⟩ | ⟨_, ⟨_, _, e⟩ | ⟨_, hR⟩⟩⟩⟩
  · have e := Option.some.inj (Option.some.inj e)
    subst e
    exact h.2.2.2.2.2.2 lm _ e1
  · cases e
  · cases e
  · cases e
  · cases e
  obtain ⟨l, el⟩ : ∃ l : Nat, sd = l := by
    obtain ⟨_, _, _, c2, _⟩ := hcm
    have := p_16_sl (hvl lm hlm) (Nat.le_refl _) c2
    exact ⟨sd.toNat, by omega⟩
  subst el
  rw [Int.toNat_natCast] at hR
  have hsl : t_is (gg_T (v_G v)) l := ⟨by have := hsd.1; omega, by have := hsd.2.1; rw [Int.toNat_natCast] at this; exact this⟩
  rcases hR with ⟨_, _, e⟩ | ⟨nun, ⟨_, _, e⟩ | ⟨hdn, ⟨_, _, e⟩ | ⟨_, hR⟩⟩⟩
  · cases e
  · cases e
  · cases e
  have okC := w_kc_ok hvl hkc
  have hok : ∀ c ∈ d_L C (l : Int) es, p_cok c.1 := fun c hc => by
    rcases d_L_in nun hc with ⟨⟨pl, hh, v⟩, hx, e, rfl⟩ | hc
    · have e : hh = [] := e
      subst e
      obtain ⟨e2, s, he, hct⟩ := p_cm_ct hcm hx
      exact p_ct_ok (hvl lm hlm) he hct
    · exact okC c hc
  have hx5m : ∀ w ∈ lm, w.head? = some 5 → w_i5 w := hx5 lm hlm
  have p5 := d_L_5 hx5m (w_kc_5 hx5 hkc) hcm nun
  obtain ⟨a1, a2, a3, a4⟩ := d_T1_ok hg iv.1 iv.2.1 hok p5 hdn
  obtain ⟨ha, hr, _⟩ := id hdn
  obtain ⟨o1, o2, o3⟩ := h_ap_own iv.1.2.2.2.2.2.1 hok hsl ha hr
  have d16 := t_d_16 a1.1
  have l16 : l < 16 := by have := o2.1; omega
  have hLU : ∀ c ∈ d_L C (l : Int) es, c.1.1 = 2 → h_go c = (gg_lf (v_G v) : Int) → (∃ u, (c.2.2, u) ∈ v_U v) ∧ ∀ u, (c.2.2, u) ∈ v_U v → (h_lf c).2.1 = w_p5 u := fun c hc c2 cg => by
    have e2 : h_go c = c.2.1 := by
      unfold h_go
      rw [if_neg (by omega), if_pos c2]
    rcases d_L_in nun hc with ⟨x, _, _, rfl⟩ | hc
    · rw [e2] at cg
      exact absurd cg hne
    · exact iv.2.2 c hc c2 (by rw [← e2]; exact cg)
  have own := fun hn : ¬ h_rm (d_L C (l : Int) es) (gg_lf (v_G v)) => d_own_ok hg iv.1 hok ha hr hLU hn
  cases pt with
  | none =>
    rcases hR with ⟨_, _, e⟩ | ⟨hn, ⟨_, _, e⟩ | ⟨_, _, e⟩⟩
    · cases e
    · have e := Option.some.inj (Option.some.inj e)
      subst e
      exact (d_iv0 iv.1 a1 a2 a3 a4 (own hn).1 (own hn).2.1 (own hn).2.2.1).2
    · cases e
  | some pp =>
    obtain ⟨f, ns⟩ := pp
    rcases hR with ⟨_, _, e⟩ | ⟨lr, ⟨_, _, e⟩ | ⟨hn, ⟨_, _, e⟩ | ⟨_, ⟨_, _, e⟩ | ⟨_, ⟨_, _, e⟩ | ⟨_, _, e⟩⟩⟩⟩⟩
    · cases e
    · cases e
    · cases e
    · cases e
    · have e := Option.some.inj (Option.some.inj e)
      subst e
      obtain ⟨n5, f5⟩ := p_cm_n5 hx5m hcm
      have lfok : t_lfok f := by
        obtain ⟨s, hs⟩ := p_cm_lf hcm
        exact (p_lf_ok (hvl lm hlm) (Nat.le_refl _) hs).1
      have T2ok := d_T2_ok (ns := ns) a1 a2 a3 a4 l16 lfok lr.1.2.2 ⟨n5, f5⟩
      exact (d_iv1 iv.1 a1 a4 (own hn).1 (own hn).2.1 (own hn).2.2.1 o2.1 (fun e => hne (by omega)) T2ok n5).2
    · cases e
end
end
