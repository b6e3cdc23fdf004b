/-! ===== what holds of members: kept when more is known ===== -/
noncomputable section
section
variable {K K' : Wt → Prop} {l lm : List Wt} {nn nm m n mi : Nat} {ms ms' : List (List Wt)} {v v' : v_M} {C : List w_Ch} {Pt : List (List Wt × Wt × Wt)} {G : w_G} {kd of : Int}
/-- what holds of a member -/
def v_mo (K : Wt → Prop) (nn : Nat) (ms : List (List Wt)) (m : Nat) (v : v_M) (C : List w_Ch) (Pt : List (List Wt × Wt × Wt)) : Prop := v_iv K ms m v C Pt ∧ w_kh ms (v_La v) ∧ ((v_La v).map Prod.fst).Nodup ∧ (v_U v).length ≤ (v_La v).length ∧ (∀ u ∈ v_U v, (∃ i, i < nn ∧ u.2 = w_nm i) ∧ ∃ p ∈ ms, u.1 = w_hs p) ∧ (¬ v_in v → v_La v = [] ∧ v_U v = [] ∧ v_pd v = none) ∧ ∀ lp G, v_pd v = some (lp, G) → g_iv m G ∧ gg_lv G
theorem nd_len {A : Type} [DecidableEq A] : ∀ (xs ys : List A), xs.Nodup → (∀ x ∈ xs, x ∈ ys) → xs.length ≤ ys.length
  | [], _, _, _ => Nat.zero_le _
  | x :: t, ys, hn, hs => by
    obtain ⟨h1, h2⟩ := List.nodup_cons.mp hn
    have hx := hs x (List.mem_cons_self ..)
    have ih := nd_len t (ys.erase x) h2 (fun y hy => (List.mem_erase_of_ne (fun e : y = x => h1 (by rw [← e]; exact hy))).mpr (hs y (List.mem_cons_of_mem _ hy)))
    rw [List.length_erase_of_mem hx] at ih
    have := List.length_pos_of_mem hx
    rw [List.length_cons]
    omega
theorem w_hs_inj {p q : List Wt} (h : w_hs p = w_hs q) : p = q := (w_t_inj h).2.2.2.2
theorem v_la_in (hk : w_kh ms (v_La v)) {h : Wt} (hh : h ∈ (v_La v).map Prod.fst) : ∃ p ∈ ms, h = w_hs p := by
  obtain ⟨e, he, rfl⟩ := List.mem_map.mp hh
  obtain ⟨i, hi⟩ := List.mem_iff_getElem?.mp he
  obtain ⟨h, k⟩ := e
  obtain ⟨p, h1, h2⟩ := hk i k h hi
  exact ⟨p, List.mem_of_getElem? h1, h2⟩
theorem v_la_len (hk : w_kh ms (v_La v)) (hn : ((v_La v).map Prod.fst).Nodup) : (v_La v).length ≤ ms.length := by
  have := nd_len ((v_La v).map Prod.fst) (ms.map w_hs) hn (fun h hh => by
    obtain ⟨p, h1, h2⟩ := v_la_in hk hh
    rw [h2]
    exact List.mem_map_of_mem h1)
  simpa using this
theorem p_kn_of (hK : ∀ w, K w → K' w) : p_kn K K' l := fun _ h => hK _ h
theorem p_pr_mo (hK : ∀ w, K w → K' w) {ep lf : Int} {c : p_C} {sg tg : Wt} (h : p_pr K l ep lf c sg tg) : p_pr K' l ep lf c sg tg := by
  obtain ⟨h1, h2, h3, h4, h5, h6, h7⟩ := h
  exact ⟨h1, h2, h3, h4, p_ct_mo (p_kn_of hK) h5, p_t_mo (p_kn_of hK) h6, p_t_mo (p_kn_of hK) h7⟩
theorem w_isP_mo (hK : ∀ w, K w → K' w) {x : Wt × p_L × Wt} (h : w_isP K l x) : w_isP K' l x := ⟨h.1, p_pk_mo (p_kn_of hK) h.2⟩
theorem w_kc_mo (hK : ∀ w, K w → K' w) (hs : w_msl ms ms') {La : List (Wt × Nat)} (h : w_kc K ms La C) : w_kc K' ms' La C := ⟨h.1, fun i k hh hi => by
  obtain ⟨p, ep, lf, c, sg, tg, h1, h2, h3⟩ := h.2 i k hh hi
  exact ⟨p, ep, lf, c, sg, tg, hs k p h1, p_pr_mo hK h2, h3⟩⟩
theorem w_pt_mo (hs : w_msl ms ms') {L : List (Nat × Wt × Wt)} (h : w_pt ms L Pt) : w_pt ms' L Pt := ⟨h.1, fun i k u w hi => by
  obtain ⟨p, h1, h2⟩ := h.2 i k u w hi
  exact ⟨p, hs k p h1, h2⟩⟩
theorem w_pki_mo (hK : ∀ w, K w → K' w) (h : w_pki K m Pt) : w_pki K' m Pt := fun e he => by
  obtain ⟨ik, f, g0, h1, h2⟩ := h e he
  exact ⟨ik, f, g0, w_isP_mo hK h1, h2⟩
theorem w_kh_mo (hs : w_msl ms ms') {La : List (Wt × Nat)} (h : w_kh ms La) : w_kh ms' La := fun i k hh hi => by
  obtain ⟨p, h1, h2⟩ := h i k hh hi
  exact ⟨p, hs k p h1, h2⟩
theorem w_msl_mem (hs : w_msl ms ms') (h : l ∈ ms) : l ∈ ms' := by
  obtain ⟨i, hi⟩ := List.mem_iff_getElem?.mp h
  exact List.mem_of_getElem? (hs i l hi)
theorem v_iv_mo (hK : ∀ w, K w → K' w) (hs : w_msl ms ms') (h : v_iv K ms m v C Pt) : v_iv K' ms' m v C Pt := ⟨h.1, w_kc_mo hK hs h.2.1, w_pt_mo hs h.2.2.1, w_pki_mo hK h.2.2.2.1, h.2.2.2.2⟩
theorem v_mo_mo (hK : ∀ w, K w → K' w) (hs : w_msl ms ms') (hn : nn ≤ nm) (h : v_mo K nn ms m v C Pt) : v_mo K' nm ms' m v C Pt := by
  obtain ⟨h1, h2, h3, h4, h5, h6, h7⟩ := h
  refine ⟨v_iv_mo hK hs h1, w_kh_mo hs h2, h3, h4, fun u hu => ?_, h6, h7⟩
  obtain ⟨⟨i, i1, i2⟩, p, p1, p2⟩ := h5 u hu
  exact ⟨⟨i, by omega, i2⟩, p, w_msl_mem hs p1, p2⟩
/-- a member that has a group afresh -/
theorem v_mo_gr {Lk : List (Nat × Wt × Wt)} {Pu : List (List Wt × Wt × Wt)} {inn : Prop} (hg : inn → g_iv m G ∧ gg_lv G) (hpt : w_pt ms Lk Pu) (hpi : w_pki K m Pu) : v_mo K nn ms m (inn, G, none, [], [], Lk) [] Pu := by
  refine ⟨⟨fun hi => ⟨(hg hi).1, (hg hi).2, fun c hc => (by cases hc)⟩, ⟨rfl, fun i k h hi => (by cases hi)⟩, hpt, hpi, (by show (0 : Nat) < 340; omega)⟩, fun i k h hi => ?_, List.nodup_nil, Nat.le_refl _, fun u hu => ?_, fun _ => ⟨rfl, rfl, rfl⟩, fun lp G' e => ?_⟩
  · cases hi
  · cases hu
  · cases e
/-- kept proposals, one more -/
theorem v_kc_kp {La : List (Wt × Nat)} {c : p_C} {ep lf : Int} {sg tg : Wt} (hkc : w_kc K ms La C) (hmi : ms[mi]? = some lm) (hp : p_pr K lm ep lf c sg tg) : w_kc K ms (w_kp La (w_hs lm) mi) (if w_hs lm ∈ La.map Prod.fst then C else C ++ [(c, lf, w_hs lm)]) := by
  unfold w_kp
  split
  · exact hkc
  · refine ⟨by rw [List.length_append, List.length_append, hkc.1]; rfl, fun i k h hi => ?_⟩
    by_cases c1 : i < La.length
    · rw [List.getElem?_append_left c1] at hi
      rw [List.getElem?_append_left (by rw [hkc.1]; exact c1)]
      exact hkc.2 i k h hi
    · rw [List.getElem?_append_right (by omega)] at hi
      rw [List.getElem?_append_right (by rw [hkc.1]; omega), hkc.1]
      obtain ⟨j, ej⟩ : ∃ j, i - La.length = j := ⟨_, rfl⟩
      rw [ej] at hi ⊢
      cases j with
      | zero =>
        simp only [List.getElem?_cons_zero, Option.some.injEq, Prod.mk.injEq] at hi
        obtain ⟨e1, e2⟩ := hi
        subst e1 e2
        exact ⟨lm, ep, lf, c, sg, tg, hmi, hp, rfl⟩
      | succ j => simp at hi
theorem v_kh_kp {La : List (Wt × Nat)} (hk : w_kh ms La) (hmi : ms[mi]? = some lm) : w_kh ms (w_kp La (w_hs lm) mi) := by
  unfold w_kp
  split
  · exact hk
  · intro i k h hi
    by_cases c1 : i < La.length
    · rw [List.getElem?_append_left c1] at hi
      exact hk i k h hi
    · rw [List.getElem?_append_right (by omega)] at hi
      obtain ⟨j, ej⟩ : ∃ j, i - La.length = j := ⟨_, rfl⟩
      rw [ej] at hi
      cases j with
      | zero =>
        simp only [List.getElem?_cons_zero, Option.some.injEq, Prod.mk.injEq] at hi
        obtain ⟨e1, e2⟩ := hi
        subst e1 e2
        exact ⟨lm, hmi, rfl⟩
      | succ j => simp at hi
theorem v_nd_kp {La : List (Wt × Nat)} {h : Wt} (hn : (La.map Prod.fst).Nodup) : ((w_kp La h mi).map Prod.fst).Nodup := by
  unfold w_kp
  split
  · exact hn
  · next c =>
    rw [List.map_append]
    refine List.nodup_append.mpr ⟨hn, by simp, fun a ha b hb => ?_⟩
    simp only [List.map_cons, List.map_nil, List.mem_singleton] at hb
    intro e
    exact c (hb ▸ e ▸ ha)
/-- a delivered PROPOSAL that was kept -/
theorem v_mo_dp (h300 : ms.length ≤ 300) (hmi : ms[mi]? = some lm) {z : Int} (hR : w_dpR K (v_in v) (v_G v) lm z) (h : v_mo K nn ms m v C Pt) : ∃ C', v_mo K nn ms m (v_ok2 v (if z = 0 then w_kp (v_La v) (w_hs lm) mi else v_La v) (v_U v)) C' Pt := by
  obtain ⟨⟨a1, a2, a3, a4, a5⟩, h2, h3, h4, h5, h6, h7⟩ := h
  by_cases cz : z = 0
  · rw [if_pos cz]
    have hk : ∃ ep lf c sg tg, p_pr K lm ep lf c sg tg ∧ v_in v ∧ lf ≠ gg_lf (v_G v) := by
      rcases hR with ⟨_, e⟩ | ⟨ep, lf, c, sg, tg, hp, hR⟩
      · omega
      · rcases hR with ⟨_, e⟩ | ⟨i1, _, hR⟩
        · omega
        · rcases hR with ⟨_, e⟩ | ⟨s1, _⟩
          · omega
          · exact ⟨ep, lf, c, sg, tg, hp, i1, s1.2.2⟩
    obtain ⟨ep, lf, c, sg, tg, hp, hin, hne⟩ := hk
    have kh := v_kh_kp h2 hmi
    have nd := v_nd_kp (h := w_hs lm) (mi := mi) h3
    have le : (v_La v).length ≤ (w_kp (v_La v) (w_hs lm) mi).length := by
      unfold w_kp
      split
      · exact Nat.le_refl _
      · rw [List.length_append]; omega
    have ll : (w_kp (v_La v) (w_hs lm) mi).length ≤ ms.length := v_la_len (v := v_ok2 v (w_kp (v_La v) (w_hs lm) mi) (v_U v)) kh nd
    refine ⟨if w_hs lm ∈ (v_La v).map Prod.fst then C else C ++ [(c, lf, w_hs lm)], ⟨fun _ => ⟨(a1 hin).1, (a1 hin).2.1, fun d hd d1 d2 => ?_⟩, v_kc_kp a2 hmi hp, a3, a4, ?_⟩, kh, nd, Nat.le_trans h4 le, h5, fun c => absurd hin c, h7⟩
    · have old : d ∈ C → (∃ u, (d.2.2, u) ∈ v_U v) ∧ ∀ u, (d.2.2, u) ∈ v_U v → (h_lf d).2.1 = w_p5 u := fun hc => (a1 hin).2.2 d hc d1 d2
      split at hd
      · exact old hd
      · rw [List.mem_append, List.mem_singleton] at hd
        rcases hd with hd | hd
        · exact old hd
        · rw [hd] at d2
          exact absurd d2 hne
    · show (w_kp (v_La v) (w_hs lm) mi).length < 340
      omega
  · rw [if_neg cz]
    exact ⟨C, ⟨a1, a2, a3, a4, a5⟩, h2, h3, h4, h5, h6, h7⟩
end
end
