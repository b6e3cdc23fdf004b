/-! ===== the reference: a COMMIT from its changes on ===== -/
noncomputable section
variable {I I' J X : sr_V} {nn us fr : Nat} {K : Wt → Prop} {tl mk mm lm : List Wt} {Q : Int → sr_V → Prop} {m mi l : Nat} {sg cf tg : Wt} {G : w_G} {S : Wt → Prop} {L C : List w_Ch} {ep sd com : Int} {b e1 : Nat} {es : List p_E} {pt : Option p_P} {ms : List (List Wt)} {U : List (Wt × Wt)} {Lk : List (Wt × Nat)} {c : w_Ch} {o : Option (Option w_G)}
theorem d_aft_tr (g : m_gp (m_pD us) I I') (h : d_aft I' us m J mm o) : d_aft I us m J mm o := by
  cases o with
  | none => exact m_gp_trans g h
  | some o =>
    cases o with
    | none => exact ⟨h.1, h.2.1, h.2.2.1, h.2.2.2.1, m_gp_trans (m_gp_sub g (fun f k p => Or.inl p)) h.2.2.2.2⟩
    | some G' => exact ⟨h.1, h.2.1, h.2.2.1, h.2.2.2.1, m_gp_trans (m_gp_sub g (fun f k p => Or.inl p)) h.2.2.2.2⟩
theorem m_pD_ga (g : m_gp m_pga I J) : m_gp (m_pD us) I J := m_gp_sub g (fun f k p => by
  unfold m_pga m_pdn m_pdl m_pd at p
  rcases p with (((p | p) | p) | p | p) | p | p
  · unfold m_pD; omega
  · unfold m_pD; omega
  · exact Or.inr (Or.inr (Or.inl p))
  · unfold m_pD; omega
  · unfold m_pD; omega
  · unfold m_pD; omega
  · unfold m_pD; omega)
theorem d_L_in (hn : ¬ d_un C es) (hc : c ∈ d_L C sd es) : (∃ x ∈ es, x.2.1 = [] ∧ c = (x.2.2, sd, [])) ∨ c ∈ C := by
  obtain ⟨x, hx, rfl⟩ := List.mem_map.mp hc
  by_cases e : x.2.1 = []
  · exact Or.inl ⟨x, hx, e, d_get_0 e⟩
  · right
    unfold d_get
    rw [if_neg e]
    obtain ⟨o, eo⟩ : ∃ o, C.find? (fun c => decide (c.2.2 = x.2.1)) = o := ⟨_, rfl⟩
    rw [eo]
    cases o with
    | none =>
      exfalso
      refine hn ⟨x, hx, e, fun c hc h => ?_⟩
      have := List.find?_eq_none.mp eo c hc
      exact this (by rw [decide_eq_true_iff]; exact h)
    | some d => exact List.mem_of_find?_eq_some eo
theorem d_L_5 (hx5 : ∀ w ∈ lm, w.head? = some 5 → w_i5 w) (h5 : h_p5 C) (hcm : p_cm K lm ep sd b e1 es pt sg cf tg) (hn : ¬ d_un C es) : h_p5 (d_L C sd es) := fun c hc h3 => by
  rcases d_L_in hn hc with ⟨⟨pl, h, v⟩, hx, e, rfl⟩ | h
  · have e : h = [] := e
    subst e
    obtain ⟨e2, s, he, hct⟩ := p_cm_ct hcm hx
    exact p_ct_5 hx5 he hct h3
  · exact h5 c h h3
theorem r_dc_chg (hm : m < 24) (hg : m_gc I mk nn K tl ms us m G Lk K) (hkc : w_kc K ms Lk C) (hi : g_iv m G) (hlv : gg_lv G) (hU : m_up I mk m U) (hcm : p_cm K lm ep (l : Int) b e1 es pt sg cf tg) (hes : m_es I mk fr es) (hl : es.length ≤ 1100) (h101 : I 1000 101 = (l : Nat)) (h102 : I 1000 102 = ((fr + (lm.length - 3) : Nat) : Int)) (h104 : w_at mk (I 1000 104) cf) (h100 : d_c3 I mk fr e1 pt) (hx : m_tk I mk K fr lm) (hfr : fr + lm.length ≤ us) (hlm : lm.length ≤ 1200) (hx5 : ∀ w ∈ lm, w.head? = some 5 → w_i5 w) (h5 : h_p5 C) (hne : gg_lf G ≠ l) (hsl : t_is (gg_T G) l) (hUk : ∀ c ∈ C, c.1.1 = 2 → c.2.1 = (gg_lf G : Int) → (∃ v, (c.2.2, v) ∈ U) ∧ ∀ v, (c.2.2, v) ∈ U → (h_lf c).2.1 = w_p5 v) (hz : w_at mk 1 w_z) (hb : m_bS S mk) (hS : h_done (gg_T G) (d_L C (l : Int) es) (l : Int) → (∀ c ∈ d_L C (l : Int) es, p_cok c.1) → ∀ v, d_mS G (d_L C l es) l lm pt v → S v)
    (q : ∀ z o J mm, d_chg G C l es pt lm cf z o → w_mo S mk mm → m_bS S mm → m_L J mm nn K tl → d_aft I us m J mm o → Q z J) : rm_224 m I (fun z268 I264 => sw_c z268 → (z268 ≠ 0 → ∀ v270, v270 = I264 1000 101 → sw_c v270 → rm_96 m v270 I264 (fun z278 I274 => sw_c z278 → (z278 ≠ 0 → rm_225 I274 (fun z285 I281 => sw_c z285 → (z285 ≠ 0 → rm_226 m I281 (fun I288 => ∀ v294, v294 = I288 1000 100 → sw_c v294 → (v294 = 0 → rb_110_142 Q m fr m I288) ∧ (v294 ≠ 0 → rm_227 I288 (fun z302 I298 => sw_c z302 → (z302 ≠ 0 → rb_110_142 Q m fr m I298) ∧ (z302 = 0 → Q 9 I298))))) ∧ (z285 = 0 → Q 8 I281))) ∧ (z278 = 0 → Q 7 I274))) ∧ (z268 = 0 → Q 6 I264)) := by
  have hus : I 1000 23 = us := hg.1.2.2.2
  have h4 := hi.2.2.2.2.2.1
  have d16 := t_d_16 h4
  refine r_lookUp (fr := fr) hm hg hkc hcm hx (by omega) h101 hes hl (fun J1 nun li1 g1 => ?_) (fun un => ?_)
  rotate_left
  · intro _
    exact ⟨fun c => absurd rfl c, fun _ => q 6 none I mk (Or.inl ⟨un, rfl, rfl⟩) w_mo_refl hb hg.1.1 (m_gp_refl _ _)⟩
  intro _
  refine ⟨fun _ => ?_, fun c => absurd c (by decide)⟩
  have gc1 := m_gc_gp hm hg g1
  have n1 : ∀ f k, (45 ≤ f ∧ f ≤ 54) ∨ (96 ≤ f ∧ f ≤ 98) ∨ (f = 1000 ∧ (k = 95 ∨ (100 ≤ k ∧ k ≤ 111))) → J1 f k = I f k := fun f k hf => g1 f k (by unfold m_pga m_pdn m_pdl m_pd m_pl; omega)
  intro v270 e270 _
  rw [n1 1000 101 (by omega), h101] at e270
  rw [e270]
  refine r_isDone (o := 16) (T := gg_T G) (L := d_L C l es) (com := (l : Int)) (Or.inl (Nat.le_refl _)) (fun h k c hk h2 e => ?_) hm gc1.1.1 gc1.1.2.1 gc1.2.1.2.2.2.1 li1 (fun z J2 hz2 hZ g2 => ?_)
  · have := ((h k c hk).2 (by omega)).2.1
    have := this.2.1
    omega
  intro _
  have g2' : m_gp m_pga J1 J2 := m_gp_sub g2 (fun f k p => Or.inl p)
  have g12 : m_gp m_pga I J2 := m_gp_trans g1 g2'
  have gc2 := m_gc_gp hm hg g12
  rcases hz2 with ⟨rfl, hd⟩ | ⟨rfl, hd⟩
  rotate_left
  · exact ⟨fun c => absurd rfl c, fun _ => q 7 none J2 mk (Or.inr ⟨nun, Or.inl ⟨hd, rfl, rfl⟩⟩) w_mo_refl hb gc2.1.1 (m_pD_ga g12)⟩
  refine ⟨fun _ => ?_, fun c => absurd c (by decide)⟩
  obtain ⟨T2, hr2, ad2⟩ := hZ hd.1 hd.2.1
  have n2 : ∀ f k, (45 ≤ f ∧ f ≤ 54) ∨ (96 ≤ f ∧ f ≤ 98) ∨ (f = 1000 ∧ (k = 95 ∨ (100 ≤ k ∧ k ≤ 111))) → J2 f k = I f k := fun f k hf => g12 f k (by unfold m_pga m_pdn m_pdl m_pd m_pl; omega)
  have li2 := m_li_pdn li1 g2
  have hok : ∀ c ∈ d_L C (l : Int) es, p_cok c.1 := fun c hc => by
    obtain ⟨j, hj⟩ := List.mem_iff_getElem?.mp hc
    obtain ⟨_, _, _, _, h, _⟩ := li2.2.2.2 j c hj
    exact h
  have st1 := gc1.2.1
  refine r_dc_sh (L := d_L C l es) (S := S) (fr := fr) (e1 := e1) (cf := cf) (pt := pt) hm gc2.1 gc2.2.1 hi hlv (m_up_gp hU g12 (fun f k p => by unfold m_pga m_pdn m_pdl m_pd m_pl at p; omega) (w_le_refl _)) li2 T2 (fun x hx => ?_) ad2.1 hcm (by rw [n2 1000 101 (by omega)]; exact h101) (by rw [n2 1000 102 (by omega)]; exact h102) (by rw [n2 1000 104 (by omega)]; exact h104) ?_ (m_tk_up hx gc2.1.1 (w_le_refl _) (fun i _ => g12 26 _ (by unfold m_pga m_pdn m_pdl m_pd m_pl; omega)) (funext (fun k => g12 16 k (by unfold m_pga m_pdn m_pdl m_pd m_pl; omega)))) hfr hlm hd hok (d_L_5 hx5 h5 hcm nun) hx5 hne hsl (fun c hc c2 cg => ?_) hz hb (hS hd hok) (fun z o J mm hh mo bm LJ aft => q z o J mm (Or.inr ⟨nun, Or.inr ⟨hd, hh⟩⟩) mo bm LJ (d_aft_tr (m_pD_ga g12) aft))
  · rw [show 1488 + x = 31 * 48 + x by omega]
    rcases hr2 x hx with ⟨h0, _⟩ | ⟨h1, h2, h3⟩
    · rw [h0]; exact Or.inl (Or.inl ⟨rfl, rfl⟩)
    · rw [h2]
      have hh := st1.2.2.2.2.2.2.2.1 x h1
      by_cases c : t_ky (h_ap (gg_T G) (d_L C l es)) x = []
      · have := st1.1.2.2.2.2 x h1 (by rw [← h3]; exact c)
        rw [this] at hh
        exact Or.inl hh
      · right
        unfold w_hcy
        rw [if_pos ⟨h1, c, h3⟩]
        exact hh
  · cases pt with
    | none => exact (n2 1000 100 (by omega)).trans h100
    | some pp =>
      obtain ⟨f, ns⟩ := pp
      exact ⟨(n2 1000 100 (by omega)).trans h100.1, (n2 1000 111 (by omega)).trans h100.2.1, m_pns_gp h100.2.2 g12 (fun f k p => by unfold m_pga m_pdn m_pdl m_pd m_pl at p; omega)⟩
  · have e2 : h_go c = c.2.1 := by
      unfold h_go
      rw [if_neg (by omega), if_pos c2]
    rcases d_L_in nun hc with ⟨x, _, _, rfl⟩ | h
    · rw [e2] at cg
      have cg : (l : Int) = gg_lf G := cg
      omega
    · exact hUk c h c2 (by rw [← e2]; exact cg)
end
