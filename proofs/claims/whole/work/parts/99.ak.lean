/-! ===== the class: spread, learn ===== -/
noncomputable section
section
variable {H G X Y Z : sw_H} {d : Nat → Wt} {nn : Nat} {K : Wt → Prop} {tl : List Wt} {g t w : Nat} {wl wm wn : List Nat} {x : Int} {Q : sw_H → Prop} {P : Int → sw_H → Prop}
theorem c_lr_us (h : c_lr X Y) (p t : Nat) : c_us Y p t ↔ c_us X p t := by
  have e : ∀ m, c_Lk Y m ↔ c_Lk X m := fun m => by
    unfold c_Lk
    rw [c_lr_n h, c_lr_d h (by decide) (Or.inl (by decide))]
  have f : ∀ m, c_pt Y m = c_pt X m := fun m => by
    unfold c_pt
    rw [c_lr_d h (by omega) (Or.inl (by omega))]
  unfold c_us
  simp only [e, f]
theorem c_kn_k (c : c_cx X d nn wl) (ht : c_R X t) : c_mk X (c_k X) t ↔ c_mk X (c_kn X) t := by
  obtain ⟨s, T, h01, hw, hu⟩ := c
  have z := s.2.2.2.2.2.2.2
  have v := (T.2.2.2.2.2.2.2.2.2.1 t ht).1
  have v3 := v.2.2.1
  have v4 := v.2.2.2.1
  have v5 := v.2.2.2.2.1
  have v6 := v.2.2.2.2.2.1
  have v7 := v.2.2.2.2.2.2.1
  have v9 := v.2.2.2.2.2.2.2.2.1
  clear v
  have ht2 := ht.2
  have p : ∀ y : Int, 0 ≤ y → y ≤ t - 1 → (c_k X y.toNat ↔ c_kn X y.toNat) := fun y y0 y1 => by
    unfold c_kn
    refine ⟨fun h => ⟨⟨?_, by omega⟩, h⟩, fun h => h.2⟩
    by_cases c0 : y.toNat = 0
    · unfold c_k at h
      rw [c0, z] at h
      cases h
    · omega
  exact c_mk_cg (fun _ _ => rfl) (p _ v3 v4) (fun h => p _ v7 (v9 (by omega))) (p _ v5 v6)
/-- what is done with a user u of what is spread -/
def c_usd (X Y : sw_H) (u : Nat) : Prop := (c_mk X (c_kn X) u → c_kn Y u) ∧ (c_d X u 0 = 5 → ∀ v, c_us X u v → c_opd X Y v)
theorem c_usd_r (h : c_usd X Y t) (k : c_sp g Y wm Z wn) : c_usd X Z t := ⟨fun a => c_sp_mono k (h.1 a), fun a v b => c_opd_r (h.2 a v b) k⟩
theorem c_usd_l (k : c_sp g X wl Y wm) (h : c_usd Y Z t) : c_usd X Z t := by
  have lr := k.1
  refine ⟨fun a => h.1 ((c_lr_mk lr _ _).mpr ?_), fun a v b => c_opd_l k (h.2 (by rw [c_lr_d lr (by decide) (Or.inl (by decide))]; exact a) v ((c_lr_us lr _ _).mpr b))⟩
  unfold c_mk at a ⊢
  rcases a with a | ⟨a1, a2⟩ | ⟨a1, a2, a3, a4⟩
  · exact Or.inl a
  · exact Or.inr (Or.inl ⟨a1, c_sp_mono k a2⟩)
  · refine Or.inr (Or.inr ⟨a1, c_sp_mono k a2, c_sp_mono k a3, ?_⟩)
    rcases a4 with a4 | a4
    · exact Or.inl a4
    · exact Or.inr (c_sp_mono k a4)
/-- spread's loop -/
theorem c_spr_l : ∀ (n : Nat) {L : List Nat} {left : Int} {x : Int} {X : sw_H} {wl : List Nat}, c_cx X d nn wl → c_U X → c_ul X x L → (∀ m ∈ L, c_R X (m / 3)) → L.length < n → (L.length : Int) ≤ left → left ≤ 1000000000 → (∀ Y wm, c_sp g X wl Y wm → (∀ m ∈ L, c_usd X Y (m / 3)) → Q Y) → wl_253_17 Q n 3 x left X
  | 0, _, _, _, _, _, _, _, _, _, h, _, _, _ => by omega
  | n + 1, [], left, x, X, wl, c, U, u, hL, hn, hl, hb, k => by
    have q := k X wl (c_sp_refl c.2.2.1 c.2.2.2.1) (by simp)
    have u : x = 0 := u
    unfold wl_253_17
    exact ⟨fun _ => q, fun _ => ⟨fun _ => q, fun h => absurd u h⟩⟩
  | n + 1, m :: L, left, x, X, wl, c, U, u, hL, hn, hl, hb, k => by
    obtain ⟨u1, u2, u3, u4⟩ := u
    rw [List.length_cons] at hn hl
    have hm := hL m List.mem_cons_self
    have s := c.1
    have T := c.2.1
    have nm := s.2.2.2.2.1
    have dl := s.1.2.2.2.2.2.2.1
    have hm2 := hm.2
    have hm1 := hm.1
    have v := (T.2.2.2.2.2.2.2.2.2.1 (m / 3) hm).1
    have v1 := v.1
    have v2 := v.2.1
    have v3 := v.2.2.1
    have v4 := v.2.2.2.1
    have v5 := v.2.2.2.2.1
    have v6 := v.2.2.2.2.2.1
    have v7 := v.2.2.2.2.2.2.1
    have v9 := v.2.2.2.2.2.2.2.2.1
    clear v
    -- behind a user
    have next : ∀ Y wm, c_sp g X wl Y wm → c_usd X Y (m / 3) → wb_253_40 Q (wl_253_17 Q n) 3 x left Y := fun Y wm sp us => by
      have cY := c_cx_sp c sp
      have en := c_lr_n sp.1
      unfold wb_253_40
      rw [u1]
      refine c_nextLink cY.1 (by omega) (fun _ _ => ?_)
      intro y ey
      rw [sw_w_s (by omega) (by omega)] at ey
      subst ey
      have enx : c_nx Y m = c_nx X m := c_lr_d sp.1 (by omega) (Or.inl (by omega))
      rw [enx]
      refine c_spr_l n cY (c_lr_U sp.1 U) (c_lr_ul sp.1 u4) (fun q hq => (c_lr_R sp.1 _).mpr (hL q (List.mem_cons_of_mem _ hq))) (by omega) (by omega) (by omega) (fun Z wn sp2 us2 => ?_)
      refine k Z wn (c_sp_trans sp sp2) (fun q hq => ?_)
      rcases List.mem_cons.mp hq with e | hq
      · rw [e]; exact c_usd_r us sp2
      · exact c_usd_l sp (us2 q hq)
    -- behind canMake
    have mid : ∀ Y wm, c_sp g X wl Y wm → (c_mk X (c_kn X) (m / 3) → c_kn Y (m / 3)) → wb_253_32 Q (wl_253_17 Q n) 3 x left ((m / 3 : Nat) : Int) Y := fun Y wm sp us => by
      have cY := c_cx_sp c sp
      have en := c_lr_n sp.1
      have e0 : c_d Y (m / 3) 0 = c_d X (m / 3) 0 := c_lr_d sp.1 (by decide) (Or.inl (by decide))
      unfold wb_253_32
      refine c_sortOf cY.1 (by omega) (fun _ _ => ?_)
      rw [e0]
      refine ⟨fun c5 => next Y wm sp ⟨us, fun h => absurd h c5⟩, fun c5 => ?_⟩
      refine c_openFor (g := g) cY (c_lr_U sp.1 U) ((c_lr_R sp.1 _).mpr hm) (fun Z wn sp2 op _ => ?_)
      exact next Z wn (c_sp_trans sp sp2) ⟨fun a => c_sp_mono sp2 (us a), fun _ v b => c_opd_l sp (op v ((c_lr_us sp.1 _ _).mpr b))⟩
    unfold wl_253_17
    refine ⟨fun h => by omega, fun _ => ⟨fun h => by omega, fun _ => ?_⟩⟩
    intro y24 e24
    rw [u1, sw_div_3 (by omega) (by omega), show (m : Int) / 3 = ((m / 3 : Nat) : Int) by omega] at e24
    subst e24
    have en1 := s.2.2.2.2.2.1
    refine c_canMake s.1 c.2.2.1 hm2 nm v1 v2 v3 (by omega) v7 (fun h => by have := v9 (by omega); omega) v5 (by omega) (fun hk _ _ => ⟨fun h => absurd h (by decide), fun _ => ?_⟩) (fun hk _ _ => ⟨fun _ => ?_, fun h => absurd rfl h⟩)
    · have hk := (c_kn_k c hm).mp hk
      refine c_reveal (g := g) s c.2.2.1 c.2.2.2.1 c.2.2.2.2 (by omega) (by omega) (fun _ S a _ b => ?_) (fun Y wm sp kY _ => ?_)
      · rw [Int.toNat_natCast]
        refine (a _ hm).1 ?_
        unfold c_mk at hk ⊢
        rcases hk with q | ⟨q1, q2⟩ | ⟨q1, q2, q3, q4⟩
        · exact Or.inl q
        · exact Or.inr (Or.inl ⟨q1, b _ q2⟩)
        · refine Or.inr (Or.inr ⟨q1, b _ q2, b _ q3, ?_⟩)
          rcases q4 with q4 | q4
          · exact Or.inl q4
          · exact Or.inr (b _ q4)
      · rw [Int.toNat_natCast] at kY
        exact mid Y wm sp (fun _ => kY (by omega))
    · exact mid X wl (c_sp_refl c.2.2.1 c.2.2.2.1) (fun h => absurd ((c_kn_k c hm).mpr h) hk)
theorem c_spread (c : c_cx X d nn wl) (U : c_U X) (hw : c_R X w) (k : ∀ Y wm, c_sp g X wl Y wm → c_opd X Y w → (∀ u, c_us X w u → c_usd X Y u) → Q Y) : wm_253 3 w X Q := by
  unfold wm_253
  refine c_openS (g := g) c hw (fun Y wm sp op _ => ?_)
  have cY := c_cx_sp c sp
  have UY := c_lr_U sp.1 U
  have hwY := (c_lr_R sp.1 w).mpr hw
  obtain ⟨L, l1, l2, l3, l4⟩ := c_us_ul UY hwY
  have s := cY.1
  have nm := s.2.2.2.2.1
  have n1 := s.2.2.2.2.2.1
  have dl := s.1.2.2.2.2.2.2.1
  refine c_get (k := 10) (Q := fun v49 => ∀ v55, v55 = sw_iv Y 3 2 → sw_c v55 → ∀ y58, y58 = sw_w (3 * v55) → ∃ n17, wl_253_17 Q n17 3 v49 y58 Y) s hwY.2 (by decide) ?_
  intro v29 e29 _ y32 e32
  have e29 : v29 = c_n Y := e29
  rw [e29, sw_w_s (by omega) (by omega)] at e32
  subst e32
  refine ⟨L.length + 1, c_spr_l _ cY UY l1 l2 (by omega) l4 (by omega) (fun Z wn sp2 us => k Z wn (c_sp_trans sp sp2) (c_opd_r op sp2) (fun u hu => ?_))⟩
  obtain ⟨m, m1, m2⟩ := (l3 u).mp ((c_lr_us sp.1 _ _).mpr hu)
  rw [← m2]
  exact c_usd_l sp (us m m1)
/-- what is closed but for what waits -/
def c_J (X : sw_H) (wl : List Nat) : Prop := ∀ t, c_R X t → (c_mk X (c_kn X) t → c_kn X t ∨ ∃ p ∈ wl, c_us X p t) ∧ (t = 1 → c_kn X t) ∧ (c_d X t 0 = 6 → c_kn X t → c_kn X (c_d X (c_d X t 1).toNat 1).toNat → (c_kn X (c_d X t 2).toNat ∧ (c_d X t 3 ≠ 0 → c_kn X (c_d X t 3).toNat)) ∨ t ∈ wl ∨ (c_d X (c_d X t 1).toNat 1).toNat ∈ wl)
theorem c_mk_us (c : c_cx X d nn wl) (ht : c_R X t) {A B : Nat → Prop} (hm : c_mk X A t) (hn : ¬ c_mk X B t) : ∃ p, A p ∧ ¬ B p ∧ c_us X p t := by
  have T := c.2.1
  have v := (T.2.2.2.2.2.2.2.2.2.1 t ht).1
  have ht1 := ht.1
  have ht2 := ht.2
  have us : ∀ i, i ≤ 2 → (i = 0 ∨ c_d X t 0 = 4 ∨ c_d X t 0 = 6) → c_us X (c_d X t (1 + i)).toNat t := fun i hi h => by
    have e1 : (3 * t + i) / 3 = t := by omega
    have e2 : (3 * t + i) % 3 = i := by omega
    refine ⟨3 * t + i, ⟨by omega, by rw [e1]; exact ht2, by rw [e1, e2]; exact h⟩, ?_, e1⟩
    unfold c_pt
    rw [e1, e2]
  unfold c_mk at hm
  rcases hm with q | ⟨q1, q2⟩ | ⟨q1, q2, q3, q4⟩
  · exact absurd (Or.inl q) hn
  · exact ⟨_, q2, fun h => hn (Or.inr (Or.inl ⟨q1, h⟩)), us 0 (by decide) (Or.inl rfl)⟩
  · by_cases b1 : B (c_d X t 1).toNat
    · by_cases b2 : B (c_d X t 2).toNat
      · rcases q4 with q4 | q4
        · exact absurd (Or.inr (Or.inr ⟨q1, b1, b2, Or.inl q4⟩)) hn
        · exact ⟨_, q4, fun h => hn (Or.inr (Or.inr ⟨q1, b1, b2, Or.inr h⟩)), us 2 (by decide) (Or.inr q1)⟩
      · exact ⟨_, q3, b2, us 1 (by decide) (Or.inr q1)⟩
    · exact ⟨_, q2, b1, us 0 (by decide) (Or.inl rfl)⟩
/-- one that waited is done -/
theorem c_J_step {X0 : sw_H} (c : c_cx X d nn wl) (h : c_J X0 (wl ++ [w])) (lr0 : c_lr X0 X) (ek : ∀ t, c_kn X t ↔ c_kn X0 t) (sp : c_sp g X wl Y wm) (op : c_opd X Y w) (us : ∀ u, c_us X w u → c_usd X Y u) : c_J Y wm := by
  have T := c.2.1
  have lr := sp.1
  have mono : ∀ t, c_kn X t → c_kn Y t := fun t ht => c_sp_mono sp ht
  obtain ⟨_, _, _, ⟨nw, e1, e2⟩, _, _⟩ := sp
  intro t ht
  have htX := (c_lr_R lr t).mp ht
  have ht0 := (c_lr_R lr0 t).mp htX
  have cY : ∀ k, k ≤ 3 → c_d Y t k = c_d X t k := fun k hk => c_lr_d lr (by omega) (Or.inl (by omega))
  have c0 : ∀ k, k ≤ 3 → c_d X t k = c_d X0 t k := fun k hk => c_lr_d lr0 (by omega) (Or.inl (by omega))
  obtain ⟨h1, h2, h3⟩ := h t ht0
  have inw : ∀ p, c_kn Y p → ¬ c_kn X p → p ∈ wm := fun p p1 p2 => by
    rw [e1, List.mem_append]
    rcases (e2 p).mp p1 with q | q
    · exact absurd q p2
    · exact Or.inr q
  have inl : ∀ p, p ∈ wl ++ [w] → p = w ∨ p ∈ wm := fun p hp => by
    rw [List.mem_append, List.mem_singleton] at hp
    rcases hp with q | q
    · right; rw [e1, List.mem_append]; exact Or.inl q
    · exact Or.inl q
  refine ⟨fun hm => ?_, fun e => mono _ ((ek t).mpr (h2 e)), fun s6 k1 k2 => ?_⟩
  · have hm := (c_lr_mk lr _ _).mp hm
    by_cases hx : c_mk X (c_kn X) t
    · have hx0 : c_mk X0 (c_kn X0) t := by
        have e : c_kn X = c_kn X0 := funext fun t => propext (ek t)
        rw [e] at hx
        exact (c_lr_mk lr0 _ _).mp hx
      rcases h1 hx0 with q | ⟨p, p1, p2⟩
      · exact Or.inl (mono _ ((ek t).mpr q))
      · rcases inl p p1 with q | q
        · rw [q] at p2
          exact Or.inl ((us t ((c_lr_us lr0 _ _).mpr p2)).1 hx)
        · exact Or.inr ⟨p, q, (c_lr_us lr _ _).mpr ((c_lr_us lr0 _ _).mpr p2)⟩
    · obtain ⟨p, p1, p2, p3⟩ := c_mk_us c htX hm hx
      exact Or.inr ⟨p, inw p p1 p2, (c_lr_us lr _ _).mpr p3⟩
  · have dd : ∀ u, c_d Y u 1 = c_d X u 1 := fun u => c_lr_d lr (by decide) (Or.inl (by decide))
    have dd0 : ∀ u, c_d X u 1 = c_d X0 u 1 := fun u => c_lr_d lr0 (by decide) (Or.inl (by decide))
    rw [cY 0 (by decide)] at s6
    rw [cY 1 (by decide), dd] at k2 ⊢
    rw [cY 2 (by decide), cY 3 (by decide)]
    by_cases x1 : c_kn X t
    · by_cases x2 : c_kn X (c_d X (c_d X t 1).toNat 1).toNat
      · have q := h3 (by rw [← c0 0 (by decide)]; exact s6) ((ek t).mp x1) (by rw [← c0 1 (by decide), ← dd0]; exact (ek _).mp x2)
        rw [← c0 1 (by decide), ← dd0, ← c0 2 (by decide), ← c0 3 (by decide)] at q
        rcases q with q | q | q
        · exact Or.inl ⟨mono _ ((ek _).mpr q.1), fun hh => mono _ ((ek _).mpr (q.2 hh))⟩
        · rcases inl _ q with e | e
          · rw [← e] at op
            exact Or.inl (op s6 x1 x2)
          · exact Or.inr (Or.inl e)
        · rcases inl _ q with e | e
          · obtain ⟨z1, z2, z3, z4, z5, z6, z7, z8, z9⟩ := c_sealed T htX s6
            have ht2 := htX.2
            have uw : c_us X w (c_d X t 1).toNat := by
              have e1 : 3 * (c_d X t 1).toNat / 3 = (c_d X t 1).toNat := by omega
              have e2 : 3 * (c_d X t 1).toNat % 3 = 0 := by omega
              refine ⟨3 * (c_d X t 1).toNat, ⟨by omega, by rw [e1]; omega, Or.inl e2⟩, ?_, e1⟩
              unfold c_pt
              rw [e1, e2]
              exact e
            have ut : c_us X (c_d X t 1).toNat t := by
              have ht1 := htX.1
              have e1 : 3 * t / 3 = t := by omega
              have e2 : 3 * t % 3 = 0 := by omega
              refine ⟨3 * t, ⟨by omega, by rw [e1]; exact ht2, Or.inl e2⟩, ?_, e1⟩
              unfold c_pt
              rw [e1, e2]
            exact Or.inl ((us _ uw).2 z7 t ut s6 x1 x2)
          · exact Or.inr (Or.inr e)
      · exact Or.inr (Or.inr (inw _ k2 x2))
    · exact Or.inr (Or.inl (inw _ k1 x1))
/-- learn's loop -/
theorem c_lrn_l : ∀ (n : Nat) {left : Int} {X : sw_H} {wl : List Nat}, c_cx X d nn wl → c_U X → c_J X wl → (c_un X : Int) + wl.length ≤ left → left ≤ 1000000000 → c_un X + wl.length < n → (∀ Y, c_lr X Y → c_01 Y → sw_iv Y 3 9 = 0 → (∀ t, c_kn X t → c_kn Y t) → (∀ S, c_clo X S → S g → (∀ t, c_kn X t → S t) → ∀ t, c_kn Y t → S t) → c_clo Y (c_kn Y) → Q Y) → wl_144_6 Q n 3 left X
  | 0, _, _, _, _, _, _, _, _, h, _ => by omega
  | n + 1, left, X, wl, c, U, J, hl, hb, hn, k => by
    have hw := c.2.2.2.1
    have done : wl = [] → Q X := fun e => by
      rw [e] at J hw
      refine k X (c_lr_refl X) c.2.2.1 hw.1 (fun _ h => h) (fun _ _ _ h => h) (fun t ht => ?_)
      obtain ⟨j1, j2, j3⟩ := J t ht
      refine ⟨fun hm => ?_, j2, fun a b e => ?_⟩
      · rcases j1 hm with q | ⟨p, q, _⟩
        · exact q
        · cases q
      · rcases j3 a b e with q | q | q
        · exact q
        · cases q
        · cases q
    unfold wl_144_6
    refine ⟨fun h0 => done ?_, fun h0 => ?_⟩
    · have : wl.length = 0 := by omega
      exact List.eq_nil_of_length_eq_zero this
    intro v1 e1 _
    rw [hw.1] at e1
    subst e1
    refine ⟨fun h1 => done (List.eq_nil_of_length_eq_zero (by omega)), fun h1 => ?_⟩
    intro v4 e4 _
    rw [hw.1] at e4
    subst e4
    have s := c.1
    have S := s.1
    have n31 : sw_rv X 3 1 ≠ 3 := fun e => by
      have h1 := S.1
      have h2 := S.2.1
      rw [e, h1] at h2
      cases h2
    have n38 : sw_rv X 3 8 ≠ 3 := fun e => by
      have h1 := S.1
      have h2 := S.2.2.2.2.2.1
      rw [e, h1] at h2
      cases h2
    rw [sw_w_s (by omega) (by omega)]
    intro B eB
    obtain ⟨w0, w, ew⟩ : ∃ w0 w, wl = w0 ++ [w] := ⟨wl.dropLast, wl.getLast (fun e => by rw [e] at h1; simp at h1), (List.dropLast_concat_getLast _).symm⟩
    have ln : wl.length = w0.length + 1 := by rw [ew]; simp
    have fr : c_fr [3] X B := by rw [eB]; exact c_fr_si _ _ _ _
    have lr : c_lr X B := by
      refine ⟨c_fr_sub fr (by simp), fun f hf => ?_, fun j _ => ?_⟩
      · rw [eB, c_si_f hf]
      · rw [fr.2.2.2.2.2 _ (by simp; exact n31)]
    have i9 : sw_iv B 3 9 = w0.length := by
      rw [eB, c_si_eq]
      omega
    have d9 : ∀ u, c_d B u 9 = c_d X u 9 := fun u => by
      unfold c_d
      rw [fr.2.2.2.2.1, fr.2.2.2.2.2 _ (by simp; exact n31)]
    have ek : ∀ t, c_kn B t ↔ c_kn X t := fun t => by
      unfold c_kn c_k
      rw [c_lr_R lr, d9]
    have wv : ∀ i, sw_iv B (sw_rv B 3 8) i = sw_iv X (sw_rv X 3 8) i := fun i => by
      rw [fr.2.2.2.2.1, fr.2.2.2.2.2 _ (by simp; exact n38)]
    have hwB : c_wt B w0 := by
      refine ⟨i9, fun i t hi => ?_, fun t ht => (ek t).mpr (hw.2.2 t (by rw [ew, List.mem_append]; exact Or.inl ht))⟩
      rw [wv]
      refine hw.2.1 i t ?_
      have hlt : i < w0.length := by
        rcases Nat.lt_or_ge i w0.length with h | h
        · exact h
        · rw [List.getElem?_eq_none h] at hi; cases hi
      rw [ew, List.getElem?_append_left hlt]
      exact hi
    have enB := c_lr_n lr
    have unB : c_un B = c_un X := by
      unfold c_un
      rw [enB]
      simp only [d9]
    have cB : c_cx B d nn w0 := ⟨c_lr_sh lr s, c_lr_T lr s c.2.1, fun t ht => by rw [d9]; exact c.2.2.1 t (by rw [enB] at ht; exact ht), hwB, by have := c.2.2.2.2; omega⟩
    have hwk : c_kn X w := hw.2.2 w (by rw [ew, List.mem_append]; exact Or.inr (by simp))
    have ewv : sw_iv X (sw_rv X 3 8) w0.length = w := hw.2.1 _ _ (by rw [ew, List.getElem?_append_right (Nat.le_refl _), Nat.sub_self]; rfl)
    have un8 := c.2.2.2.2
    have l8 := s.2.2.2.2.2.2.1
    clear eB
    refine ⟨cB.1.1.2.2.2.2.2.1, ?_⟩
    intro q10 e10 v13 e13 _
    rw [i9] at e13
    subst e13
    refine ⟨by omega, by rw [e10, fr.2.2.2.2.1, fr.2.2.2.1]; omega, ?_⟩
    intro v16 e16 _
    rw [Int.toNat_natCast, e10, wv, ewv] at e16
    subst e16
    refine c_spread (g := g) cB (c_lr_U lr U) ((c_lr_R lr w).mpr hwk.1) (fun Y wm sp op us _ => ?_)
    intro y24 e24
    rw [sw_w_s (by omega) (by omega)] at e24
    subst e24
    rw [ew] at J
    have JY := c_J_step cB J lr ek sp op us
    have un2 := sp.2.2.2.2.2
    refine c_lrn_l n (c_cx_sp cB sp) (c_lr_U sp.1 (c_lr_U lr U)) JY (by omega) (by omega) (by omega) (fun Z z1 z2 z3 z4 z5 z6 => ?_)
    refine k Z (c_lr_trans lr (c_lr_trans sp.1 z1)) z2 z3 (fun t ht => z4 t (c_sp_mono sp ((ek t).mpr ht))) (fun S a b e t ht => ?_) z6
    have aB := (c_lr_clo lr S).mpr a
    refine z5 S ((c_lr_clo sp.1 S).mpr aB) b (fun t ht => ?_) t ht
    exact sp.2.2.2.2.1 S aB b (fun t ht => e t ((ek t).mp ht)) t ht
end
end
