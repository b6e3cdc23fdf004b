/-! ===== the room of 512 calls ===== -/
noncomputable section
/-- texts of a kind for which nothing was counted yet -/
def b_un (τ : Int) (Tx : List (List Wt)) : List (List Wt) → Nat
  | [] => 0
  | p :: ms => @ite _ (w_ft p τ ∧ p ∉ Tx) (Classical.propDecidable _) 1 0 + b_un τ Tx ms
section
variable {τ : Int} {Tx Ty : List (List Wt)} {p lm : List Wt}
theorem b_un_app : ∀ (a b : List (List Wt)), b_un τ Tx (a ++ b) = b_un τ Tx a + b_un τ Tx b
  | [], b => by rw [List.nil_append]; show _ = 0 + _; omega
  | p :: a, b => by
    have ih := b_un_app a b
    show _ + b_un τ Tx (a ++ b) = _ + b_un τ Tx a + b_un τ Tx b
    rw [ih]
    omega
theorem b_un_1 : b_un τ Tx [p] ≤ 1 := by
  show @ite _ (w_ft p τ ∧ p ∉ Tx) (Classical.propDecidable _) 1 0 + 0 ≤ 1
  split <;> omega
theorem b_un_0 (h : ¬ w_ft p τ) : b_un τ Tx [p] = 0 := by
  show @ite _ (w_ft p τ ∧ p ∉ Tx) (Classical.propDecidable _) 1 0 + 0 = 0
  rw [if_neg (fun c => h c.1)]
theorem b_un_le : ∀ (ms : List (List Wt)), b_un τ (lm :: Tx) ms ≤ b_un τ Tx ms
  | [] => Nat.le_refl _
  | p :: ms => by
    have ih := b_un_le ms
    show @ite _ (w_ft p τ ∧ p ∉ lm :: Tx) (Classical.propDecidable _) 1 0 + _ ≤ @ite _ (w_ft p τ ∧ p ∉ Tx) (Classical.propDecidable _) 1 0 + _
    by_cases c : w_ft p τ ∧ p ∉ Tx
    · rw [if_pos c]
      split <;> omega
    · rw [if_neg c, if_neg (fun h => c ⟨h.1, fun k => h.2 (List.mem_cons_of_mem _ k)⟩)]
      omega
theorem b_un_lt (h4 : w_ft lm τ) (hn : lm ∉ Tx) : ∀ (ms : List (List Wt)), lm ∈ ms → b_un τ (lm :: Tx) ms + 1 ≤ b_un τ Tx ms
  | [], h => by cases h
  | p :: ms, h => by
    show @ite _ (w_ft p τ ∧ p ∉ lm :: Tx) (Classical.propDecidable _) 1 0 + _ + 1 ≤ @ite _ (w_ft p τ ∧ p ∉ Tx) (Classical.propDecidable _) 1 0 + _
    by_cases e : p = lm
    · subst e
      have := b_un_le (τ := τ) (Tx := Tx) (lm := p) ms
      rw [if_neg (fun c => c.2 (List.mem_cons_self ..)), if_pos ⟨h4, hn⟩]
      omega
    · have h : lm ∈ ms := by
        rcases List.mem_cons.mp h with g | g
        · exact absurd g.symm e
        · exact g
      have ih := b_un_lt h4 hn ms h
      by_cases c : w_ft p τ ∧ p ∉ Tx
      · rw [if_pos c]
        split <;> omega
      · rw [if_neg c, if_neg (fun h => c ⟨h.1, fun k => h.2 (List.mem_cons_of_mem _ k)⟩)]
        omega
theorem b_un_x : 665 * b_un 4 Tx [p] + 400 * b_un 2 Ty [p] ≤ 665 := by
  by_cases c : w_ft p 4
  · have n2 : ¬ w_ft p 2 := fun c2 => by
      unfold w_ft at c c2
      rw [c2] at c
      exact absurd (Option.some.inj c) (by decide)
    have a := b_un_1 (τ := 4) (Tx := Tx) (p := p)
    have b := b_un_0 (τ := 2) (Tx := Ty) n2
    omega
  · have a := b_un_0 (τ := 4) (Tx := Tx) c
    have b := b_un_1 (τ := 2) (Tx := Ty) (p := p)
    omega
end
/-- the HASH of a short message -/
def b_hp (p : List Wt) : List Wt := if p.length ≤ 9 then [w_hs p] else []
section
variable {p : List Wt}
theorem b_hp_n : (b_hp p).length ≤ 1 ∧ b_tot (b_hp p) ≤ 9 := by
  unfold b_hp
  split
  · rename_i c
    refine ⟨Nat.le_refl _, ?_⟩
    rw [b_tot_1]
    unfold w_hs
    rw [b_sz]
    exact c
  · exact ⟨Nat.zero_le _, Nat.zero_le _⟩
theorem b_hp_in (h : p.length ≤ 9) : w_hs p ∈ b_hp p := by
  unfold b_hp
  rw [if_pos h]
  exact List.mem_singleton.mpr rfl
end
/-- what is had of the covers after t calls -/
def b_in (t : Nat) (mc mr : List Wt) (ms : List (List Wt)) (L : List Wt) (Tx Ty : List (List Wt)) : Prop := (∀ w ∈ mc, w ∈ L) ∧ (∀ w ∈ mr, w ∈ L) ∧ 2 * L.length + 86 * b_un 4 Tx ms ≤ 98 + 110 * t + 106 * ms.length ∧ b_tot L + (665 * b_un 4 Tx ms + 400 * b_un 2 Ty ms) ≤ 800 * t + 936 * ms.length ∧ (∀ w ∈ mc, b_7 w) ∧ (∀ p ∈ ms, p.length ≤ 9 → w_hs p ∈ L) ∧ (∀ p ∈ Tx, ∀ v, e_tS p v → v ∈ L) ∧ ∀ p ∈ Ty, w_hs p ∈ L
/-- how one call goes on -/
def b_nx (t : Nat) (ms' : List (List Wt)) (L : List Wt) (S : Wt → Prop) : Prop := ∃ L' Tx' Ty', (∀ v, S v → v ∈ L ++ L') ∧ (∀ v, S v → b_7 v) ∧ 2 * (L ++ L').length + 86 * b_un 4 Tx' ms' ≤ 98 + 110 * (t + 1) + 106 * ms'.length ∧ b_tot (L ++ L') + (665 * b_un 4 Tx' ms' + 400 * b_un 2 Ty' ms') ≤ 800 * (t + 1) + 936 * ms'.length ∧ (∀ p ∈ ms', p.length ≤ 9 → w_hs p ∈ L ++ L') ∧ (∀ p ∈ Tx', ∀ v, e_tS p v → v ∈ L ++ L') ∧ ∀ p ∈ Ty', w_hs p ∈ L ++ L'
section
variable {H : sw_H} {n nn t : Nat} {σ : Nat → Int} {K S : Wt → Prop} {tl tp mk mc mr L : List Wt} {rd : Nat → Int} {ms ms' Tx Ty : List (List Wt)} {cn cs : Int} {B : Nat → v_M}
/-- no message is added -/
theorem b_nx_0 (hI : b_in t mc mr ms L Tx Ty) {x u : Nat} (hc : b_cv (fun v => S v ∧ v ∉ L) x u) (hx : 2 * x ≤ 110) (hu : u ≤ 800) (h7 : ∀ v, S v → b_7 v) : b_nx t ms L S := by
  obtain ⟨i1, i2, i3, i4, i5, i6, i7, i8⟩ := hI
  obtain ⟨L', c1, c2, c3⟩ := hc
  refine ⟨L', Tx, Ty, fun v hv => ?_, h7, by rw [List.length_append]; omega, by rw [b_tot_app]; omega, fun p hp hl => List.mem_append_left _ (i6 p hp hl), fun p hp v hv => List.mem_append_left _ (i7 p hp v hv), fun p hp => List.mem_append_left _ (i8 p hp)⟩
  by_cases c : v ∈ L
  · exact List.mem_append_left _ c
  · exact List.mem_append_right _ (c1 v ⟨hv, c⟩)
/-- one is added -/
theorem b_nx_1 (hI : b_in t mc mr ms L Tx Ty) {x u : Nat} {p : List Wt} (hc : b_cv S x u) (hx : 2 * x + 2 + 86 * b_un 4 Tx [p] ≤ 216) (hu : u + 9 + (665 * b_un 4 Tx [p] + 400 * b_un 2 Ty [p]) ≤ 1736) (h7 : ∀ v, S v → b_7 v) : b_nx t (ms ++ [p]) L S := by
  obtain ⟨i1, i2, i3, i4, i5, i6, i7, i8⟩ := hI
  obtain ⟨L', c1, c2, c3⟩ := hc
  obtain ⟨p1, p2⟩ := b_hp_n (p := p)
  have un := b_un_app (τ := 4) (Tx := Tx) ms [p]
  have uy := b_un_app (τ := 2) (Tx := Ty) ms [p]
  refine ⟨L' ++ b_hp p, Tx, Ty, fun v hv => List.mem_append_right _ (List.mem_append_left _ (c1 v hv)), h7, ?_, ?_, fun q hq hl => ?_, fun q hq v hv => List.mem_append_left _ (i7 q hq v hv), fun q hq => List.mem_append_left _ (i8 q hq)⟩
  · rw [List.length_append, List.length_append, un, List.length_append, List.length_singleton]
    omega
  · rw [b_tot_app, b_tot_app, un, uy, List.length_append, List.length_singleton]
    omega
  · rcases List.mem_append.mp hq with g | g
    · exact List.mem_append_left _ (i6 q g hl)
    · rw [List.mem_singleton.mp g] at hl ⊢
      exact List.mem_append_right _ (List.mem_append_right _ (b_hp_in hl))
/-- two are added, of which the first is no WELCOME -/
theorem b_nx_2 (hI : b_in t mc mr ms L Tx Ty) {x u : Nat} {p q : List Wt} (hc : b_cv S x u) (hp4 : ¬ w_ft p 4) (hp2 : ¬ w_ft p 2) (hx : 2 * x ≤ 232) (hu : u ≤ 1988) (h7 : ∀ v, S v → b_7 v) : b_nx t (ms ++ [p, q]) L S := by
  obtain ⟨i1, i2, i3, i4, i5, i6, i7, i8⟩ := hI
  obtain ⟨L', c1, c2, c3⟩ := hc
  obtain ⟨p1, p2⟩ := b_hp_n (p := p)
  obtain ⟨q1, q2⟩ := b_hp_n (p := q)
  have un := b_un_app (τ := 4) (Tx := Tx) ms [p, q]
  have un2 := b_un_app (τ := 4) (Tx := Tx) [p] [q]
  have uy := b_un_app (τ := 2) (Tx := Ty) ms [p, q]
  have uy2 := b_un_app (τ := 2) (Tx := Ty) [p] [q]
  have u0 := b_un_0 (τ := 4) (Tx := Tx) hp4
  have y0 := b_un_0 (τ := 2) (Tx := Ty) hp2
  have u1 := b_un_1 (τ := 4) (Tx := Tx) (p := q)
  have ux := b_un_x (Tx := Tx) (Ty := Ty) (p := q)
  have e2 : [p] ++ [q] = [p, q] := rfl
  rw [e2] at un2 uy2
  have ln : (ms ++ [p, q]).length = ms.length + 2 := by rw [List.length_append]; rfl
  refine ⟨L' ++ (b_hp p ++ b_hp q), Tx, Ty, fun v hv => List.mem_append_right _ (List.mem_append_left _ (c1 v hv)), h7, ?_, ?_, fun r hr hl => ?_, fun r hr v hv => List.mem_append_left _ (i7 r hr v hv), fun r hr => List.mem_append_left _ (i8 r hr)⟩
  · rw [List.length_append, List.length_append, List.length_append, un, ln]
    omega
  · rw [b_tot_app, b_tot_app, b_tot_app, un, uy, ln]
    omega
  · rcases List.mem_append.mp hr with g | g
    · exact List.mem_append_left _ (i6 r g hl)
    · rcases List.mem_cons.mp g with g | g
      · rw [g] at hl ⊢
        exact List.mem_append_right _ (List.mem_append_right _ (List.mem_append_left _ (b_hp_in hl)))
      · rw [List.mem_singleton.mp g] at hl ⊢
        exact List.mem_append_right _ (List.mem_append_right _ (List.mem_append_right _ (b_hp_in hl)))
/-- one call -/
theorem b_step (hZ : l_Z n σ H mc mr nn K tl tp rd ms B cn cs) (hI : b_in t mc mr ms L Tx Ty) (h : l_cv (w_rp K) K nn ms B tp S ms') : b_nx t ms' L S := by
  obtain ⟨hS, hc, ⟨I, us, hm, hz⟩, hv, h5, hK⟩ := hZ
  have hL := hc.1.1.1.1
  have clo := b_clo_c hL
  have vl := m_ZZ_vl hz
  have x5 := m_ZZ_x5 hz h5
  have lmk : ∀ lm ∈ ms, ∀ w ∈ lm, w.head? ≠ some 1000 → w ∈ mc := fun lm hlm => b_ms_mk hL hc.1.2.1 hlm
  have iL := hI.1
  have i5 := hI.2.2.2.2.1
  rcases h with ⟨h1, e | e⟩ | ⟨⟨w, h1, h2⟩, e⟩ | ⟨⟨m, hm', h1⟩, e⟩ | ⟨⟨m, hm', h1⟩, p, e⟩ | ⟨⟨m, kd, of, l, hm', hin, hl, h1⟩, p, e⟩ | ⟨m, C, Pt, x2, hm', hin, hmo, h1, e⟩ | ⟨m, mi, lm, C, Pt, hm', hmo, hlm, h1, e⟩
  · subst e
    exact b_nx_0 hI (x := 0) (u := 0) (b_cv_no (fun v hv => h1 v hv.1)) (by decide) (by decide) (fun v hv => absurd hv (h1 v))
  · subst e
    have := b_un_1 (τ := 4) (Tx := Tx) (p := tp)
    have := b_un_x (Tx := Tx) (Ty := Ty) (p := tp)
    exact b_nx_1 hI (x := 0) (u := 0) (b_cv_no h1) (by omega) (by omega) (fun v hv => absurd hv (h1 v))
  · subst e
    refine b_nx_0 hI (b_cv_1 (w := w) (fun v hv => h1 v hv.1)) (by decide) (by omega) (fun v hv => ?_)
    rw [h1 v hv]
    exact fun _ => by omega
  · subst e
    obtain ⟨a1, a2⟩ := b_crL (m := m) (nn := nn)
    exact b_nx_0 hI (b_cv_mem (w_crL m nn) (fun v hv => h1 v hv.1)) (by omega) (by omega) (fun v hv => b_7_cr (h1 v hv))
  · subst e
    obtain ⟨a1, a2⟩ := b_ofL (m := m) (nn := nn)
    have := b_un_1 (τ := 4) (Tx := Tx) (p := p)
    have := b_un_x (Tx := Tx) (Ty := Ty) (p := p)
    exact b_nx_1 hI (b_cv_mem _ h1) (by omega) (by omega) (fun v hv => b_7_of (h1 v hv))
  · subst e
    have l9 : kd = 1 → l.length = 9 := fun c => by
      obtain ⟨v, hv, _⟩ := (hl c).2
      exact hv.1
    obtain ⟨a1, a2⟩ := b_prA (m := m) (nn := nn) (G := v_G (B m)) (kd := kd) (of := of) (l := l) 19 (b_prB l9)
    have := b_un_1 (τ := 4) (Tx := Tx) (p := p)
    have := b_un_x (Tx := Tx) (Ty := Ty) (p := p)
    exact b_nx_1 hI (b_cv_mem _ h1) (by omega) (by omega) (fun v hv => b_7_pr l9 (h1 v hv))
  · have iv := hmo.1.1 hin
    have gok : gg_ok (v_G (B m)) := ((hz.2.2.2.2 m hm').2.1 hin).1
    have okC := w_kc_ok vl hmo.1.2.1
    have sub : ∀ c ∈ v_L C (B m), c ∈ C := fun c hc => by
      rcases h_ga_sub C [] c hc with h | h
      · cases h
      · exact h
    have hok : ∀ c ∈ v_L C (B m), p_cok c.1 := fun c hc => okC c (sub c hc)
    have p5 : h_p5 (v_L C (B m)) := fun c hc => w_kc_5 x5 hmo.1.2.1 c (sub c hc)
    have hd : v_L C (B m) = [] ∨ h_done (gg_T (v_G (B m))) (v_L C (B m)) (gg_lf (v_G (B m))) := h_ga_ok C [] (Or.inl rfl)
    obtain ⟨lt, cv⟩ := b_kS (nn := nn) (wp := v_wp x2 C (B m)) hm' gok iv.1 hok p5 hd
    have a16 := (k_ad_ok gok iv.1 hok p5 hd).1
    obtain ⟨g1, g2⟩ := k_iv (nn := nn) (wp := v_wp x2 C (B m)) hm' gok iv.1 hok p5 hd
    have inf := b_inf (G := k_G (v_G (B m)) m nn (v_wp x2 C (B m)) (v_L C (B m))) (cm := k_cm (v_G (B m)) m nn (v_wp x2 C (B m)) (v_L C (B m))) g2.1 g2.2.2.2.2.2
    have h7 : ∀ v, S v → b_7 v := fun v hv => b_7_cm (by omega) inf (h1 v hv)
    have cv := b_cv_im cv h1
    have f3 : ¬ w_ft (k_M (v_G (B m)) m nn (v_wp x2 C (B m)) (v_L C (B m))) 4 := fun c => by
      unfold w_ft k_M w_cM k_lt at c
      split at c
      · exact absurd (Option.some.inj (show some (w_by 3) = some (w_by 4) from c)) (by decide)
      · exact absurd (Option.some.inj (show some (w_by 3) = some (w_by 4) from c)) (by decide)
    have f2 : ¬ w_ft (k_M (v_G (B m)) m nn (v_wp x2 C (B m)) (v_L C (B m))) 2 := fun c => by
      unfold w_ft k_M w_cM k_lt at c
      split at c
      · exact absurd (Option.some.inj (show some (w_by 3) = some (w_by 2) from c)) (by decide)
      · exact absurd (Option.some.inj (show some (w_by 3) = some (w_by 2) from c)) (by decide)
    unfold k_ms2 at e
    by_cases ca : k_ad (v_G (B m)) (v_L C (B m)) = []
    · rw [if_pos ca] at e
      subst e
      rw [ca] at cv
      have u0 := b_un_0 (τ := 4) (Tx := Tx) f3
      have y0 := b_un_0 (τ := 2) (Tx := Ty) f2
      exact b_nx_1 hI cv (by rw [u0]; decide) (by rw [u0, y0]; decide) h7
    · rw [if_neg ca] at e
      subst e
      exact b_nx_2 hI cv f3 f2 (by omega) (by omega) h7
  · subst e
    have lin := List.mem_of_getElem? hlm
    have h7 : ∀ v, S v → b_7 v := fun v hv => b_7_dl (h1 v hv)
    have l12 : lm.length ≤ 1200 := (hc.1.2.1.2.2.2.2.2 mi lm hlm).2.2.1
    by_cases c2 : w_ft lm 2
    · have n3 : ¬ w_ft lm 3 := fun c => by
        unfold w_ft at c c2
        rw [c2] at c
        exact absurd (Option.some.inj c) (by decide)
      have n4 : ¬ w_ft lm 4 := fun c => by
        unfold w_ft at c c2
        rw [c2] at c
        exact absurd (Option.some.inj c) (by decide)
      have sp : ∀ v, S v → v = w_mem (v_G (B m)) ∨ v = w_hs lm := fun v hv => by
        rcases h1 v hv with ⟨_, g⟩ | ⟨g, _⟩ | ⟨g, _⟩
        · exact g
        · exact absurd g n3
        · exact absurd g n4
      by_cases cY : lm ∈ Ty
      · have a := b_cv_t (S := fun v => v = w_mem (v_G (B m))) (fun v h => h)
        refine b_nx_0 hI (b_cv_im a (fun v hv => ?_)) (by decide) (by decide) h7
        rcases sp v hv.1 with g | g
        · exact g
        · refine absurd ?_ hv.2
          rw [g]
          exact hI.2.2.2.2.2.2.2 lm cY
      · obtain ⟨i1, i2, i3, i4, _, i6, i7, i8⟩ := hI
        have un := b_un_lt c2 cY _ lin
        have z1 : w_sz (w_mem (v_G (B m))) = 0 := b_sz 3 _ _ _ _
        have z2 : w_sz (w_hs lm) = lm.length := b_sz 1 _ _ _ _
        have bt : b_tot [w_mem (v_G (B m)), w_hs lm] = lm.length := by
          unfold b_tot
          rw [List.map_cons, List.map_cons, List.map_nil, List.sum_cons, List.sum_cons, List.sum_nil, z1, z2]
          omega
        refine ⟨[w_mem (v_G (B m)), w_hs lm], Tx, lm :: Ty, fun v hv => List.mem_append_right _ ?_, h7, by rw [List.length_append, show [w_mem (v_G (B m)), w_hs lm].length = 2 from rfl]; omega, by rw [b_tot_app, bt]; omega, fun p hp hl => List.mem_append_left _ (i6 p hp hl), fun p hp v hv => List.mem_append_left _ (i7 p hp v hv), fun p hp => ?_⟩
        · rcases sp v hv with g | g
          · rw [g]; exact List.mem_cons_self ..
          · rw [g]; exact List.mem_cons_of_mem _ (List.mem_cons_self ..)
        · rcases List.mem_cons.mp hp with g | g
          · rw [g]; exact List.mem_append_right _ (List.mem_cons_of_mem _ (List.mem_cons_self ..))
          · exact List.mem_append_left _ (i8 p g)
    · by_cases c3 : w_ft lm 3 ∧ v_in (B m)
      · have n4 : ¬ w_ft lm 4 := fun c => by
          have c3 := c3.1
          unfold w_ft at c c3
          rw [c3] at c
          exact absurd (Option.some.inj c) (by decide)
        have iv := hmo.1.1 c3.2
        have cv := b_dS (K := K) (C := C) (lm := lm) iv.1 (fun w hw hd => i5 w (lmk lm lin w hw (by rw [hd]; decide)) hd)
        refine b_nx_0 hI (b_cv_im cv (fun v hv => ?_)) (by decide) (by decide) h7
        rcases h1 v hv.1 with ⟨g, _⟩ | ⟨_, _, g⟩ | ⟨g, _⟩
        · exact absurd g c2
        · exact g
        · exact absurd g n4
      · by_cases c4 : w_ft lm 4
        rotate_left
        · refine b_nx_0 hI (x := 0) (u := 0) (b_cv_no (fun v hv => ?_)) (by decide) (by decide) h7
          rcases h1 v hv.1 with ⟨g, _⟩ | ⟨g1, g2, _⟩ | ⟨g, _⟩
          · exact c2 g
          · exact c3 ⟨g1, g2⟩
          · exact c4 g
        -- a WELCOME
        obtain ⟨i1, i2, i3, i4, _, i6, i7, i8⟩ := hI
        have vlm := vl lm lin
        have spl : ∀ v, S v → v ∈ L ∨ e_tS lm v ∨ e_oS K Pt lm v := fun v hv => by
          rcases h1 v hv with ⟨g, _⟩ | ⟨g1, g2, _⟩ | ⟨_, g⟩
          · exact absurd g c2
          · exact absurd ⟨g1, g2⟩ c3
          · rcases e_wS_sp g with ⟨e, he, ev⟩ | g
            · left
              obtain ⟨ik, f, g0, hp, _⟩ := hmo.1.2.2.2.1 e he
              obtain ⟨j, hj⟩ := List.mem_iff_getElem?.mp he
              have jl := (List.getElem?_eq_some_iff.mp hj).1
              have pt := hmo.1.2.2.1
              obtain ⟨⟨k, u, w⟩, hk⟩ : ∃ x, (v_Lk (B m))[j]? = some x := ⟨_, List.getElem?_eq_getElem (by rw [← pt.1]; exact jl)⟩
              obtain ⟨p, hp1, hp2⟩ := pt.2 j k u w hk
              rw [hj] at hp2
              have hp2 := Option.some.inj hp2
              have ep : e.1 = p := by rw [hp2]
              rw [ev, ep]
              exact i6 p (List.mem_of_getElem? hp1) (by rw [← ep]; exact Nat.le_of_eq hp.1)
            · exact Or.inr g
        have co := b_eO (K := K) (Pt := Pt) vlm
        by_cases cT : lm ∈ Tx
        · refine b_nx_0 ⟨i1, i2, i3, i4, i5, i6, i7, i8⟩ (b_cv_im co (fun v hv => ?_)) (by decide) (by decide) h7
          rcases spl v hv.1 with g | g | g
          · exact absurd g hv.2
          · exact absurd (i7 lm cT v g) hv.2
          · exact g
        · have ct := b_eT (mk := mc) vlm clo (lmk lm lin)
          obtain ⟨L1, t1, t2, t3⟩ := ct
          obtain ⟨L2, o1, o2, o3⟩ := co
          have un := b_un_lt c4 cT _ lin
          have tin : ∀ v, e_tS lm v → v ∈ L ++ (L1 ++ L2) := fun v hv => by
            by_cases c : v ∈ mc
            · exact List.mem_append_left _ (i1 v c)
            · exact List.mem_append_right _ (List.mem_append_left _ (t1 v ⟨hv, c⟩))
          refine ⟨L1 ++ L2, lm :: Tx, Ty, fun v hv => ?_, h7, by rw [List.length_append, List.length_append]; omega, by rw [b_tot_app, b_tot_app]; omega, fun p hp hl => List.mem_append_left _ (i6 p hp hl), fun p hp v hv => ?_, fun p hp => List.mem_append_left _ (i8 p hp)⟩
          · rcases spl v hv with g | g | g
            · exact List.mem_append_left _ g
            · exact tin v g
            · exact List.mem_append_right _ (List.mem_append_right _ (o1 v g))
          · rcases List.mem_cons.mp hp with g | g
            · rw [g] at hv
              exact tin v hv
            · exact List.mem_append_left _ (i7 p g v hv)
end
end
