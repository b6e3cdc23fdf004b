/-! ===== the reference: simple calls, by the whole state ===== -/
noncomputable section
section
variable {I J : sr_V} {d : Nat → Wt} {nn nm us us' t : Nat} {K K' : Wt → Prop} {tl tl' tp tp' mk mm : List Wt} {rd rd' : Nat → Int} {ms ms' : List (List Wt)} {x y z : Int} {B : Nat → v_M} {Q : sr_V → Prop} {R : Int → sr_V → Prop} {A F : List Nat} {w : Wt}
theorem m_ZZ_fr (h : m_ZZ I mk us nn K tl tp rd ms B) (hL : m_L J mm nm K' tl') (hP : m_P J (w_d mm) tp') (hY : m_Y J rd') (hM : m_M J (w_d mm) ms') (h23 : J 1000 23 = us') (f : m_fr A F I J) (hA : ∀ g ∈ A, g < 18 ∨ g = 24 ∨ g = 25 ∨ g = 26 ∨ g = 55) (hl : w_le mk mm) (hs : w_msl ms ms') : m_ZZ J mm us' nm K' tl' tp' rd' ms' B := by
  obtain ⟨h1, h2, h3, h4, h5⟩ := h
  have g := m_fr_gp f
  refine ⟨⟨hL, m_me_le (m_me_gp h1.2.1 g (fun f k p => ?_)) hl, hM, h23⟩, hP, hY, w_le_at hl h4, fun m hm => m_zm_gp hm (h5 m hm) g hl hs (fun f k p => ?_)⟩
  · rcases p with ⟨p1, p2⟩ | ⟨p1, _⟩
    · have := hA f p2; omega
    · omega
  · have q : f = 1000 ∨ f < 18 ∨ f = 24 ∨ f = 25 ∨ f = 26 ∨ f = 55 := by
      rcases p with ⟨p1, p2⟩ | ⟨p1, _⟩
      · exact Or.inr (hA f p2)
      · exact Or.inl p1
    unfold m_pl m_kq
    exact ⟨by omega, by omega, by omega, by omega, by omega, by omega⟩
/-- a call that makes no term -/
theorem m_ZZ_st (h : m_ZZ I mk us nn K tl tp rd ms B) (f : m_fr A F I J) (hK : 16 ∈ A ∨ 19 ∈ F → m_K J (w_d mk) K) (hN : 13 ∈ A ∨ 14 ∈ A ∨ 18 ∈ F ∨ tl' ≠ tl → m_N J (w_d mk) tl') (hP : 2 ∈ A ∨ 3 ∈ F ∨ tp' ≠ tp → m_P J (w_d mk) tp') (hY : 1 ∈ A ∨ rd' ≠ rd → m_Y J rd') (hM : 24 ∈ A ∨ 25 ∈ A ∨ 26 ∈ A ∨ 22 ∈ F ∨ 23 ∈ F ∨ ms' ≠ ms → m_M J (w_d mk) ms') (hA : ∀ g ∈ A, g = 1 ∨ g = 2 ∨ g = 13 ∨ g = 14 ∨ g = 16 ∨ g = 24 ∨ g = 25 ∨ g = 26 ∨ g = 55) (h4 : 4 ∉ F) (h5 : 5 ∉ F) (hs : w_msl ms ms') : ∃ us', m_ZZ J mk us' nn K tl' tp' rd' ms' B := by
  have h' := h
  obtain ⟨⟨⟨T, k1, k2, k3, k4⟩, _, k5, k6⟩, h2, h3, _⟩ := h'
  have no : ∀ g, g ∉ A → g ≠ 1000 → J g = I g := f.1
  have e4 := f.2 4 h4
  have hT : m_T J (w_d mk) nn := m_T_fr f (fun g hg => by have := hA g hg; omega) h4 h5 T
  have hKJ : m_K J (w_d mk) K := by
    by_cases c : 16 ∈ A ∨ 19 ∈ F
    · exact hK c
    · exact m_K_same (fun g hg => no g (fun hm => by
        have := hA g hm
        by_cases c1 : g = 16
        · rw [c1] at hm; exact c (Or.inl hm)
        · omega) (by omega)) e4 (f.2 19 (fun hm => c (Or.inr hm))) k1
  have hNJ : m_N J (w_d mk) tl' := by
    by_cases c : 13 ∈ A ∨ 14 ∈ A ∨ 18 ∈ F ∨ tl' ≠ tl
    · exact hN c
    · have et : tl' = tl := Classical.byContradiction (fun q => c (Or.inr (Or.inr (Or.inr q))))
      rw [et]
      exact m_N_same (no 13 (fun q => c (Or.inl q)) (by decide)) (no 14 (fun q => c (Or.inr (Or.inl q))) (by decide)) (f.2 18 (fun q => c (Or.inr (Or.inr (Or.inl q))))) e4 k2
  have hPJ : m_P J (w_d mk) tp' := by
    by_cases c : 2 ∈ A ∨ 3 ∈ F ∨ tp' ≠ tp
    · exact hP c
    · have et : tp' = tp := Classical.byContradiction (fun q => c (Or.inr (Or.inr q)))
      rw [et]
      exact m_P_e (no 2 (fun q => c (Or.inl q)) (by decide)) (f.2 3 (fun q => c (Or.inr (Or.inl q)))) (by omega) (fun _ _ => rfl) h2
  have hYJ : m_Y J rd' := by
    by_cases c : 1 ∈ A ∨ rd' ≠ rd
    · exact hY c
    · have et : rd' = rd := Classical.byContradiction (fun q => c (Or.inr q))
      rw [et]
      intro k hk
      rw [no 1 (fun q => c (Or.inl q)) (by decide)]
      exact h3 k hk
  have hMJ : m_M J (w_d mk) ms' := by
    by_cases c : 24 ∈ A ∨ 25 ∈ A ∨ 26 ∈ A ∨ 22 ∈ F ∨ 23 ∈ F ∨ ms' ≠ ms
    · exact hM c
    · have et : ms' = ms := Classical.byContradiction (fun q => c (Or.inr (Or.inr (Or.inr (Or.inr (Or.inr q))))))
      rw [et]
      exact m_M_e (no 24 (fun q => c (Or.inl q)) (by decide)) (no 25 (fun q => c (Or.inr (Or.inl q))) (by decide)) (no 26 (fun q => c (Or.inr (Or.inr (Or.inl q)))) (by decide)) (f.2 22 (fun q => c (Or.inr (Or.inr (Or.inr (Or.inl q)))))) (f.2 23 (fun q => c (Or.inr (Or.inr (Or.inr (Or.inr (Or.inl q))))))) (by omega) (fun _ _ => rfl) k5
  have g0 := hMJ.2.2.1
  exact ⟨(J 1000 23).toNat, m_ZZ_fr h ⟨hT, hKJ, hNJ, e4.trans k3, (f.2 5 h5).trans k4⟩ hPJ hYJ hMJ (by omega) f (fun g hg => by have := hA g hg; omega) (w_le_refl _) hs⟩
theorem m_ZZ_th (h : m_ZZ I mk us nn K tl tp rd ms B) (v : Int) : ∃ us', m_ZZ (su I 1000 0 v) mk us' nn K tl tp rd ms B := m_ZZ_st h (m_su_fr (F := [0]) (by simp)) (by simp) (by simp) (by simp) (by simp) (by simp) (by simp) (by simp) (by simp) (w_msl_refl _)
theorem z_feed {a b c d' e' : Int} (ha : sw_c a) (hb : sw_c b) (hc : sw_c c) (hd : sw_c d') (he : sw_c e') (h : m_ZZ I mk us nn K tl tp rd ms B) (k : ∀ J us', m_ZZ J mk us' nn K tl tp (w_rd a b c d' e') ms B → Q J) : rm_4 a b c d' e' I Q := by
  refine m_feed ha hb hc hd he (fun J hY f => ?_)
  obtain ⟨us', hz⟩ := m_ZZ_st (rd' := w_rd a b c d' e') (tp' := tp) (tl' := tl) (ms' := ms) h f (by simp) (by simp) (by simp) (fun _ => hY) (by simp) (by simp) (by simp) (by simp) (w_msl_refl _)
  exact k J us' hz
theorem z_end (h : m_ZZ I mk us nn K tl tp rd ms B) (q0 : ∀ J us', (x < 0 ∨ 20 < x ∨ 1200 < (tp.length : Int) + x) → m_ZZ J mk us' nn K tl tp rd ms B → R (-1) J) (q1 : ∀ J us', 0 ≤ x → x ≤ 20 → (tp.length : Int) + x ≤ 1200 → m_ZZ J mk us' nn K tl (w_end tp rd x.toNat) (fun _ => 0) ms B → R ((tp.length : Int) + x) J) : rm_6 x I R := by
  refine m_end h.2.2.1 h.2.1 (fun c => ?_) (fun J a1 a2 a3 hY hP f => ?_)
  · obtain ⟨us', hz⟩ := m_ZZ_th h 0
    exact q0 _ us' c hz
  · obtain ⟨us', hz⟩ := m_ZZ_st (rd' := fun _ => 0) (tp' := w_end tp rd x.toNat) (tl' := tl) (ms' := ms) h f (by simp) (by simp) (fun _ => hP) (fun _ => hY) (by simp) (by simp) (by simp) (by simp) (w_msl_refl _)
    exact q1 J us' a1 a2 a3 hz
theorem z_place (hb : tl.length < 44998) (h : m_ZZ I mk us nn K tl tp rd ms B) (q0 : ∀ J us', w_no tl x = none → m_ZZ J mk us' nn K tl tp rd ms B → J 1000 0 = 1 → R 0 J) (q1 : ∀ w J us', w_no tl x = some w → tp.length = 1200 → m_ZZ J mk us' nn K tl tp rd ms B → J 1000 0 = 0 → R (-1) J) (q2 : ∀ w J us', w_no tl x = some w → tp.length < 1200 → m_ZZ J mk us' nn K tl (tp ++ [w]) rd ms B → J 1000 0 = 0 → R (tp.length + 1) J) : rm_8 x I R := by
  refine m_place h.1.1.1 hb h.1.1.2.2.1 h.2.1 (fun c => ?_) (fun w c c2 => ?_) (fun w J a1 a2 j0 hP f => ?_)
  · obtain ⟨us', hz⟩ := m_ZZ_th h 1
    exact q0 _ us' c hz (su_eq _ _ _ _)
  · obtain ⟨us', hz⟩ := m_ZZ_th h 0
    exact q1 w _ us' c c2 hz (su_eq _ _ _ _)
  · obtain ⟨us', hz⟩ := m_ZZ_st (rd' := rd) (tp' := tp ++ [w]) (tl' := tl) (ms' := ms) h f (by simp) (by simp) (fun _ => hP) (by simp) (by simp) (by simp) (by simp) (by simp) (w_msl_refl _)
    exact q2 w J us' a1 a2 hz j0
theorem z_copy (hz : sw_c z) (h : m_ZZ I mk us nn K tl tp rd ms B) (q0 : ∀ J us', (∀ l, ¬ (0 ≤ x ∧ ms[x.toNat]? = some l ∧ 0 ≤ y ∧ 0 ≤ z ∧ y ≤ l.length ∧ tp.length + (w_cpy l y z).length ≤ 1200)) → m_ZZ J mk us' nn K tl tp rd ms B → R (-1) J) (q1 : ∀ l J us', 0 ≤ x → ms[x.toNat]? = some l → 0 ≤ y → 0 ≤ z → y ≤ l.length → tp.length + (w_cpy l y z).length ≤ 1200 → m_ZZ J mk us' nn K tl (tp ++ w_cpy l y z) rd ms B → R ((tp ++ w_cpy l y z).length : Nat) J) : rm_11 x y z I R := by
  refine m_copy hz h.2.1 h.1.2.2.1 (fun c => ?_) (fun l J a1 a2 a3 a4 a5 a6 hP f => ?_)
  · obtain ⟨us', hz⟩ := m_ZZ_th h 0
    exact q0 _ us' c hz
  · obtain ⟨us', hz⟩ := m_ZZ_st (rd' := rd) (tp' := tp ++ w_cpy l y z) (tl' := tl) (ms' := ms) h f (by simp) (by simp) (fun _ => hP) (by simp) (by simp) (by simp) (by simp) (by simp) (w_msl_refl _)
    exact q1 l J us' a1 a2 a3 a4 a5 a6 hz
theorem z_post (h : m_ZZ I mk us nn K tl tp rd ms B) (q0 : ∀ J us', ms.length = 300 → m_ZZ J mk us' nn K tl tp rd ms B → J 1000 0 = 1 → R 0 J) (q1 : ∀ J us', ms.length < 300 → m_ZZ J mk us' nn K tl [] rd (ms ++ [tp]) B → J 1000 0 = 0 → R ms.length J) : rm_23 I R := by
  refine m_post h.1.1.1 h.1.1.2.1 h.1.2.2.1 h.2.1 (fun c => ?_) (fun J a1 j0 hK hM hP f => ?_)
  · obtain ⟨us', hz⟩ := m_ZZ_th h 1
    exact q0 _ us' c hz (su_eq _ _ _ _)
  · obtain ⟨us', hz⟩ := m_ZZ_st (rd' := rd) (tp' := []) (tl' := tl) (ms' := ms ++ [tp]) h f (fun _ => hK) (by simp) (fun _ => hP) (by simp) (fun _ => hM) (by simp) (by simp) (by simp) (w_msl_app _ _)
    exact q1 J us' a1 hz j0
theorem z_isKnown (hb : tl.length < 44999) (h : m_ZZ I mk us nn K tl tp rd ms B) (q0 : ∀ J us', ¬ w_has tl K x → m_ZZ J mk us' nn K tl tp rd ms B → R 0 J) (q1 : ∀ J us', w_has tl K x → m_ZZ J mk us' nn K tl tp rd ms B → R 1 J) : rm_29 x I R := by
  refine m_isKnown h.1.1.1 h.1.1.2.1 hb h.1.1.2.2.1 (fun J c hK f => ?_) (fun J c hK f => ?_)
  · obtain ⟨us', hz⟩ := m_ZZ_st (rd' := rd) (tp' := tp) (tl' := tl) (ms' := ms) h f (fun _ => hK) (by simp) (by simp) (by simp) (by simp) (by simp) (by simp) (by simp) (w_msl_refl _)
    exact q0 J us' c hz
  · obtain ⟨us', hz⟩ := m_ZZ_st (rd' := rd) (tp' := tp) (tl' := tl) (ms' := ms) h f (fun _ => hK) (by simp) (by simp) (by simp) (by simp) (by simp) (by simp) (by simp) (w_msl_refl _)
    exact q1 J us' c hz
theorem z_message (h : m_ZZ I mk us nn K tl tp rd ms B) (q0 : ∀ J us', (x < 0 ∨ (ms.length : Int) ≤ x) → m_ZZ J mk us' nn K tl tp rd ms B → R (-1) J) (q1 : ∀ l J us', 0 ≤ x → ms[x.toNat]? = some l → m_ZZ J mk us' nn K tl tp rd ms B → R l.length J) : rm_35 x I R := by
  obtain ⟨us', hz⟩ := m_ZZ_th h 0
  exact m_message h.1.2.2.1 (fun c => q0 _ us' c hz) (fun l a1 a2 => q1 l _ us' a1 a2 hz)
theorem z_count (hb : tl.length < 44999) (h : m_ZZ I mk us nn K tl tp rd ms B) (qn : ∀ J us', x < 0 ∨ 3 < x → m_ZZ J mk us' nn K tl tp rd ms B → R (-1) J) (q0 : ∀ J us', x = 0 → m_ZZ J mk us' nn K tl tp rd ms B → R tl.length J) (q1 : ∀ J us', x = 1 → m_ZZ J mk us' nn K tl tp rd ms B → R ms.length J) (q2 : ∀ J us', x = 2 → m_ZZ J mk us' nn K tl tp rd ms B → R (w_cnt K tl) J) (q3 : ∀ J us', x = 3 → m_ZZ J mk us' nn K tl tp rd ms B → R tp.length J) : rm_43 x I R := by
  obtain ⟨u0, hz⟩ := m_ZZ_th h 0
  refine m_count h.1.1.1 h.1.1.2.1 hb h.1.1.2.2.1 h.1.2.2.1 h.2.1 (fun c => qn _ u0 c hz) (fun c => q0 _ u0 c hz) (fun c => q1 _ u0 c hz) (fun J c hK f => ?_) (fun c => q3 _ u0 c hz)
  obtain ⟨us', hz⟩ := m_ZZ_st (rd' := rd) (tp' := tp) (tl' := tl) (ms' := ms) h f (fun _ => hK) (by simp) (by simp) (by simp) (by simp) (by simp) (by simp) (by simp) (w_msl_refl _)
  exact q2 J us' c hz
theorem z_sign (hb : tl.length < 44998) (h : m_ZZ I mk us nn K tl tp rd ms B) (q0 : ∀ J us', (∀ l w, ¬ (0 ≤ x ∧ 0 ≤ y ∧ ms[x.toNat]? = some l ∧ l[y.toNat]? = some w)) → m_ZZ J mk us' nn K tl tp rd ms B → R (-1) J) (q1 : ∀ l w J us', 0 ≤ x → 0 ≤ y → ms[x.toNat]? = some l → l[y.toNat]? = some w → m_ZZ J mk us' nn K (w_ts tl w).2 tp rd ms B → R (w_ts tl w).1 J) : rm_37 x y I R := by
  refine m_sign h.1.1.1 h.1.1.2.2.1 hb h.1.2.2.1 (fun c => ?_) (fun l w J a1 a2 a3 a4 hN f => ?_)
  · obtain ⟨us', hz⟩ := m_ZZ_th h 0
    exact q0 _ us' c hz
  · obtain ⟨us', hz⟩ := m_ZZ_st (rd' := rd) (tp' := tp) (tl' := (w_ts tl w).2) (ms' := ms) h f (by simp) (fun _ => hN) (by simp) (by simp) (by simp) (by simp) (by simp) (by simp) (w_msl_refl _)
    exact q1 l w J us' a1 a2 a3 a4 hz
theorem m_tv (T : m_T I d nn) (ht : m_R I t) (e : d t = w) : (if I 6 t = 8 then 0 else I 6 t) = w_srt w ∧ w_dz d (I 7 t) = w_prt w 0 ∧ (I 6 t ≠ 3 → w_dz d (I 8 t) = w_prt w 1) ∧ (I 6 t = 3 → I 8 t = w_lab w) ∧ w_dz d (I 9 t) = w_prt w 2 ∧ I 11 t = w_sz w ∧ (m_sn I t).map (w_sg d) = (w_pts w).drop 3 := by
  have r := T.2.2.2.2.1 t ht.1 ht.2
  have v1 := r.1.1
  have v2 := r.1.2.1
  have vb := r.1.2.2.2.2.2.2.1
  have v0 := r.1.2.2.2.2.2.2.2.2.2.1
  have p5 := r.2.2.1
  have n1 := r.2.2.2.2.2.1
  have n2 := r.2.2.2.2.2.2
  clear r
  have dz : w_dz d 0 = [] := if_pos rfl
  have sl : I 11 t = 0 → m_sn I t = [] := fun h => by
    unfold m_sn m_sl
    rw [h]
    rfl
  by_cases c0 : I 6 t = 8
  · obtain ⟨z1, z2, z3⟩ := v0 (Or.inr (Or.inr c0))
    rw [z1, z2, z3, dz, if_pos c0]
    obtain ⟨i, ⟨_, h5⟩, q⟩ := n2 c0
    rw [q] at e
    rw [sl h5, h5, ← e]
    unfold w_srt w_prt w_sz w_nm
    rw [w_pts_mk, w_mk_head]
    exact ⟨rfl, rfl, fun _ => rfl, fun h => by omega, rfl, rfl, rfl⟩
  · have q := n1 c0
    rw [e] at q
    have ln : (m_sn I t).length = (I 11 t).toNat := by
      unfold m_sn m_sl
      simp
    have hh : ¬ (some (I 6 t).toNat = some 8) := fun h => by
      have := Option.some.inj h
      omega
    rw [q, if_neg c0]
    unfold w_lab w_srt w_prt w_sz w_tm
    rw [w_pts_mk, w_mk_head, if_neg hh, if_neg hh, if_neg hh, if_neg hh]
    refine ⟨?_, rfl, fun h => ?_, fun h => ?_, rfl, ?_, rfl⟩
    · show I 6 t = (((I 6 t).toNat : Nat) : Int)
      omega
    · show _ = (if I 6 t = 3 then _ else _)
      rw [if_neg h]
    · show I 8 t = ((((if I 6 t = 3 then [(I 8 t).toNat] else w_dz d (I 8 t)) : Wt).getD 0 0 : Nat) : Int)
      rw [if_pos h]
      show I 8 t = (((I 8 t).toNat : Nat) : Int)
      omega
    · simp only [List.length_cons, List.length_map]
      omega
theorem z_ofTerm (hb : tl.length < 44998) (h : m_ZZ I mk us nn K tl tp rd ms B) (q0 : ∀ J us', (∀ w u, w_no tl x = some w → ¬ (0 ≤ y ∧ ((w_pts w).drop 3)[y.toNat]? = some u)) → m_ZZ J mk us' nn K tl tp rd ms B → R (-1) J) (q1 : ∀ w u J us', w_no tl x = some w → 0 ≤ y → ((w_pts w).drop 3)[y.toNat]? = some u → m_ZZ J mk us' nn K (w_ts tl u).2 tp rd ms B → R (w_ts tl u).1 J) : rm_33 x y I R := by
  have T := h.1.1.1
  refine m_ofTerm T h.1.1.2.2.1 hb (fun hq => ?_) (fun w t s J hw ht hd y0 y1 hs hN f => ?_)
  · obtain ⟨us', hz⟩ := m_ZZ_th h 0
    refine q0 _ us' (fun w u hw ⟨y0, hu⟩ => ?_) hz
    have hw' : tl[(x - 1).toNat]? = some w := by
      unfold w_no at hw
      split at hw
      · exact hw
      · cases hw
    obtain ⟨t, t1, t2, t3⟩ := h.1.1.2.2.1.2.1 _ _ hw'
    obtain ⟨a1, a2, a3, a4, a5, a6, a7⟩ := m_tv T t1 t3
    refine hq w t hw t1 t3 ⟨y0, ?_⟩
    have := (List.getElem?_eq_some_iff.mp hu).1
    rw [List.length_drop] at this
    rw [a6]
    unfold w_sz
    omega
  · obtain ⟨a1, a2, a3, a4, a5, a6, a7⟩ := m_tv T ht hd
    have hu : ((w_pts w).drop 3)[y.toNat]? = some (w_sg (w_d mk) s) := by
      rw [← a7, List.getElem?_map, hs]
      rfl
    obtain ⟨us', hz⟩ := m_ZZ_st (rd' := rd) (tp' := tp) (tl' := (w_ts tl (w_sg (w_d mk) s)).2) (ms' := ms) h f (by simp) (fun _ => hN) (by simp) (by simp) (by simp) (by simp) (by simp) (by simp) (w_msl_refl _)
    exact q1 w _ J us' hw y0 hu hz
theorem z_term (hb : tl.length < 44998) (h : m_ZZ I mk us nn K tl tp rd ms B) (q0 : ∀ J us', (w_no tl x = none ∨ y < 0 ∨ 4 < y) → m_ZZ J mk us' nn K tl tp rd ms B → R (-1) J) (qs : ∀ w J us', w_no tl x = some w → y = 0 → m_ZZ J mk us' nn K tl tp rd ms B → R (w_srt w) J) (q1 : ∀ w J us', w_no tl x = some w → y = 1 → m_ZZ J mk us' nn K (w_tp tl (w_prt w 0)).2 tp rd ms B → R (w_tp tl (w_prt w 0)).1 J) (q2l : ∀ w J us', w_no tl x = some w → y = 2 → w_srt w = 3 → m_ZZ J mk us' nn K tl tp rd ms B → R (w_lab w) J) (q2 : ∀ w J us', w_no tl x = some w → y = 2 → w_srt w ≠ 3 → m_ZZ J mk us' nn K (w_tp tl (w_prt w 1)).2 tp rd ms B → R (w_tp tl (w_prt w 1)).1 J) (q3 : ∀ w J us', w_no tl x = some w → y = 3 → m_ZZ J mk us' nn K (w_tp tl (w_prt w 2)).2 tp rd ms B → R (w_tp tl (w_prt w 2)).1 J) (q4 : ∀ w J us', w_no tl x = some w → y = 4 → m_ZZ J mk us' nn K tl tp rd ms B → R (w_sz w) J) : rm_31 x y I R := by
  have T := h.1.1.1
  obtain ⟨u0, hz⟩ := m_ZZ_th h 0
  have st : ∀ (J : sr_V) (tl' : List Wt), m_N J (w_d mk) tl' → m_fr [13, 14] [0, 18] I J → ∃ us', m_ZZ J mk us' nn K tl' tp rd ms B := fun J tl' hN f => m_ZZ_st (rd' := rd) (tp' := tp) (tl' := tl') (ms' := ms) h f (by simp) (fun _ => hN) (by simp) (by simp) (by simp) (by simp) (by simp) (by simp) (w_msl_refl _)
  have e3 : ∀ (w : Wt) (t : Nat), m_R I t → w_d mk t = w → (I 6 t = 3 ↔ w_srt w = 3) := fun w t ht hd => by
    have v := (m_tv T ht hd).1
    rw [← v]
    by_cases c8 : I 6 t = 8
    · rw [if_pos c8]; omega
    · rw [if_neg c8]
  refine m_term T h.1.1.2.2.1 hb (fun c => q0 _ u0 c hz) (fun w t hw ht hd hy => ?_) (fun w t J hw ht hd hy hN f => ?_) (fun w t hw ht hd hy h3 => ?_) (fun w t J hw ht hd hy h3 hN f => ?_) (fun w t J hw ht hd hy hN f => ?_) (fun w t hw ht hd hy => ?_)
  · rw [(m_tv T ht hd).1]; exact qs w _ u0 hw hy hz
  · rw [(m_tv T ht hd).2.1] at hN ⊢
    obtain ⟨us', hz⟩ := st J _ hN f
    exact q1 w J us' hw hy hz
  · rw [(m_tv T ht hd).2.2.2.1 h3]
    exact q2l w _ u0 hw hy ((e3 w t ht hd).mp h3) hz
  · rw [(m_tv T ht hd).2.2.1 h3] at hN ⊢
    obtain ⟨us', hz⟩ := st J _ hN f
    exact q2 w J us' hw hy (fun q => h3 ((e3 w t ht hd).mpr q)) hz
  · rw [(m_tv T ht hd).2.2.2.2.1] at hN ⊢
    obtain ⟨us', hz⟩ := st J _ hN f
    exact q3 w J us' hw hy hz
  · rw [(m_tv T ht hd).2.2.2.2.2.1]; exact q4 w _ u0 hw hy hz
end
end
