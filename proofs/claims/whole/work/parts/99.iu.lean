/-! ===== the class: indexOfPackage, placeInWelcome, dropPackage ===== -/
noncomputable section
variable {H H0 Z X : sw_H} {nn r ra m i b e1 : Nat} {K S : Wt → Prop} {tl mk mm lm : List Wt} {ms : List (List Wt)} {cn cs N U M x1 : Int} {P : Int → sw_H → Prop} {Q : sw_H → Prop} {L : List (Nat × Wt × Wt)} {Pt : List (List Wt × Wt × Wt)} {prs : List (Wt × Wt)} {h : Wt}
theorem c_ip_2 (hL : c_L H mk nn K tl) (hma : c_ma H m) (hP : c_pk H mk ms m L) (hpt : w_pt ms L Pt) (hx : w_at mk x1 h) (q1 : ∀ i e, Pt[i]? = some e → h = w_t 1 [] [] [] e.1 → (∀ (i' : Nat) e', i' < i → Pt[i']? = some e' → h ≠ w_t 1 [] [] [] e'.1) → P i H) (q0 : (∀ e ∈ Pt, h ≠ w_t 1 [] [] [] e.1) → P (-1) H) : ∀ (n i : Nat), i ≤ L.length → L.length - i < n → (∀ (i' : Nat) e', i' < i → Pt[i']? = some e' → h ≠ w_t 1 [] [] [] e'.1) → wl_310_2 P n (120 + 54 * m) x1 i H
  | 0, _, _, h, _ => by omega
  | n + 1, i, hi, hn, inv => by
    obtain ⟨p1, p2, p3⟩ := id hP
    obtain ⟨_, _, a13, _, _, _, aty⟩ := id hma
    unfold wl_310_2
    intro v1 e1 _
    rw [p1] at e1
    refine ⟨fun c => q0 (fun e he => ?_), fun c => ?_⟩
    · obtain ⟨j, hj⟩ := List.getElem?_of_mem he
      have := (List.getElem?_eq_some_iff.mp hj).1
      have l1 := hpt.1
      exact inv j e (by omega) hj
    have il : i < L.length := by omega
    obtain ⟨⟨kk, u, v⟩, hu⟩ : ∃ x, L[i]? = some x := ⟨_, List.getElem?_eq_getElem il⟩
    obtain ⟨p, hp, hpi⟩ := hpt.2 i kk u v hu
    obtain ⟨_, _, _, p', hp', a4⟩ := p3 i kk u v hu
    have ep : p' = p := Option.some.inj (hp'.symm.trans hp)
    subst ep
    rw [a13]
    refine ⟨(aty 51 (by decide) (by decide)).1, ?_⟩
    intro q4 e4
    rw [e4]
    refine ⟨by omega, by rw [(aty 51 (by decide) (by decide)).2]; omega, ?_⟩
    intro v7 e7 _
    rw [Int.toNat_natCast] at e7
    rw [← e7] at a4
    refine ⟨fun c1 => ?_, fun c1 => q1 i _ hpi ?_ inv⟩
    · intro y10 e10
      rw [sw_s1 (by omega)] at e10
      rw [e10]
      refine c_ip_2 hL hma hP hpt hx q1 q0 n (i + 1) (by omega) (by omega) (fun i' e' hi' he' => ?_)
      by_cases e : i' = i
      · subst e
        rw [hpi] at he'
        rw [← Option.some.inj he']
        intro c2
        have c2 : h = w_t 1 [] [] [] p' := c2
        rw [c2] at hx
        exact c1 (w_at_inj (c_L_nd hL) a4 hx)
      · exact inv i' e' (by omega) he'
    · rw [c1] at a4
      exact w_at_fun hx a4
theorem c_indexOfPackage (hL : c_L H mk nn K tl) (hma : c_ma H m) (hP : c_pk H mk ms m L) (hpt : w_pt ms L Pt) (hx : w_at mk x1 h) (q1 : ∀ i e, Pt[i]? = some e → h = w_t 1 [] [] [] e.1 → (∀ (i' : Nat) e', i' < i → Pt[i']? = some e' → h ≠ w_t 1 [] [] [] e'.1) → P i H) (q0 : (∀ e ∈ Pt, h ≠ w_t 1 [] [] [] e.1) → P (-1) H) : wm_310 (120 + 54 * m) x1 H P := by
  unfold wm_310
  exact ⟨L.length + 1, c_ip_2 hL hma hP hpt hx q1 q0 _ 0 (by omega) (by omega) (fun i' e' hi' => by omega)⟩
theorem c_pw_4 (hL : c_L H mk nn K tl) (hTa : c_Ta H) (h18 : sw_ty H 18 = 72) (h10 : sw_iv H 18 10 = (e1 : Nat)) (hma : c_ma H m) (hP : c_pk H mk ms m L) (hpt : w_pt ms L Pt) (hsg : c_sg H (w_d mk) r ra lm) (he1 : e1 = b + 2 * prs.length) (hel : e1 ≤ lm.length) (hlm : lm.length ≤ 1200) (hprs : ∀ (k : Nat) pr, prs[k]? = some pr → lm[b + 2 * k]? = some pr.1 ∧ pr.1.head? = some 1) (q1 : ∀ k i pr e, e_find Pt prs k i pr e → P ((b + 2 * k : Nat) : Int) H) (q0 : e_none Pt prs → P (-1) H) : ∀ (n k : Nat), k ≤ prs.length → prs.length - k < n → (∀ (k' : Nat) pr', k' < k → prs[k']? = some pr' → ∀ e' ∈ Pt, pr'.1 ≠ w_t 1 [] [] [] e'.1) → wl_309_4 P n 94 (120 + 54 * m) r ((b + 2 * k : Nat) : Int) H
  | 0, _, _, h, _ => by omega
  | n + 1, k, hk, hn, inv => by
    obtain ⟨t94, r0, r1, r2, r3, r4, _⟩ := id hTa
    unfold wl_309_4
    rw [r2]
    refine ⟨h18, ?_⟩
    intro q1' e1' v4 e4 _
    rw [e1', h10] at e4
    rw [sw_s1 (by omega)]
    refine ⟨fun c => q0 (fun pr hpr => ?_), fun c => ?_⟩
    · obtain ⟨j, hj⟩ := List.getElem?_of_mem hpr
      exact inv j pr (by have := (List.getElem?_eq_some_iff.mp hj).1; omega) hj
    have kl : k < prs.length := by omega
    obtain ⟨pr, hpr⟩ : ∃ pr, prs[k]? = some pr := ⟨_, List.getElem?_eq_getElem kl⟩
    obtain ⟨l1, l2⟩ := hprs k pr hpr
    refine c_s_termAt hL.2.1 hsg l1 (by rw [l2]; decide) (fun z10 a10 => ?_)
    intro _ _
    refine c_indexOfPackage hL hma hP hpt a10 (fun i e h1 h2 h3 => ?_) (fun h1 => ?_)
    · intro _ _
      exact ⟨fun c => by omega, fun _ => q1 k i pr e ⟨hpr, h1, h2, inv, h3⟩⟩
    · intro _ _
      refine ⟨fun _ => ?_, fun c => absurd rfl c⟩
      intro y17 e17
      rw [sw_w_s (by omega) (by omega), show ((b + 2 * k : Nat) : Int) + 2 = ((b + 2 * (k + 1) : Nat) : Int) by omega] at e17
      rw [e17]
      refine c_pw_4 hL hTa h18 h10 hma hP hpt hsg he1 hel hlm hprs q1 q0 n (k + 1) (by omega) (by omega) (fun k' pr' hk' hp' => ?_)
      by_cases e : k' = k
      · subst e
        rw [hpr] at hp'
        rw [← Option.some.inj hp']
        exact h1
      · exact inv k' pr' (by omega) hp'
theorem c_placeInWelcome (hL : c_L H mk nn K tl) (hTa : c_Ta H) (h18 : sw_ty H 18 = 72) (h9 : sw_iv H 18 9 = (b : Nat)) (h10 : sw_iv H 18 10 = (e1 : Nat)) (hma : c_ma H m) (hP : c_pk H mk ms m L) (hpt : w_pt ms L Pt) (hsg : c_sg H (w_d mk) r ra lm) (he1 : e1 = b + 2 * prs.length) (hel : e1 ≤ lm.length) (hlm : lm.length ≤ 1200) (hprs : ∀ (k : Nat) pr, prs[k]? = some pr → lm[b + 2 * k]? = some pr.1 ∧ pr.1.head? = some 1) (q1 : ∀ k i pr e, e_find Pt prs k i pr e → P ((b + 2 * k : Nat) : Int) H) (q0 : e_none Pt prs → P (-1) H) : wm_309 94 (120 + 54 * m) r H P := by
  obtain ⟨t94, r0, r1, r2, r3, r4, _⟩ := id hTa
  unfold wm_309
  rw [r2]
  refine ⟨h18, ?_⟩
  intro q23 e23 v26 e26 _
  rw [e23, h9] at e26
  rw [e26, show ((b : Nat) : Int) = ((b + 2 * 0 : Nat) : Int) by omega]
  exact ⟨prs.length + 1, c_pw_4 hL hTa h18 h10 hma hP hpt hsg he1 hel hlm hprs q1 q0 _ 0 (by omega) (by omega) (fun k' pr' hk' => by omega)⟩
/-- a kept PACKAGE at a place -/
def c_pke (H : sw_H) (mk : List Wt) (ms : List (List Wt)) (m j : Nat) (e : Nat × Wt × Wt) : Prop := sw_iv H (120 + 54 * m + 50) j = e.1 ∧ w_at mk (sw_iv H (120 + 54 * m + 52) j) e.2.1 ∧ w_at mk (sw_iv H (120 + 54 * m + 53) j) e.2.2 ∧ ∃ p, ms[e.1]? = some p ∧ w_at mk (sw_iv H (120 + 54 * m + 51) j) (w_t 1 [] [] [] p)
def c_Adp (m : Nat) : List Nat := [120 + 54 * m + 50, 120 + 54 * m + 51, 120 + 54 * m + 52, 120 + 54 * m + 53]
theorem c_si_o {a f b g : Nat} {z : Int} (h : b ≠ a) : sw_iv (sw_si H a f z) b g = sw_iv H b g := by
  rw [(c_fr_si H a f z).2.2.2.2.2 b (by simpa using h)]
theorem c_dp_8 (hma : c_ma H0 m) (hi : i < L.length) (h8 : L.length ≤ 8) (q : ∀ J, sw_iv J (120 + 54 * m) 16 = ((L.length - 1 : Nat) : Int) → (∀ (j : Nat) e, (L.eraseIdx i)[j]? = some e → c_pke J mk ms m j e) → c_fr (c_Adp m) H0 J → Q J) : ∀ (n k : Nat) {H : sw_H}, c_fr (c_Adp m) H0 H → sw_iv H0 (120 + 54 * m) 16 = ((L.length - 1 : Nat) : Int) → i ≤ k → k ≤ L.length - 1 → L.length - 1 - k < n → (∀ (j : Nat) e, j < k → (L.eraseIdx i)[j]? = some e → c_pke H mk ms m j e) → (∀ (j : Nat) e, k < j → L[j]? = some e → c_pke H mk ms m j e) → wl_318_8 Q n (120 + 54 * m) k H
  | 0, _, _, _, _, _, _, h, _, _ => by omega
  | n + 1, k, H, fH, h16, hik, hk, hn, i1, i2 => by
    obtain ⟨_, a12, a13, a14, a15, _, aty⟩ := id hma
    have v16 : sw_iv H (120 + 54 * m) 16 = ((L.length - 1 : Nat) : Int) := by rw [fH.2.2.2.2.2 _ (by unfold c_Adp; simp <;> omega)]; exact h16
    unfold wl_318_8
    intro v1 e1 _
    rw [v16] at e1
    have le : (L.eraseIdx i).length = L.length - 1 := by rw [List.length_eraseIdx, if_pos hi]
    refine ⟨fun c => q H v16 (fun j e hj => i1 j e (by have := (List.getElem?_eq_some_iff.mp hj).1; omega) hj) fH, fun c => ?_⟩
    have kl : k + 1 < L.length := by omega
    obtain ⟨⟨kk, u, v⟩, he⟩ : ∃ e, L[k + 1]? = some e := ⟨_, List.getElem?_eq_getElem kl⟩
    obtain ⟨b1, b2, b3, p, b4, b5⟩ := i2 (k + 1) _ (by omega) he
    have ty : ∀ j, 50 ≤ j → j ≤ 53 → sw_ty H (120 + 54 * m + j) = 1 ∧ sw_ln H (120 + 54 * m + j) = 8 := fun j h1 h2 => by rw [fH.2.2.1, fH.2.2.2.1]; exact aty j h1 h2
    have k8 : k + 1 < 8 := by omega
    rw [sw_s1 (by omega), fH.2.2.2.2.1 _ 12, a12]
    refine ⟨(ty 50 (by decide) (by decide)).1, ?_⟩
    intro q4 e4
    refine ⟨(ty 50 (by decide) (by decide)).1, ?_⟩
    intro q7 e7
    rw [e4, e7, (ty 50 (by decide) (by decide)).2]
    refine ⟨by omega, by omega, ?_⟩
    intro v10 e10 _
    refine ⟨by omega, by omega, ?_⟩
    intro H13 e13
    have f13 : c_fr [120 + 54 * m + 50] H H13 := by rw [e13]; exact c_fr_si _ _ _ _
    rw [f13.2.2.2.2.1 _ 13, fH.2.2.2.2.1 _ 13, a13]
    refine ⟨by rw [f13.2.2.1]; exact (ty 51 (by decide) (by decide)).1, ?_⟩
    intro q16 e16
    refine ⟨by rw [f13.2.2.1]; exact (ty 51 (by decide) (by decide)).1, ?_⟩
    intro q19 e19
    rw [e16, e19, f13.2.2.2.1, (ty 51 (by decide) (by decide)).2]
    refine ⟨by omega, by omega, ?_⟩
    intro v22 e22 _
    refine ⟨by omega, by omega, ?_⟩
    intro H25 e25
    have f25 : c_fr [120 + 54 * m + 51] H13 H25 := by rw [e25]; exact c_fr_si _ _ _ _
    rw [f25.2.2.2.2.1 _ 14, f13.2.2.2.2.1 _ 14, fH.2.2.2.2.1 _ 14, a14]
    refine ⟨by rw [f25.2.2.1, f13.2.2.1]; exact (ty 52 (by decide) (by decide)).1, ?_⟩
    intro q28 e28
    refine ⟨by rw [f25.2.2.1, f13.2.2.1]; exact (ty 52 (by decide) (by decide)).1, ?_⟩
    intro q31 e31
    rw [e28, e31, f25.2.2.2.1, f13.2.2.2.1, (ty 52 (by decide) (by decide)).2]
    refine ⟨by omega, by omega, ?_⟩
    intro v34 e34 _
    refine ⟨by omega, by omega, ?_⟩
    intro H37 e37
    have f37 : c_fr [120 + 54 * m + 52] H25 H37 := by rw [e37]; exact c_fr_si _ _ _ _
    rw [f37.2.2.2.2.1 _ 15, f25.2.2.2.2.1 _ 15, f13.2.2.2.2.1 _ 15, fH.2.2.2.2.1 _ 15, a15]
    refine ⟨by rw [f37.2.2.1, f25.2.2.1, f13.2.2.1]; exact (ty 53 (by decide) (by decide)).1, ?_⟩
    intro q40 e40
    refine ⟨by rw [f37.2.2.1, f25.2.2.1, f13.2.2.1]; exact (ty 53 (by decide) (by decide)).1, ?_⟩
    intro q43 e43
    rw [e40, e43, f37.2.2.2.1, f25.2.2.2.1, f13.2.2.2.1, (ty 53 (by decide) (by decide)).2]
    refine ⟨by omega, by omega, ?_⟩
    intro v46 e46 _
    refine ⟨by omega, by omega, ?_⟩
    intro H49 e49 y52 e52
    have f49 : c_fr [120 + 54 * m + 53] H37 H49 := by rw [e49]; exact c_fr_si _ _ _ _
    rw [e52]
    rw [Int.toNat_natCast] at e10 e13 e22 e25 e34 e37 e46 e49
    have fA : c_fr (c_Adp m) H H49 := c_fr_t (c_fr_sub f13 (by unfold c_Adp; simp)) (c_fr_t (c_fr_sub f25 (by unfold c_Adp; simp)) (c_fr_t (c_fr_sub f37 (by unfold c_Adp; simp)) (c_fr_sub f49 (by unfold c_Adp; simp))))
    have x50 : ∀ j, sw_iv H49 (120 + 54 * m + 50) j = if j = k then sw_iv H (120 + 54 * m + 50) (k + 1) else sw_iv H (120 + 54 * m + 50) j := fun j => by
      rw [e49, c_si_o (by omega), e37, c_si_o (by omega), e25, c_si_o (by omega), e13]
      by_cases c2 : j = k
      · rw [if_pos c2, c2, c_si_eq, e10]
      · rw [if_neg c2, c_si_f c2]
    have x51 : ∀ j, sw_iv H49 (120 + 54 * m + 51) j = if j = k then sw_iv H (120 + 54 * m + 51) (k + 1) else sw_iv H (120 + 54 * m + 51) j := fun j => by
      rw [e49, c_si_o (by omega), e37, c_si_o (by omega), e25]
      by_cases c2 : j = k
      · rw [if_pos c2, c2, c_si_eq, e22, e13, c_si_o (by omega)]
      · rw [if_neg c2, c_si_f c2, e13, c_si_o (by omega)]
    have x52 : ∀ j, sw_iv H49 (120 + 54 * m + 52) j = if j = k then sw_iv H (120 + 54 * m + 52) (k + 1) else sw_iv H (120 + 54 * m + 52) j := fun j => by
      rw [e49, c_si_o (by omega), e37]
      by_cases c2 : j = k
      · rw [if_pos c2, c2, c_si_eq, e34, e25, c_si_o (by omega), e13, c_si_o (by omega)]
      · rw [if_neg c2, c_si_f c2, e25, c_si_o (by omega), e13, c_si_o (by omega)]
    have x53 : ∀ j, sw_iv H49 (120 + 54 * m + 53) j = if j = k then sw_iv H (120 + 54 * m + 53) (k + 1) else sw_iv H (120 + 54 * m + 53) j := fun j => by
      rw [e49]
      by_cases c2 : j = k
      · rw [if_pos c2, c2, c_si_eq, e46, e37, c_si_o (by omega), e25, c_si_o (by omega), e13, c_si_o (by omega)]
      · rw [if_neg c2, c_si_f c2, e37, c_si_o (by omega), e25, c_si_o (by omega), e13, c_si_o (by omega)]
    clear e13 e25 e37 e49 e10 e22 e34 e46
    refine c_dp_8 hma hi h8 q n (k + 1) (c_fr_t fH fA) h16 (by omega) (by omega) (by omega) (fun j e hj hej => ?_) (fun j e hj hej => ?_)
    · by_cases c2 : j = k
      · subst c2
        rw [List.getElem?_eraseIdx, if_neg (by omega), he] at hej
        rw [← Option.some.inj hej]
        unfold c_pke
        rw [x50, x51, x52, x53, if_pos rfl, if_pos rfl, if_pos rfl, if_pos rfl]
        exact ⟨b1, b2, b3, p, b4, b5⟩
      · have := i1 j e (by omega) hej
        unfold c_pke at this ⊢
        rw [x50, x51, x52, x53, if_neg c2, if_neg c2, if_neg c2, if_neg c2]
        exact this
    · have := i2 j e (by omega) hej
      unfold c_pke at this ⊢
      rw [x50, x51, x52, x53, if_neg (by omega), if_neg (by omega), if_neg (by omega), if_neg (by omega)]
      exact this
theorem c_dropPackage (hma : c_ma H m) (hP : c_pk H mk ms m L) (hi : i < L.length) (q : ∀ J, c_pk J mk ms m (L.eraseIdx i) → (∀ f, f ≠ 16 → sw_iv J (120 + 54 * m) f = sw_iv H (120 + 54 * m) f) → c_fr ((120 + 54 * m) :: c_Adp m) H J → Q J) : wm_318 (120 + 54 * m) i H Q := by
  obtain ⟨p1, p2, p3⟩ := id hP
  unfold wm_318
  intro v57 e57 _ H60 e60
  rw [p1] at e57
  have ew : sw_w (v57 - 1) = ((L.length - 1 : Nat) : Int) := by rw [e57, sw_w_s (by omega) (by omega)]; omega
  rw [ew] at e60
  clear ew
  have f60 : c_fr [120 + 54 * m] H H60 := by rw [e60]; exact c_fr_si _ _ _ _
  have v60 : sw_iv H60 (120 + 54 * m) 16 = ((L.length - 1 : Nat) : Int) := by rw [e60, c_si_eq]
  have o60 : ∀ f, f ≠ 16 → sw_iv H60 (120 + 54 * m) f = sw_iv H (120 + 54 * m) f := fun f hf => by rw [e60, c_si_f hf]
  clear e60
  have ma60 : c_ma H60 m := by
    unfold c_ma
    simp only [f60.2.2.1, f60.2.2.2.1, f60.2.2.2.2.1]
    exact hma
  have pke : ∀ (j : Nat) e, L[j]? = some e → c_pke H60 mk ms m j e := fun j e hj => by
    obtain ⟨kk, u, v⟩ := e
    obtain ⟨b1, b2, b3, b4⟩ := p3 j kk u v hj
    unfold c_pke
    rw [f60.2.2.2.2.2 _ (by simp), f60.2.2.2.2.2 _ (by simp), f60.2.2.2.2.2 _ (by simp), f60.2.2.2.2.2 _ (by simp)]
    exact ⟨b1, b2, b3, b4⟩
  have le : (L.eraseIdx i).length = L.length - 1 := by rw [List.length_eraseIdx, if_pos hi]
  refine ⟨L.length + 1, c_dp_8 (mk := mk) (ms := ms) ma60 hi p2 (fun J v16 hpk fJ => ?_) _ i (c_fr_refl _ _) v60 (Nat.le_refl _) (by omega) (by omega) (fun j e hj hej => ?_) (fun j e hj hej => pke j e hej)⟩
  · refine q J ⟨by rw [v16, le], by omega, fun j kk u v hj => ?_⟩ (fun f hf => ?_) (c_fr_sub (c_fr_trans f60 fJ) (by simp))
    · obtain ⟨b1, b2, b3, b4⟩ := hpk j _ hj
      exact ⟨b1, b2, b3, b4⟩
    · rw [fJ.2.2.2.2.2 _ (by unfold c_Adp; simp <;> omega)]
      exact o60 f hf
  · rw [List.getElem?_eraseIdx, if_pos (by omega)] at hej
    exact pke j e hej
end
