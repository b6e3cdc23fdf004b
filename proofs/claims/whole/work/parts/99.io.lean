/-! ===== the reference: findPackage ===== -/
noncomputable section
/-- the texts of the PACKAGEs that are kept -/
def w_pt (ms : List (List Wt)) (L : List (Nat × Wt × Wt)) (Pt : List (List Wt × Wt × Wt)) : Prop := Pt.length = L.length ∧ ∀ (i k : Nat) (u v : Wt), L[i]? = some (k, u, v) → ∃ p, ms[k]? = some p ∧ Pt[i]? = some (p, u, v)
variable {I I0 J X : sr_V} {nn fr i m b e1 k us : Nat} {K K' S : Wt → Prop} {tl mk m0 mm lm : List Wt} {ms : List (List Wt)} {Q : Int → sr_V → Prop} {w : Wt} {L : List (Nat × Wt × Wt)} {Pt : List (List Wt × Wt × Wt)} {prs : List (Wt × Wt)} {pr : Wt × Wt}
theorem m_tk_tm (hx : m_tk I mk K fr lm) (hi : lm[i]? = some w) (hw : w.head? ≠ some 1000) : 256 < I 26 (fr + i) ∧ I 26 (fr + i) ≤ 256 + mk.length ∧ w_at mk (I 26 (fr + i) - 256) w := by
  obtain ⟨a1, a2⟩ := hx.1 i w hi
  obtain ⟨a3, a4⟩ := a1
  have c2 : ¬ I 26 (fr + i) < 256 := fun c => by
    unfold w_sg at a2
    rw [if_pos c] at a2
    rw [← a2] at hw
    exact hw rfl
  unfold w_sg at a2
  rw [if_neg c2] at a2
  refine ⟨by omega, by omega, ?_⟩
  have := w_at_of (mk := mk) (x := I 26 (fr + i) - 256) (by omega) (by omega)
  rw [a2] at this
  exact this
theorem w_8i {m n : Nat} (hm : m < 24) (hn : n < 8) : sw_w ((sw_w (8 * (m : Int))) + (n : Int)) = ((8 * m + n : Nat) : Int) := by
  rw [sw_w_s (z := 8 * (m : Int)) (by omega) (by omega), sw_w_s (by omega) (by omega)]
  omega
theorem r_fg_9 {k3 : Int → Int → sr_V → Prop} (hm : m < 24) (hw : m_wr I0 m0 nn K' tl ms us) (hP : m_pk I0 m0 m L) (hpt : w_pt ms L Pt) (hx : m_tk I0 m0 K fr lm) (hk : prs[k]? = some pr) (hlm : lm[b + 2 * k]? = some pr.1) (hh : pr.1.head? = some 1) (hbl : b + 2 * k < lm.length) (hS : ∀ e ∈ Pt, S (w_t 1 [] [] [] e.1)) (qf : ∀ i e J mm, Pt[i]? = some e → pr.1 = w_t 1 [] [] [] e.1 → (∀ (i' : Nat) e', i' < i → Pt[i']? = some e' → pr.1 ≠ w_t 1 [] [] [] e'.1) → w_mo S m0 mm → m_bS S mm → m_L J mm nn K' tl → J 1000 112 = ((fr + (b + 2 * k) : Nat) : Int) → m_gp (fun f k => m_p2 f k ∨ (f = 1000 ∧ k = 112)) I0 J → Q i J) (qn : ∀ J mm, (∀ e ∈ Pt, pr.1 ≠ w_t 1 [] [] [] e.1) → w_mo S m0 mm → m_bS S mm → m_L J mm nn K' tl → m_gp m_p2 I0 J → k3 m ((fr + (b + 2 * (k + 1)) : Nat) : Int) J) : ∀ (n i : Nat) {I : sr_V} {mq : List Wt}, w_mo S m0 mq → m_bS S mq → m_L I mq nn K' tl → m_gp m_p2 I0 I → i ≤ L.length → L.length - i < n → (∀ (i' : Nat) e', i' < i → Pt[i']? = some e' → pr.1 ≠ w_t 1 [] [] [] e'.1) → rl_235_9 Q k3 n m ((fr + (b + 2 * k) : Nat) : Int) i I
  | 0, _, _, _, _, _, _, _, _, h, _ => by omega
  | n + 1, i, I, mq, mo, hb, hL, gI, hi, hn, inv => by
    obtain ⟨p1, p2, p3⟩ := id hP
    have f362 := hx.2.1
    unfold rl_235_9
    refine ⟨by omega, by omega, ?_⟩
    intro v1 e1 _
    rw [Int.toNat_natCast, gI 45 m (by unfold m_p2; omega), p1] at e1
    refine ⟨fun c => ?_, fun c => ?_⟩
    · intro y4 e4
      rw [sw_w_s (by omega) (by omega), show ((fr + (b + 2 * k) : Nat) : Int) + 2 = ((fr + (b + 2 * (k + 1)) : Nat) : Int) by omega] at e4
      rw [e4]
      refine qn I mq (fun e he => ?_) mo hb hL gI
      obtain ⟨j, hj⟩ := List.getElem?_of_mem he
      have := (List.getElem?_eq_some_iff.mp hj).1
      have l1 := hpt.1
      exact inv j e (by omega) hj
    have il : i < L.length := by omega
    obtain ⟨⟨kk, u, v⟩, hu⟩ : ∃ x, L[i]? = some x := ⟨_, List.getElem?_eq_getElem il⟩
    obtain ⟨p, hp, hpi⟩ := hpt.2 i kk u v hu
    obtain ⟨a1, a2, a3⟩ := p3 i kk u v hu
    rw [w_8i hm (by omega)]
    refine ⟨by omega, by omega, ?_⟩
    intro v8 e8 _
    rw [Int.toNat_natCast, gI 48 _ (by unfold m_p2; omega), a1] at e8
    rw [e8]
    have MI := m_M_p2 hw.1 hL mo.1 hw.2.2.1 gI
    have Sp := hS _ (List.mem_of_getElem? hpi)
    refine r_textHash hL MI hp (hb _ (w_mo_tl Sp) (w_tl_nd (m_L_nd hL))) (fun t J LJ at1 fJ => ?_)
    intro _
    have mo1 : w_mo S mq (w_tl mq (w_t 1 [] [] [] p)) := w_mo_tl Sp
    have moJ := w_mo_trans mo mo1
    have gJ := m_gp_trans gI (m_f1_gp fJ)
    obtain ⟨s1, s2, s3⟩ := m_tk_tm hx hlm (by rw [hh]; decide)
    refine ⟨by omega, by omega, ?_⟩
    intro v18 e18 _
    rw [Int.toNat_natCast, gJ 26 _ (by unfold m_p2; omega)] at e18
    have m45 := hx.2.2.1
    have ew : sw_w (v18 - 256) = I0 26 (fr + (b + 2 * k)) - 256 := by rw [e18, sw_w_s (by omega) (by omega)]
    rw [ew]
    refine ⟨fun c1 => ?_, fun c1 => ?_⟩
    · intro I22 e22
      have g22 : m_gp (fun f k => f = 1000 ∧ k = 112) J I22 := by rw [e22]; exact m_gp_su _ _ _ _
      refine qf i _ I22 _ hpi ?_ inv moJ (m_bS_mo hb mo1) (m_L_gp LJ g22 (fun f k p => by omega)) (by rw [e22, su_eq]) (m_gp_trans (m_gp_sub gJ (fun f k p => Or.inl p)) (m_gp_sub g22 (fun f k p => Or.inr p)))
      rw [c1] at at1
      exact w_at_fun (w_le_at moJ.1 s3) at1
    · intro y26 e26
      rw [sw_s1 (by omega)] at e26
      rw [e26]
      refine r_fg_9 hm hw hP hpt hx hk hlm hh hbl hS qf qn n (i + 1) moJ (m_bS_mo hb mo1) LJ gJ (by omega) (by omega) (fun i' e' hi' he' => ?_)
      by_cases e : i' = i
      · subst e
        rw [hpi] at he'
        rw [← Option.some.inj he']
        intro c2
        apply c1
        have c2 : pr.1 = w_t 1 [] [] [] p := c2
        rw [c2] at s3
        exact w_at_inj (m_L_nd LJ) at1 (w_le_at moJ.1 s3)
      · exact inv i' e' (by omega) he'
theorem r_fg_3 (hm : m < 24) (hw : m_wr I0 m0 nn K' tl ms us) (hP : m_pk I0 m0 m L) (hpt : w_pt ms L Pt) (hx : m_tk I0 m0 K fr lm) (h113 : I0 1000 113 = ((fr + e1 : Nat) : Int)) (he1 : e1 = b + 2 * prs.length) (hel : e1 ≤ lm.length) (hprs : ∀ (k : Nat) pr, prs[k]? = some pr → lm[b + 2 * k]? = some pr.1 ∧ pr.1.head? = some 1) (hS : ∀ e ∈ Pt, S (w_t 1 [] [] [] e.1)) (q1 : ∀ k i pr e J mm, e_find Pt prs k i pr e → w_mo S m0 mm → m_bS S mm → m_L J mm nn K' tl → J 1000 112 = ((fr + (b + 2 * k) : Nat) : Int) → m_gp (fun f k => m_p2 f k ∨ (f = 1000 ∧ k = 112)) I0 J → Q i J) (q0 : ∀ J mm, e_none Pt prs → w_mo S m0 mm → m_bS S mm → m_L J mm nn K' tl → m_gp m_p2 I0 J → Q (-1) J) : ∀ (n k : Nat) {I : sr_V} {mq : List Wt}, w_mo S m0 mq → m_bS S mq → m_L I mq nn K' tl → m_gp m_p2 I0 I → k ≤ prs.length → prs.length - k < n → (∀ (k' : Nat) pr', k' < k → prs[k']? = some pr' → ∀ e' ∈ Pt, pr'.1 ≠ w_t 1 [] [] [] e'.1) → rl_235_3 Q n m ((fr + (b + 2 * k) : Nat) : Int) I
  | 0, _, _, _, _, _, _, _, _, h, _ => by omega
  | n + 1, k, I, mq, mo, hb, hL, gI, hk, hn, inv => by
    unfold rl_235_3
    intro v32 e32 _
    rw [gI 1000 113 (by unfold m_p2; omega), h113] at e32
    refine ⟨fun c => q0 I mq (fun pr hpr => ?_) mo hb hL gI, fun c => ?_⟩
    · obtain ⟨j, hj⟩ := List.getElem?_of_mem hpr
      exact inv j pr (by have := (List.getElem?_eq_some_iff.mp hj).1; omega) hj
    have kl : k < prs.length := by omega
    obtain ⟨pr, hpr⟩ : ∃ pr, prs[k]? = some pr := ⟨_, List.getElem?_eq_getElem kl⟩
    obtain ⟨l1, l2⟩ := hprs k pr hpr
    refine ⟨L.length + 1, r_fg_9 (k := k) (b := b) hm hw hP hpt hx hpr l1 l2 (by omega) hS (fun i e J mm a1 a2 a3 a4 a5 a6 a7 a8 => q1 k i pr e J mm ⟨hpr, a1, a2, inv, a3⟩ a4 a5 a6 a7 a8) (fun J mm a1 a2 a3 a4 a5 => ?_) _ 0 mo hb hL gI (by omega) (by omega) (fun i' e' hi' => by omega)⟩
    refine r_fg_3 hm hw hP hpt hx h113 he1 hel hprs hS q1 q0 n (k + 1) a2 a3 a4 a5 (by omega) (by omega) (fun k' pr' hk' hp' => ?_)
    by_cases e : k' = k
    · subst e
      rw [hpr] at hp'
      rw [← Option.some.inj hp']
      exact a1
    · exact inv k' pr' (by omega) hp'
theorem r_findPackage (hm : m < 24) (hw : m_wr I mk nn K' tl ms us) (hP : m_pk I mk m L) (hpt : w_pt ms L Pt) (hx : m_tk I mk K fr lm) (h112 : I 1000 112 = ((fr + b : Nat) : Int)) (h113 : I 1000 113 = ((fr + e1 : Nat) : Int)) (he1 : e1 = b + 2 * prs.length) (hel : e1 ≤ lm.length) (hprs : ∀ (k : Nat) pr, prs[k]? = some pr → lm[b + 2 * k]? = some pr.1 ∧ pr.1.head? = some 1) (hb : m_bS S mk) (hS : ∀ e ∈ Pt, S (w_t 1 [] [] [] e.1)) (q1 : ∀ k i pr e J mm, e_find Pt prs k i pr e → w_mo S mk mm → m_bS S mm → m_L J mm nn K' tl → J 1000 112 = ((fr + (b + 2 * k) : Nat) : Int) → m_gp (fun f k => m_p2 f k ∨ (f = 1000 ∧ k = 112)) I J → Q i J) (q0 : ∀ J mm, e_none Pt prs → w_mo S mk mm → m_bS S mm → m_L J mm nn K' tl → m_gp m_p2 I J → Q (-1) J) : rm_235 m I Q := by
  unfold rm_235
  intro v39 e39 _
  rw [h112] at e39
  rw [e39, show ((fr + b : Nat) : Int) = ((fr + (b + 2 * 0) : Nat) : Int) by omega]
  exact ⟨prs.length + 1, r_fg_3 hm hw hP hpt hx h113 he1 hel hprs hS q1 q0 _ 0 w_mo_refl hb hw.1 (m_gp_refl _ _) (by omega) (by omega) (fun k' pr' hk' => by omega)⟩
end
