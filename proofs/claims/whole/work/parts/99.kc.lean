/-! ===== what holds of members: create, offer, propose, commit ===== -/
noncomputable section
section
variable {K K' : Wt → Prop} {l lm : List Wt} {nn nm m n mi : Nat} {ms ms' : List (List Wt)} {v v' : v_M} {C L : List w_Ch} {Pt : List (List Wt × Wt × Wt)} {G : w_G} {kd of wp : Int}
/-- the group that create makes, with nothing held elsewhere -/
def w_G1 (m nn : Nat) : w_G := (0, 0, w_T0 m (w_ky nn), w_int [] (w_cfm (w_es0 m nn) []), [], w_es0 m nn, fun x => if x = 0 then w_nm nn else [])
def v_cr1 (m nn : Nat) (v : v_M) : v_M := (True, w_G1 m nn, none, [], [], v_Lk v)
theorem w_G1_iv (hm : m < 24) : g_iv m (w_G1 m nn) ∧ gg_lv (w_G1 m nn) := by
  have hk : w_ky nn ≠ [] := w_t_ne _ _ _ _ _
  have wt : t_w (w_T0 m (w_ky nn)) = 1 := rfl
  refine ⟨⟨fun x hx _ b hb h1 => ?_, rfl, rfl, fun l' hl => ?_, rfl, ⟨(show (0 : Nat) ≤ 4 by decide), fun x hx => ⟨(show (0 : Int) ≤ 0 by decide), (show (0 : Int) < 65536 by decide), fun _ => rfl, fun h => absurd h hk⟩, fun k _ _ => ⟨?_, ?_, (show (1 : Int) ≤ 1 by decide), (show (1 : Int) ≤ 3 by decide), fun _ => rfl⟩⟩⟩, fun k _ _ => ⟨?_, ?_⟩⟩
  · have h1 : w_bit 0 b = 1 := h1
    have : w_bit 0 b = 0 := by
      have : ∀ b : Fin 16, w_bit 0 b.val = 0 := by decide +kernel
      exact this ⟨b, hb⟩
    omega
  · show (if 2 * l' = 0 then w_nm nn else []) = []
    have hl : l' ≠ 0 := hl
    rw [if_neg (by omega)]
  · show (0 : Int) ≤ (m : Int)
    omega
  · show (m : Int) < 65536
    omega
  · show (m : Int) < 24
    omega
  · show w_pub m = w_pub (m : Int).toNat
    rw [Int.toNat_natCast]
theorem v_mo_cr (hm : m < 24) (h : v_mo K nn ms m v C Pt) : v_mo K (nn + 2) ms m (v_cr1 m nn v) [] Pt := v_mo_gr (fun _ => w_G1_iv hm) h.1.2.2.1 h.1.2.2.2.1
theorem w_t_hd (s : Nat) (a b c : Wt) (l : List Wt) : (w_t s a b c l).head? = some s := rfl
theorem w_pkg_is (hm : m < 24) : w_isP (w_lrs K (w_pkg m (w_ky nn) (w_ky (nn + 1)))) (w_pkg m (w_ky nn) (w_ky (nn + 1))) (w_ky nn, ((m : Int), w_ky (nn + 1), w_pub m, 1, [], w_lsg m (w_ky (nn + 1)) 1 [] 0), w_t 7 (w_nm m) [] [] (w_pkb m (w_ky nn) (w_ky (nn + 1)))) := by
  obtain ⟨p, ep⟩ : ∃ p, p = w_pkg m (w_ky nn) (w_ky (nn + 1)) := ⟨_, rfl⟩
  have e : p = [w_by 1, w_ky nn, w_by ((m : Int) / 256 % 256), w_by ((m : Int) % 256), w_ky (nn + 1), w_pub m, w_by 1, w_lsg m (w_ky (nn + 1)) 1 [] 0, w_t 7 (w_nm m) [] [] (w_pkb m (w_ky nn) (w_ky (nn + 1)))] := ep
  rw [← ep]
  have kk : ∀ w s, w ∈ p → w.head? = some s → s ≠ 1000 → w_lrs K p w := fun w s hw hs hn => w_lrs_mem p hw (fun c => hn (by rw [hs] at c; exact Option.some.inj c))
  have ln : p.length = 9 := by rw [e]; rfl
  have tm : ∀ (i : Nat) (w : Wt) (s : Nat), p[i]? = some w → w.head? = some s → s ≠ 1000 → i < 9 → p_t (w_lrs K p) s p (some (i, p.length)) = some (w, i + 1, p.length) := fun i w s hi hs hn h9 => p_t_of hi hs (kk w s (List.mem_of_getElem? hi) hs hn) (by rw [ln]; exact h9)
  refine ⟨ln, p_pk_mk (i := 0) (p_8_of (by rw [e]; rfl) (by decide) (by rw [ln]; decide)) (tm 1 _ 5 (by rw [e]; rfl) rfl (by decide) (by decide)) (p_lf_mk (i := 2) (p_16_of (by rw [e]; rfl) (by rw [e]; rfl) (by omega) (by omega) (by rw [ln]; decide)) (tm 4 _ 5 (by rw [e]; rfl) rfl (by decide) (by decide)) (tm 5 _ 5 (by rw [e]; rfl) rfl (by decide) (by decide)) (p_8_of (by rw [e]; rfl) (by decide) (by rw [ln]; decide)) (tm 7 _ 7 (by rw [e]; rfl) rfl (by decide) (by decide)) ⟨rfl, Or.inl rfl⟩) (tm 8 _ 7 (by rw [e]; rfl) rfl (by decide) (by decide))⟩
theorem v_mo_of (hm : m < 24) (h : v_mo K nn ms m v C Pt) : ∃ Pt', v_mo (w_lrs K (w_pkg m (w_ky nn) (w_ky (nn + 1)))) (nn + 2) (ms ++ [w_pkg m (w_ky nn) (w_ky (nn + 1))]) m (v_of nn ms.length v) C Pt' := by
  have hs := w_msl_app ms [w_pkg m (w_ky nn) (w_ky (nn + 1))]
  obtain ⟨⟨a1, a2, a3, a4, a5⟩, h2, h3, h4, h5, h6, h7⟩ := v_mo_mo (nm := nn + 2) (fun w hw => w_lrs_sub (w_pkg m (w_ky nn) (w_ky (nn + 1))) hw) hs (by omega) h
  refine ⟨Pt ++ [(w_pkg m (w_ky nn) (w_ky (nn + 1)), w_nm nn, w_nm (nn + 1))], ⟨a1, a2, ?_, ?_, a5⟩, h2, h3, h4, h5, h6, h7⟩
  · show w_pt _ (v_Lk v ++ [(ms.length, w_nm nn, w_nm (nn + 1))]) _
    refine ⟨by rw [List.length_append, List.length_append, a3.1]; rfl, fun i k u w hi => ?_⟩
    by_cases c1 : i < (v_Lk v).length
    · rw [List.getElem?_append_left c1] at hi
      obtain ⟨p, q1, q2⟩ := a3.2 i k u w hi
      exact ⟨p, q1, by rw [List.getElem?_append_left (by rw [a3.1]; exact c1)]; exact q2⟩
    · rw [List.getElem?_append_right (by omega)] at hi
      have q2 : (Pt ++ [(w_pkg m (w_ky nn) (w_ky (nn + 1)), w_nm nn, w_nm (nn + 1))])[i]? = [(w_pkg m (w_ky nn) (w_ky (nn + 1)), w_nm nn, w_nm (nn + 1))][i - (v_Lk v).length]? := by
        rw [List.getElem?_append_right (by rw [a3.1]; omega), a3.1]
      rw [q2]
      obtain ⟨j, ej⟩ : ∃ j, i - (v_Lk v).length = j := ⟨_, rfl⟩
      rw [ej] at hi ⊢
      cases j with
      | zero =>
        simp only [List.getElem?_cons_zero, Option.some.injEq, Prod.mk.injEq] at hi
        obtain ⟨e1, e2, e3⟩ := hi
        subst e1 e2 e3
        exact ⟨_, by simp, rfl⟩
      | succ j => simp at hi
  · intro e he
    rw [List.mem_append, List.mem_singleton] at he
    rcases he with he | he
    · exact a4 e he
    · rw [he]
      exact ⟨_, _, _, w_pkg_is hm, rfl, rfl⟩
/-- an own PROPOSAL can be read -/
theorem v_pr_rd {K2 : Wt → Prop} (hm : m < 24) (hep : sw_c (gg_ep G)) (hlf : gg_lf G < 16) (hn : ¬ w_prN m kd of n) (hp : kd = 1 → w_rp K l) (hK : ∀ w, K w → K2 w) (hK2 : ∀ w ∈ w_prM G m (w_prB G kd (w_prC m nn G kd of l)), w.head? ≠ some 1000 → K2 w) : ∃ c sg tg, p_pr K2 (w_prM G m (w_prB G kd (w_prC m nn G kd of l))) (gg_ep G) (gg_lf G) c sg tg ∧ (c.1 = 2 → kd = 2 ∧ c.2.1.2.1.2.1 = w_p5 (w_nm nn)) := by
  obtain ⟨b, eb⟩ : ∃ b, b = w_prB G kd (w_prC m nn G kd of l) := ⟨_, rfl⟩
  obtain ⟨S, eS⟩ : ∃ S, S = w_prS G m b := ⟨_, rfl⟩
  obtain ⟨T, eT⟩ : ∃ T, T = w_prT G m b := ⟨_, rfl⟩
  obtain ⟨c, ec⟩ : ∃ c, c = w_prC m nn G kd of l := ⟨_, rfl⟩
  obtain ⟨p, ep⟩ : ∃ p, p = w_prM G m b := ⟨_, rfl⟩
  rw [← eb, ← ep] at hK2 ⊢
  have e : p = w_by 2 :: w_by (gg_ep G / 65536 / 256 % 256) :: w_by (gg_ep G / 65536 % 256) :: w_by (gg_ep G / 256 % 256) :: w_by (gg_ep G % 256) :: w_by ((gg_lf G : Int) / 256 % 256) :: w_by ((gg_lf G : Int) % 256) :: w_by kd :: (c ++ [S, T]) := by
    rw [ep, eS, eT]
    unfold w_prM
    rw [List.append_assoc]
    show b ++ [w_prS G m b, w_prT G m b] = _
    have : ∀ X : List Wt, b ++ X = w_by 2 :: w_by (gg_ep G / 65536 / 256 % 256) :: w_by (gg_ep G / 65536 % 256) :: w_by (gg_ep G / 256 % 256) :: w_by (gg_ep G % 256) :: w_by ((gg_lf G : Int) / 256 % 256) :: w_by ((gg_lf G : Int) % 256) :: w_by kd :: (c ++ X) := fun X => by
      rw [eb, ec]; rfl
    exact this _
  have hS : S.head? = some 7 := by rw [eS]; rfl
  have hT : T.head? = some 2 := by rw [eT]; rfl
  have ln : p.length = 8 + c.length + 2 := by
    rw [e]
    simp only [List.length_cons, List.length_append, List.length_nil]
    omega
  have hc : ∀ i, i < c.length → p[8 + i]? = c[i]? := fun i hi => by
    rw [e, show 8 + i = i + 8 by omega]
    show (c ++ [S, T])[i]? = _
    exact List.getElem?_append_left hi
  have pS : p[p.length - 2]? = some S := by
    rw [ln, e, show 8 + c.length + 2 - 2 = c.length + 8 by omega]
    show (c ++ [S, T])[c.length]? = _
    rw [List.getElem?_append_right (Nat.le_refl _), Nat.sub_self]
    rfl
  have pT : p[p.length - 1]? = some T := by
    rw [ln, e, show 8 + c.length + 2 - 1 = c.length + 1 + 8 by omega]
    show (c ++ [S, T])[c.length + 1]? = _
    rw [List.getElem?_append_right (by omega), show c.length + 1 - c.length = 1 by omega]
    rfl
  have kk : ∀ w s, w ∈ p → w.head? = some s → s ≠ 1000 → K2 w := fun w s hw hs hn => hK2 w hw (fun c => hn (by rw [hs] at c; exact Option.some.inj c))
  have tm : ∀ (i : Nat) (w : Wt) (s : Nat), p[i]? = some w → w.head? = some s → s ≠ 1000 → p_t K2 s p (some (i, p.length)) = some (w, i + 1, p.length) := fun i w s hi hs hn => p_t_of hi hs (kk w s (List.mem_of_getElem? hi) hs hn) (List.getElem?_eq_some_iff.mp hi).1
  have p8 : p[7]? = some (w_by kd) := by rw [e]; rfl
  have k13 : 1 ≤ kd ∧ kd ≤ 3 := by unfold w_prN at hn; omega
  have fin : ∀ cv : p_C, p_ct K2 p (some (7, p.length)) = some (cv, p.length - 2, p.length) → (cv.1 = 2 → kd = 2 ∧ cv.2.1.2.1.2.1 = w_p5 (w_nm nn)) → ∃ c sg tg, p_pr K2 p (gg_ep G) (gg_lf G) c sg tg ∧ (c.1 = 2 → kd = 2 ∧ c.2.1.2.1.2.1 = w_p5 (w_nm nn)) := fun cv h1 h2 => by
    refine ⟨cv, S, T, ⟨by omega, ⟨2, p_8_of (by rw [e]; rfl) (by decide) (by omega)⟩, p_32_of (i := 1) (by rw [e]; rfl) (by rw [e]; rfl) (by rw [e]; rfl) (by rw [e]; rfl) hep (by omega), p_16_of (i := 5) (by rw [e]; rfl) (by rw [e]; rfl) (by omega) (by omega) (by omega), h1, ?_, ?_⟩, h2⟩
    · have := tm _ S 7 pS hS (by decide)
      rw [show p.length - 2 + 1 = p.length - 1 by omega] at this
      exact this
    · have := tm _ T 2 pT hT (by decide)
      rw [show p.length - 1 + 1 = p.length by omega] at this
      exact this
  by_cases k1 : kd = 1
  · obtain ⟨x, hx, _⟩ := hp k1
    have ec1 : c = [w_by 0, w_by 9] ++ l := by
      rw [ec]
      unfold w_prC
      rw [if_pos k1, hx.1]
      rfl
    have lc : c.length = 11 := by rw [ec1, List.length_append, hx.1]; rfl
    have hx2 := hx.2
    rw [k1] at p8
    refine fin (1, x, 0) ?_ (fun c => absurd (show (1 : Int) = 2 from c) (by decide))
    have h12 := p_ct_1 (K := K2) (l := p) (i := 7) (e := p.length) (v := x) (p_8_of p8 (by decide) (by omega)) (p_16_of (i := 8) (by rw [hc 0 (by omega), ec1]; rfl) (by rw [hc 1 (by omega), ec1]; rfl) (by decide) (by decide) (by omega)) (p_pk_sh (d := 10) (fun j hj => by
      rw [show j + 10 = 8 + (j + 2) by omega, hc _ (by omega), ec1]
      rfl) hK (by rw [hx.1] at hx2; exact hx2) (by omega)) (by omega)
    rw [show 7 + 12 = p.length - 2 by omega] at h12
    exact h12
  · by_cases k2 : kd = 2
    · have ec2 : c = [w_by ((m : Int) / 256 % 256), w_by ((m : Int) % 256), w_ky nn, w_pub m, w_by 2, w_lsg m (w_ky nn) 2 [] (gg_lf G)] := by
        rw [ec]
        unfold w_prC
        rw [if_neg k1, if_pos k2]
        rfl
      have lc : c.length = 6 := by rw [ec2]; rfl
      rw [k2] at p8
      refine fin (2, ([], ((m : Int), w_ky nn, w_pub m, 2, [], w_lsg m (w_ky nn) 2 [] (gg_lf G)), []), 0) ?_ (fun _ => ⟨k2, rfl⟩)
      have := p_ct_2 (K := K2) (l := p) (i := 7) (e := p.length) (p_8_of p8 (by decide) (by omega)) (p_lf_mk (i := 8) (p_16_of (by rw [hc 0 (by omega), ec2]; rfl) (by rw [hc 1 (by omega), ec2]; rfl) (by omega) (by omega) (by omega)) (tm 10 _ 5 (by rw [hc 2 (by omega), ec2]; rfl) rfl (by decide)) (tm 11 _ 5 (by rw [hc 3 (by omega), ec2]; rfl) rfl (by decide)) (p_8_of (by rw [hc 4 (by omega), ec2]; rfl) (by decide) (by omega)) (tm 13 _ 7 (by rw [hc 5 (by omega), ec2]; rfl) rfl (by decide)) ⟨rfl, Or.inr rfl⟩)
      rw [show 8 + 6 = p.length - 2 by omega] at this
      exact this
    · have k3 : kd = 3 := by omega
      have ec3 : c = [w_by (of / 256 % 256), w_by (of % 256)] := by
        rw [ec]
        unfold w_prC
        rw [if_neg k1, if_neg k2]
        rfl
      have lc : c.length = 2 := by rw [ec3]; rfl
      have ofb : 0 ≤ of ∧ of < 16 := by unfold w_prN at hn; omega
      rw [k3] at p8
      refine fin (3, ([], p_L0, []), of) ?_ (fun c => absurd (show (3 : Int) = 2 from c) (by decide))
      have := p_ct_3 (K := K2) (l := p) (i := 7) (e := p.length) (p_8_of p8 (by decide) (by omega)) (p_16_of (by rw [hc 0 (by omega), ec3]; rfl) (by rw [hc 1 (by omega), ec3]; rfl) (by omega) (by omega) (by omega))
      rw [show 7 + 3 = p.length - 2 by omega] at this
      exact this
end
end
