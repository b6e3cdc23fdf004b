/-! ===== the reference: who is welcomed ===== -/
noncomputable section
/-- a PACKAGE as it is written -/
def w_pkw (v : Wt × p_L × Wt) : List Wt := w_by 1 :: v.1 :: (w_lfw v.2.1 ++ [v.2.2])
/-- the lowest height that counts above both leaves, from k on -/
def t_mf (T : w_T) (l p : Nat) : Nat → Nat → Nat
  | k, 0 => k
  | k, m + 1 => if t_cb T l k ≠ 0 ∧ t_ab p (k + 1) = t_ab l (k + 1) then k else t_mf T l p (k + 1) m
/-- the secret for who is added at leaf p -/
def w_wsec (T : w_T) (l : Nat) (n0 : Wt) (wp : Int) (p : Nat) : Wt := if wp = 0 then [] else t_ls T l n0 (t_mf T l p 0 (t_dp T) + 1)
def w_w1 (T : w_T) (l : Nat) (n0 : Wt) (wp : Int) (jn : Wt) (p : Nat) (c : w_Ch) : List Wt := [w_t 1 [] [] [] (w_pkw c.1.2.1), w_t 6 c.1.2.1.1 jn (w_wsec T l n0 wp p) []]
/-- those who are welcomed -/
def w_wl (T : w_T) (l : Nat) (n0 : Wt) (wp : Int) (jn : Wt) (L : List w_Ch) (ad : List (Nat × Nat)) : List Wt := ad.flatMap (fun pj => ((L[pj.2]?).map (w_w1 T l n0 wp jn pj.1)).getD [])
variable {I I0 J X : sr_V} {nn nm s u k h us : Nat} {K K' K2 : Wt → Prop} {tl tl' mk mm l0 l1 l2 lw lt lp : List Wt} {a b c y n msk lf wp : Int} {Q : Int → sr_V → Prop} {R : sr_V → Prop} {x i e l m : Nat} {P : Nat → Nat → Prop} {S : Wt → Prop} {w ls n0 cs cm jn : Wt} {G : w_G} {T : w_T} {ms : List (List Wt)} {L : List w_Ch} {d : w_Ch} {ad : List (Nat × Nat)}
/-- what welcoming touches -/
def m_pwf (us f k : Nat) : Prop := m_p2 f k ∨ m_pf us f k ∨ (f = 1000 ∧ 56 ≤ k ∧ k ≤ 75)
/-- what welcoming reads: way, path and who is added -/
def m_wc (I : sr_V) (mk : List Wt) (T : w_T) (l : Nat) (n0 : Wt) (wp : Int) (ad : List (Nat × Nat)) : Prop := I 1000 84 = (ad.length : Nat) ∧ (∀ i p j, ad[i]? = some (p, j) → I 85 i = (p : Nat) ∧ I 86 i = (j : Nat)) ∧ (wp ≠ 0 → (∀ j, j < t_dp T → I 90 j = ((t_ab l (j + 1) : Nat) : Int) ∧ I 94 j = t_cb T l j) ∧ ∀ j, j < t_dp T → t_cb T l j ≠ 0 → w_at mk (I 99 j) (t_ls T l n0 (j + 1)))
theorem m_wc_gp (h : m_wc I mk T l n0 wp ad) (g : m_gp (m_pwf us) I J) (hl : w_le mk mm) : m_wc J mm T l n0 wp ad := by
  have no : ∀ f k, (83 ≤ f ∧ f ≤ 86) ∨ (90 ≤ f ∧ f ≤ 99) ∨ (f = 1000 ∧ k = 84) → J f k = I f k := fun f k hf => g f k (by unfold m_pwf m_p2 m_pf; omega)
  obtain ⟨h1, h2, h3⟩ := h
  refine ⟨by rw [no _ _ (by omega)]; exact h1, fun i p j hi => by rw [no _ _ (by omega), no _ _ (by omega)]; exact h2 i p j hi, fun hw => ⟨fun j hj => by rw [no _ _ (by omega), no _ _ (by omega)]; exact (h3 hw).1 j hj, fun j hj hc => by rw [no _ _ (by omega)]; exact w_le_at hl ((h3 hw).2 j hj hc)⟩⟩
theorem p_pk_w {i e : Nat} {s : Nat × Nat} {l : List Wt} {v : Wt × p_L × Wt} (hvl : w_vl l) (he : e ≤ l.length) (h : p_pk K l (some (i, e)) = some (v, s)) : w_sli l i (i + 9) = w_pkw v ∧ i + 9 ≤ e := by
  obtain ⟨ik, lf, g⟩ := v
  obtain ⟨d1, d2, d3, d4⟩ := p_pk_sl hvl he h
  have d5 := (p_pk_ix h).2.1
  refine ⟨?_, d5⟩
  rw [w_sli_app (i := i) (j := i + 8) (by omega) (by omega), d1, show i + 9 = i + 8 + 1 by omega, w_sli_1 d2]
  rfl
/-- the search of the lowest height -/
theorem r_wm_52 {k20 : Int → Int → Int → Int → Int → Int → sr_V → Prop} {x1 x2 x4 x5 x7 : Int} {i p : Nat} (hwp : wp ≠ 0) (hl : l < 2 ^ t_dp T) (h4 : t_dp T ≤ 4) (hp : p < 2 ^ t_dp T) (hc : m_wc I mk T l n0 wp ad) (hi : i < 64) (h85 : I 85 i = (p : Nat)) (q : ∀ k, k < t_dp T → k = t_mf T l p 0 (t_dp T) → t_cb T l k ≠ 0 → rb_106_72 R k20 x1 x2 wp x4 x5 i x7 k I) : ∀ (n k m : Nat), m + k = t_dp T → m < n → t_mf T l p k m = t_mf T l p 0 (t_dp T) → (∃ j, k ≤ j ∧ j < t_dp T ∧ t_cb T l j ≠ 0 ∧ t_ab p (j + 1) = t_ab l (j + 1)) → rl_106_52 R k20 n x1 x2 wp x4 x5 i x7 k I
  | 0, _, _, _, hn, _, _ => by omega
  | n + 1, k, m, hm, hn, hf, hex => by
    have d16 := t_d_16 h4
    have w31 := t_w_4 h4
    obtain ⟨j, j1, j2, j3, j4⟩ := hex
    obtain ⟨m', rfl⟩ : ∃ m', m = m' + 1 := ⟨m - 1, by omega⟩
    obtain ⟨w1, w2⟩ := (hc.2.2 hwp).1 k (by omega)
    unfold rl_106_52
    refine ⟨fun cc => absurd cc hwp, fun _ => ⟨by omega, by omega, ?_⟩⟩
    intro v27 e27 _
    rw [Int.toNat_natCast, w2] at e27
    subst e27
    have next : ¬ (t_cb T l k ≠ 0 ∧ t_ab p (k + 1) = t_ab l (k + 1)) → rb_106_70 R k20 (rl_106_52 R k20 n) x1 x2 wp x4 x5 i x7 k I := fun hne => by
      unfold rb_106_70
      intro y23 e23
      rw [sw_s1 (by omega)] at e23
      subst e23
      have ef : t_mf T l p k (m' + 1) = t_mf T l p (k + 1) m' := if_neg hne
      have jk : j ≠ k := fun e => hne (by rw [← e]; exact ⟨j3, j4⟩)
      exact r_wm_52 hwp hl h4 hp hc hi h85 q n (k + 1) m' (by omega) (by omega) (by rw [← ef]; exact hf) ⟨j, by omega, j2, j3, j4⟩
    refine ⟨fun c0 => next (fun cc => cc.1 c0), fun c0 => ⟨by omega, by omega, ?_⟩⟩
    intro v30 e30 _
    rw [Int.toNat_natCast, w1] at e30
    subst e30
    refine ⟨by omega, by omega, ?_⟩
    intro v33 e33 _
    rw [Int.toNat_natCast, h85] at e33
    subst e33
    have aw := t_ab_w h4 hl (h := k + 1) (by omega)
    have eh : w_h (t_ab l (k + 1)) = k + 1 := (w_h_ab ⟨l, by omega⟩ ⟨k + 1, by omega⟩).1
    refine r_isBelow (x := t_ab l (k + 1)) (by omega) (by omega) (by rw [eh]; omega) (fun j' hj' => ?_) (fun e1 => ?_) (fun e1 => ?_)
    · rw [eh] at hj'
      have := t_ab_w h4 hp (h := j') (by omega)
      omega
    · rw [eh] at e1
      intro _
      refine ⟨fun _ => ?_, fun cc => absurd cc (by decide)⟩
      have ef : t_mf T l p k (m' + 1) = k := if_pos ⟨c0, e1⟩
      exact q k (by omega) (by rw [← hf, ef]) c0
    · rw [eh] at e1
      intro _
      exact ⟨fun cc => absurd rfl cc, fun _ => next (fun cc => e1 cc.2)⟩
end
