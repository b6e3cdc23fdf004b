/-! ===== the reference: the end of a commit, with its WELCOME ===== -/
noncomputable section
variable {I I0 J X : sr_V} {nn nm s u k h us : Nat} {K K' K2 Kr : Wt → Prop} {tl tl' mk mm l0 l1 l2 lw lt lp lx : List Wt} {a b c y n msk lf wp x1 x2 : Int} {Q : Int → sr_V → Prop} {R : sr_V → Prop} {x i e l m mi : Nat} {P : Nat → Nat → Prop} {S : Wt → Prop} {w ls n0 cs cm jn : Wt} {G : w_G} {T T1 : w_T} {ms : List (List Wt)} {L C : List w_Ch} {d : w_Ch} {ad : List (Nat × Nat)} {hd : Nat → Wt}
/-- what a commit touches from its end on -/
def m_pcw (m us f k : Nat) : Prop := m_pcm m us f k ∨ (f = 1000 ∧ 56 ≤ k ∧ k ≤ 75)
theorem m_pwm_pcw {ue f k : Nat} (h : us ≤ ue) (p : m_pwm ue f k) : m_pcw m us f k := by
  rcases p with (p | p | p) | p | p | p | ⟨p1, p | p | p⟩
  · exact Or.inl (Or.inl (m_pw_2 p))
  · refine Or.inl (Or.inl (m_pw_f ?_))
    rcases p with ⟨p1, p2⟩ | p | p
    · exact Or.inl ⟨p1, by omega⟩
    · exact Or.inr (Or.inl p)
    · exact Or.inr (Or.inr p)
  · exact Or.inr p
  · exact Or.inl (Or.inr (Or.inl p))
  · exact Or.inl (Or.inr (Or.inr (Or.inl p)))
  · exact Or.inl (Or.inr (Or.inr (Or.inr (Or.inl p))))
  · exact Or.inl (Or.inl (m_pw_2 (by unfold m_p2; omega)))
  · exact Or.inl (Or.inr (Or.inr (Or.inr (Or.inr (Or.inl ⟨p1, Or.inl p⟩)))))
  · exact Or.inl (Or.inr (Or.inr (Or.inr (Or.inr (Or.inl ⟨p1, Or.inr p⟩)))))
theorem m_wc_no (h : m_wc I mk T l n0 wp ad) (no : ∀ f k, (83 ≤ f ∧ f ≤ 86) ∨ (90 ≤ f ∧ f ≤ 99) ∨ (f = 1000 ∧ k = 84) → J f k = I f k) (hl : w_le mk mm) : m_wc J mm T l n0 wp ad := by
  obtain ⟨h1, h2, h3⟩ := h
  refine ⟨by rw [no _ _ (by omega)]; exact h1, fun i p j hi => by rw [no _ _ (by omega), no _ _ (by omega)]; exact h2 i p j hi, fun hw => ⟨fun j hj => by rw [no _ _ (by omega), no _ _ (by omega)]; exact (h3 hw).1 j hj, fun j hj hc => by rw [no _ _ (by omega)]; exact w_le_at hl ((h3 hw).2 j hj hc)⟩⟩
theorem r_cm_fin {x6 : Int} (hm : m < 24) (hw : m_wr I mk nn K tl ms us) (hcx : m_cx I mk (w_cx G)) (hst : m_st I mk m G) (hT : m_tr I mk 48 T) (hcs : w_at mk x6 cs) (ht : m_tx I mk us lt) (hlt : lt.length ≤ 1100) (hh : ∀ x, x < t_w T → w_az mk (I 44 (31 * 48 + x)) (hd x)) (hok : gg_ok (w_Gn G T m cs lt hd)) (hb : m_bS S mk) (hS : ∀ v, w_cmS G T m cs lt v → S v) (h300 : ms.length < 300) (hli : m_li I mk Kr L) (hwc : m_wc I mk T1 l n0 wp ad) (hl : l < 2 ^ t_dp T1) (h4 : t_dp T1 ≤ 4) (ha16 : ad.length ≤ 32) (hwp : wp = 0 ∨ wp = 1) (hadx : ∀ (i p j : Nat), ad[i]? = some (p, j) → p < 2 ^ t_dp T1 ∧ (wp ≠ 0 → ∃ k, k < t_dp T1 ∧ t_cb T1 l k ≠ 0 ∧ t_ab p (k + 1) = t_ab l (k + 1)) ∧ ∃ c : w_Ch, L[j]? = some c ∧ c.1.1 = 1) (hSw : ∀ (p j : Nat) (c : w_Ch), (p, j) ∈ ad → L[j]? = some c → ∀ v ∈ w_w1 T1 l n0 wp (w_jnr G cs) p c, S v) (hSi : S (w_t 7 (w_nm m) [] [] (w_inf (w_Gn G T m cs lt hd) (w_cm2 G T m cs lt)))) (h299 : ad ≠ [] → ms.length < 299) (q : ∀ J mm ms' Ke, w_mo S mk mm → m_bS S mm → m_L J mm nn Ke tl → m_me J mm → m_M J (w_d mm) ms' → m_st J mm (24 + m) (w_Gn G T m cs lt hd) → J 28 m = 1 → J 35 m = (ms.length : Nat) → (ad = [] → ms' = ms ++ [w_cM G T m cs lt] ∧ Ke = w_lrs K (w_cM G T m cs lt)) → (ad ≠ [] → ms' = ms ++ [w_cM G T m cs lt] ++ [w_weM m (w_Gn G T m cs lt hd) (w_cm2 G T m cs lt) (w_weH T1 l n0 wp (w_jnr G cs) L ad)] ∧ Ke = w_lrs (w_lrs K (w_cM G T m cs lt)) (w_weM m (w_Gn G T m cs lt hd) (w_cm2 G T m cs lt) (w_weH T1 l n0 wp (w_jnr G cs) L ad))) → m_gp (m_pcw m us) I J → Q ms.length J) : rb_19_239 Q m m (gg_lf G) wp x6 I := by
  refine r_cm_tail (T := T) (cs := cs) (lt := lt) (hd := hd) hm hw hcx hst hT hcs ht hlt hh hok hb hS h300 (fun z26 z36 J mm m1 m2 LJ meJ MJ st1 st2 wj wc e28 e35 x16 x23 gJ => ?_)
  have no : ∀ f k, (76 ≤ f ∧ f ≤ 86) ∨ (90 ≤ f ∧ f ≤ 99) ∨ (f = 1000 ∧ (k = 84 ∨ k = 76)) → J f k = I f k := fun f k hf => gJ f k (by unfold m_pcm m_pw m_p2 m_pl; omega)
  have c84 : J 1000 84 = (ad.length : Nat) := by rw [no _ _ (by omega)]; exact hwc.1
  have gP : m_gp (m_pcw m us) I J := m_gp_sub gJ (fun f k p => Or.inl p)
  refine ⟨fun c => ?_, fun c => ?_⟩
  · have ea : ad = [] := List.length_eq_zero_iff.mp (by omega)
    exact q J mm _ _ m1 m2 LJ meJ MJ st1 e28 e35 (fun _ => ⟨rfl, rfl⟩) (fun cc => absurd ea cc) gP
  · have ea : ad ≠ [] := fun cc => by rw [cc] at c84; rw [c84] at c; exact absurd c (by decide)
    have h9 := h299 ea
    obtain ⟨ue, eue⟩ : ∃ ue, ue = us + (w_cM G T m cs lt).length := ⟨_, rfl⟩
    rw [← eue] at x23
    have hue : us ≤ ue := by rw [eue]; exact Nat.le_add_right _ _
    clear eue
    have wJ : m_wr J mm nn (w_lrs K (w_cM G T m cs lt)) tl (ms ++ [w_cM G T m cs lt]) ue := ⟨LJ, meJ, MJ, x23⟩
    have ml := MJ.2.2.2.1
    have ml2 := MJ.2.1
    have li : m_li J mm (m_kj J mm) L := m_li_kn hli LJ m1.1 (fun k hk => gJ 26 k (by rw [hw.2.2.2] at hk; unfold m_pcm m_pw m_p2 m_pl; omega)) ⟨by rw [x23, hw.2.2.2]; omega, by omega⟩ (no _ _ (by omega)) (fun f h1 h2 => funext (fun k => no f k (by omega))) (fun t => ⟨LJ.2.1.1 t, x16 t⟩)
    refine r_putWelcome (us := ue) (G := w_Gn G T m cs lt hd) (T := T1) (l := l) (n0 := n0) (ad := ad) (L := L) (jn := w_jnr G cs) (cm := w_cm2 G T m cs lt) hm wJ st2 hl h4 ha16 hwp hadx hSw (fun y hy => hS _ (Or.inr (Or.inr (Or.inr (Or.inr (Or.inr (Or.inr (Or.inr (Or.inr (Or.inr (Or.inr ⟨y, hy, rfl⟩))))))))))) hSi m2 li (m_wc_no hwc (fun f k hf => no f k (by omega)) m1.1) wj wc (by rw [List.length_append, List.length_singleton]; omega) (fun Z mz z1 z2 LZ meZ MZ gZ => ?_)
    have nz : ∀ f k, (28 ≤ f ∧ f ≤ 44) → Z f k = J f k := fun f k hf => gZ f k (by unfold m_pwm m_pwf m_p2 m_pf; omega)
    have stZ : m_st Z mz (24 + m) (w_Gn G T m cs lt hd) := m_st_le (m_st_eq st1 (fun f h1 h2 => nz f _ (by omega)) (fun f x h1 h2 _ => nz f _ (by omega))) z1.1
    refine q Z mz _ _ (w_mo_trans m1 z1) z2 LZ meZ MZ stZ (by rw [nz _ _ (by omega)]; exact e28) (by rw [nz _ _ (by omega)]; exact e35) (fun cc => absurd cc ea) (fun _ => ⟨rfl, rfl⟩) (m_gp_trans gP (m_gp_sub gZ (fun f k p => m_pwm_pcw hue p)))
end
