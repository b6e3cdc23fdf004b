/-! ===== what a message is answered with is determined ===== -/
noncomputable section
section
variable {K : Wt → Prop} {l lm : List Wt} {G : w_G} {inn : Prop} {z z' : Int}
theorem p_pr_un {ep lf ep' lf' : Int} {v v' : p_C} {sg tg sg' tg' : Wt} (h : p_pr K l ep lf v sg tg) (h' : p_pr K l ep' lf' v' sg' tg') : ep = ep' ∧ lf = lf' ∧ v = v' ∧ sg = sg' ∧ tg = tg' := by
  obtain ⟨_, _, a1, a2, a3, a4, a5⟩ := h
  obtain ⟨_, _, b1, b2, b3, b4, b5⟩ := h'
  have c1 := a1.symm.trans b1
  have c2 := a2.symm.trans b2
  have c3 := a3.symm.trans b3
  have c4 := a4.symm.trans b4
  have c5 := a5.symm.trans b5
  simp only [Option.some.injEq, Prod.mk.injEq] at c1 c2 c3 c4 c5
  exact ⟨c1.1, c2.1, c3.1, c4.1, c5.1⟩
theorem p_cm_un {ep sd ep' sd' : Int} {b e1 b' e1' : Nat} {es es' : List p_E} {pt pt' : Option p_P} {sg cf tg sg' cf' tg' : Wt} (h : p_cm K l ep sd b e1 es pt sg cf tg) (h' : p_cm K l ep' sd' b' e1' es' pt' sg' cf' tg') : ep = ep' ∧ sd = sd' ∧ b = b' ∧ e1 = e1' ∧ es = es' ∧ pt = pt' ∧ sg = sg' ∧ cf = cf' ∧ tg = tg' := by
  obtain ⟨_, _, a1, a2, a3, a4, a5, a6, a7⟩ := h
  obtain ⟨_, _, b1, b2, b3, b4, b5, b6, b7⟩ := h'
  have c1 := a1.symm.trans b1
  have c2 := a2.symm.trans b2
  have c3 := a3.symm.trans b3
  simp only [Option.some.injEq, Prod.mk.injEq] at c1 c2 c3
  obtain ⟨⟨e2, e3⟩, e4, _⟩ := c3
  subst e4
  have c4 := a4.symm.trans b4
  have c5 := a5.symm.trans b5
  have c6 := a6.symm.trans b6
  have c7 := a7.symm.trans b7
  simp only [Option.some.injEq, Prod.mk.injEq] at c4 c5 c6 c7
  exact ⟨c1.1, c2.1, e2, rfl, e3, c4.1, c5.1, c6.1, c7.1⟩
theorem p_we_un {ep sd ep' sd' : Int} {b e1 b' e1' : Nat} {prs prs' : List (Wt × Wt)} {th cf th' cf' cm sg cm' sg' : Wt} {ns ns' : List p_V} (h : p_we K l ep b e1 prs th cf sd ns cm sg) (h' : p_we K l ep' b' e1' prs' th' cf' sd' ns' cm' sg') : ep = ep' ∧ b = b' ∧ e1 = e1' ∧ prs = prs' ∧ th = th' ∧ cf = cf' ∧ sd = sd' ∧ ns = ns' ∧ cm = cm' ∧ sg = sg' := by
  obtain ⟨_, _, a1, a2, a3, a4, a5, a6, a7, a8⟩ := h
  obtain ⟨_, _, b1, b2, b3, b4, b5, b6, b7, b8⟩ := h'
  have c1 := a1.symm.trans b1
  simp only [Option.some.injEq, Prod.mk.injEq] at c1
  obtain ⟨⟨e2, e3⟩, e4, _⟩ := c1
  subst e4
  have c2 := a2.symm.trans b2
  have c3 := a3.symm.trans b3
  have c4 := a4.symm.trans b4
  have c5 := a5.symm.trans b5
  have c6 := a6.symm.trans b6
  have c7 := a7.symm.trans b7
  have c8 := a8.symm.trans b8
  simp only [Option.some.injEq, Prod.mk.injEq] at c2 c3 c4 c5 c6 c7 c8
  exact ⟨c2.1, e2, rfl, e3, c3.1, c4.1, c5.1, c6.1, c7.1, c8.1⟩
theorem w_isP_un {v v' : Wt × p_L × Wt} (h : w_isP K l v) (h' : w_isP K l v') : v = v' := by
  have c := h.2.symm.trans h'.2
  simp only [Option.some.injEq, Prod.mk.injEq] at c
  exact c.1
theorem w_dkR_un (h : w_dkR K l z) (h' : w_dkR K l z') : z = z' := by
  rcases h with ⟨a, e⟩ | ⟨v, hv, h⟩
  · rcases h' with ⟨_, e'⟩ | ⟨v', hv', _⟩
    · omega
    · exact absurd hv' (a v')
  · rcases h' with ⟨a, _⟩ | ⟨v', hv', h'⟩
    · exact absurd hv (a v)
    · have := w_isP_un hv hv'
      subst this
      rcases h with ⟨a, e⟩ | ⟨a, e⟩ <;> rcases h' with ⟨a', e'⟩ | ⟨a', e'⟩
      · omega
      · exact absurd a a'
      · exact absurd a' a
      · omega
theorem w_dpR_un (h : w_dpR K inn G l z) (h' : w_dpR K inn G l z') : z = z' := by
  rcases h with ⟨a, e⟩ | ⟨ep, lf, v, sg, tg, hv, h⟩
  · rcases h' with ⟨_, e'⟩ | ⟨ep', lf', v', sg', tg', hv', _⟩
    · omega
    · exact absurd hv' (a _ _ _ _ _)
  · rcases h' with ⟨a, _⟩ | ⟨ep', lf', v', sg', tg', hv', h'⟩
    · exact absurd hv (a _ _ _ _ _)
    · obtain ⟨e1, e2, e3, e4, e5⟩ := p_pr_un hv hv'
      subst e1 e2 e3 e4 e5
      rcases h with ⟨a, e⟩ | ⟨a1, a2, h⟩ <;> rcases h' with ⟨b, e'⟩ | ⟨b1, b2, h'⟩
      · omega
      · exact (a.elim (fun q => q b1) (fun q => q b2)).elim
      · exact (b.elim (fun q => q a1) (fun q => q a2)).elim
      · rcases h with ⟨a, e⟩ | ⟨a, h⟩ <;> rcases h' with ⟨b, e'⟩ | ⟨b, h'⟩
        · omega
        · exact absurd b a
        · exact absurd a b
        · rcases h with ⟨a, e⟩ | ⟨a, h⟩ <;> rcases h' with ⟨b, e'⟩ | ⟨b, h'⟩
          · omega
          · exact absurd b a
          · exact absurd a b
          · rcases h with ⟨a, e⟩ | ⟨a, e⟩ <;> rcases h' with ⟨b, e'⟩ | ⟨b, e'⟩
            · omega
            · exact absurd b a
            · exact absurd a b
            · omega
/-- one of two cases, each determined -/
theorem u_or {A : Type} {p : Prop} {z z' : Int} {o o' : A} {X X' Y Y' : Prop} (h : (p ∧ X) ∨ (¬ p ∧ Y)) (h' : (p ∧ X') ∨ (¬ p ∧ Y')) (hx : X → X' → z = z' ∧ o = o') (hy : Y → Y' → z = z' ∧ o = o') : z = z' ∧ o = o' := by
  rcases h with ⟨a, b⟩ | ⟨a, b⟩ <;> rcases h' with ⟨a', b'⟩ | ⟨a', b'⟩
  · exact hx b b'
  · exact absurd a a'
  · exact absurd a' a
  · exact hy b b'
theorem u_ro {A : Type} {p : Prop} {z z' : Int} {o o' : A} {X X' Y Y' : Prop} (h : (¬ p ∧ X) ∨ (p ∧ Y)) (h' : (¬ p ∧ X') ∨ (p ∧ Y')) (hx : X → X' → z = z' ∧ o = o') (hy : Y → Y' → z = z' ∧ o = o') : z = z' ∧ o = o' := u_or (Or.symm h) (Or.symm h') hy hx
theorem u_e {A : Type} {z z' c : Int} {o o' d : A} (h : z = c ∧ o = d) (h' : z' = c ∧ o' = d) : z = z' ∧ o = o' := ⟨h.1.trans h'.1.symm, h.2.trans h'.2.symm⟩
variable {C : List w_Ch} {pd : Option (List Wt × w_G)} {o o' : Option (Option w_G)}
theorem d_fn_un {T : w_T} {L : List w_Ch} {cf : Wt} (h : d_fn G T L lm cf z o) (h' : d_fn G T L lm cf z' o') : z = z' ∧ o = o' := u_or h h' u_e (fun a b => u_or a b u_e u_e)
theorem d_fp_un {T : w_T} {L : List w_Ch} {msk : Int} {l : Nat} {f : p_L} {ns : List p_N} {cf : Wt} (h : d_fp G T L msk l f ns lm cf z o) (h' : d_fp G T L msk l f ns lm cf z' o') : z = z' ∧ o = o' := u_ro h h' u_e (fun a b => u_or a b u_e (fun a b => u_or a b u_e (fun a b => u_ro a b u_e (fun a b => u_or a b u_e u_e))))
theorem d_fin_un {L : List w_Ch} {l : Nat} {pt : Option p_P} {cf : Wt} (h : d_fin G L l pt lm cf z o) (h' : d_fin G L l pt lm cf z' o') : z = z' ∧ o = o' := by
  cases pt with
  | none => exact d_fn_un h h'
  | some v => exact d_fp_un h h'
theorem d_chg_un {l : Nat} {es : List p_E} {pt : Option p_P} {cf : Wt} (h : d_chg G C l es pt lm cf z o) (h' : d_chg G C l es pt lm cf z' o') : z = z' ∧ o = o' := u_or h h' u_e (fun a b => u_ro a b u_e (fun a b => u_ro a b u_e (fun a b => d_fin_un a b)))
theorem d_ep_un {sd : Int} {es : List p_E} {pt : Option p_P} {sg cf tg : Wt} (h : d_ep G C pd sd es pt lm sg cf tg z o) (h' : d_ep G C pd sd es pt lm sg cf tg z' o') : z = z' ∧ o = o' := by
  refine u_or h h' (fun a b => ?_) (fun a b => u_ro a b u_e (fun a b => u_ro a b u_e (fun a b => u_ro a b u_e (fun a b => d_chg_un a b))))
  rcases a with ⟨G1, e1, e2, e3⟩ | ⟨e1, e2⟩ <;> rcases b with ⟨G2, f1, f2, f3⟩ | ⟨f1, f2⟩
  · rw [e1] at f1
    simp only [Option.some.injEq, Prod.mk.injEq, true_and] at f1
    subst f1
    exact ⟨e2.trans f2.symm, e3.trans f3.symm⟩
  · exact absurd e1 (f1 G1)
  · exact absurd f1 (e1 G2)
  · exact u_e e2 f2
theorem d_dcR_un (h : d_dcR K inn G C pd lm z o) (h' : d_dcR K inn G C pd lm z' o') : z = z' ∧ o = o' := by
  rcases h with ⟨a, e⟩ | ⟨ep, sd, b, e1, es, pt, sg, cf, tg, hp, h⟩
  · rcases h' with ⟨_, e'⟩ | ⟨_, _, _, _, _, _, _, _, _, hp', _⟩
    · exact u_e e e'
    · exact absurd hp' (a _ _ _ _ _ _ _ _ _)
  · rcases h' with ⟨a, _⟩ | ⟨ep', sd', b', e1', es', pt', sg', cf', tg', hp', h'⟩
    · exact absurd hp (a _ _ _ _ _ _ _ _ _)
    · obtain ⟨x1, x2, x3, x4, x5, x6, x7, x8, x9⟩ := p_cm_un hp hp'
      subst x1 x2 x3 x4 x5 x6 x7 x8 x9
      rcases h with ⟨a, e⟩ | ⟨a1, a2, h⟩ <;> rcases h' with ⟨b, e'⟩ | ⟨b1, b2, h'⟩
      · exact u_e e e'
      · exact (a.elim (fun q => q b1) (fun q => q b2)).elim
      · exact (b.elim (fun q => q a1) (fun q => q a2)).elim
      · exact d_ep_un h h'
variable {Pt : List (List Wt × Wt × Wt)} {q q' : Option (w_G × Nat)}
theorem t_fl1_un {T : w_T} {f : p_L} {l l' : Nat} (h1 : t_one T) (h : t_fl1 T f l) (h' : t_fl1 T f l') : l = l' := by
  rcases Nat.lt_trichotomy l l' with c | c | c
  · exact absurd (h'.2.2.1.trans h.2.2.1.symm) (h1 l' l c h'.1 h.1)
  · exact c
  · exact absurd (h.2.2.1.trans h'.2.2.1.symm) (h1 l l' c h.1 h'.1)
theorem e_w5_un {T : w_T} {ep : Int} {l sd i : Nat} {cf cm jn v sc : Wt} (h : e_w5 T ep l sd i cf cm jn v sc z q) (h' : e_w5 T ep l sd i cf cm jn v sc z' q') : z = z' ∧ q = q' := by
  refine u_ro h h' u_e (fun a b => ?_)
  rcases a with ⟨a1, a2, e⟩ | ⟨a, e⟩ <;> rcases b with ⟨b1, b2, e'⟩ | ⟨b, e'⟩
  · exact u_e e e'
  · exact absurd b (fun c => c.elim a1 a2)
  · exact absurd a (fun c => c.elim b1 b2)
  · exact u_e e e'
theorem e_w4_un {e1 : Nat} {sg : Wt} {T : w_T} {ep sd : Int} {l i : Nat} {cf cm jn v sc : Wt} (h : e_w4 lm e1 sg T ep l sd i cf cm jn v sc z q) (h' : e_w4 lm e1 sg T ep l sd i cf cm jn v sc z' q') : z = z' ∧ q = q' := u_ro h h' u_e (fun a b => e_w5_un a b)
theorem e_w3_un {e1 : Nat} {sg th : Wt} {T : w_T} {ep sd : Int} {f : p_L} {i : Nat} {cf cm jn v sc : Wt} (h : e_w3 lm e1 sg th T ep f sd i cf cm jn v sc z q) (h' : e_w3 lm e1 sg th T ep f sd i cf cm jn v sc z' q') : z = z' ∧ q = q' := by
  refine u_ro h h' u_e (fun a b => ?_)
  rcases a with ⟨a, e⟩ | ⟨a1, a2, la, a3, e⟩ <;> rcases b with ⟨b, e'⟩ | ⟨b1, b2, lb, b3, e'⟩
  · exact u_e e e'
  · exact absurd ⟨b1, b2, lb, b3⟩ a
  · exact absurd ⟨a1, a2, la, a3⟩ b
  · have := t_fl1_un a1.1 a3 b3
    subst this
    exact e_w4_un e e'
theorem e_w2_un {e1 : Nat} {sg th : Wt} {T : w_T} {ep sd : Int} {i : Nat} {cf cm : Wt} {pr : Wt × Wt} {e : List Wt × Wt × Wt} (h : e_w2 K lm e1 sg th T ep sd i cf cm pr e z q) (h' : e_w2 K lm e1 sg th T ep sd i cf cm pr e z' q') : z = z' ∧ q = q' := by
  obtain ⟨a, jn, sc, L, ik, f, g0, a1, a2, h⟩ := h
  obtain ⟨a', jn', sc', L', ik', f', g0', b1, b2, h'⟩ := h'
  obtain ⟨_, x1, x2, x3, x4⟩ := w_t_inj (a1.symm.trans b1)
  have y := w_isP_un a2 b2
  simp only [Prod.mk.injEq] at y
  obtain ⟨y1, y2, y3⟩ := y
  subst x1 x2 x3 y2
  exact u_ro h h' u_e (fun a b => e_w3_un a b)
theorem e_find_un {prs : List (Wt × Wt)} {k i k' i' : Nat} {pr pr' : Wt × Wt} {e e' : List Wt × Wt × Wt} (h : e_find Pt prs k i pr e) (h' : e_find Pt prs k' i' pr' e') : k = k' ∧ i = i' ∧ pr = pr' ∧ e = e' := by
  obtain ⟨a1, a2, a3, a4, a5⟩ := h
  obtain ⟨b1, b2, b3, b4, b5⟩ := h'
  have ek : k = k' := by
    rcases Nat.lt_trichotomy k k' with c | c | c
    · exact absurd a3 (b4 k pr c a1 e (List.mem_of_getElem? a2))
    · exact c
    · exact absurd b3 (a4 k' pr' c b1 e' (List.mem_of_getElem? b2))
  subst ek
  have ep := Option.some.inj (a1.symm.trans b1)
  subst ep
  have ei : i = i' := by
    rcases Nat.lt_trichotomy i i' with c | c | c
    · exact absurd a3 (b5 i e c a2)
    · exact c
    · exact absurd b3 (a5 i' e' c b2)
  subst ei
  exact ⟨rfl, rfl, rfl, Option.some.inj (a2.symm.trans b2)⟩
theorem e_weR_un (h : e_weR K inn Pt lm z q) (h' : e_weR K inn Pt lm z' q') : z = z' ∧ q = q' := by
  rcases h with ⟨a, e⟩ | ⟨ep, b, e1, prs, th, cf, sd, ns, cm, sg, hp, h⟩
  · rcases h' with ⟨_, e'⟩ | ⟨_, _, _, _, _, _, _, _, _, _, hp', _⟩
    · exact u_e e e'
    · exact absurd hp' (a _ _ _ _ _ _ _ _ _ _)
  · rcases h' with ⟨a, _⟩ | ⟨ep', b', e1', prs', th', cf', sd', ns', cm', sg', hp', h'⟩
    · exact absurd hp (a _ _ _ _ _ _ _ _ _ _)
    · obtain ⟨x1, x2, x3, x4, x5, x6, x7, x8, x9, x10⟩ := p_we_un hp hp'
      subst x1 x2 x3 x4 x5 x6 x7 x8 x9 x10
      refine u_or h h' u_e (fun a b => ?_)
      rcases a with ⟨a, e⟩ | ⟨k, i, pr, e, a1, a2⟩ <;> rcases b with ⟨b, e'⟩ | ⟨k', i', pr', e', b1, b2⟩
      · exact u_e e e'
      · exact absurd b1.2.2.1 (a _ (List.mem_of_getElem? b1.1) _ (List.mem_of_getElem? b1.2.1))
      · exact absurd a1.2.2.1 (b _ (List.mem_of_getElem? a1.1) _ (List.mem_of_getElem? a1.2.1))
      · obtain ⟨x1, x2, x3, x4⟩ := e_find_un a1 b1
        subst x1 x2 x3 x4
        exact e_w2_un a2 b2
end
end
