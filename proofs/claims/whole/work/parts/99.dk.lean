/-! ===== the class: the Reader's isRead ===== -/
noncomputable section
variable {H Z X Y : sw_H} {nn nm r ra g m : Nat} {K K' S : Wt → Prop} {tl mk mm l : List Wt} {a b c x y n cn cs N U M : Int} {Q : sw_H → Prop} {P : Int → sw_H → Prop} {A B : List Nat} {w : Wt} {st : p_S}
/-- cells A have changed, none is new -/
def c_fa (A : List Nat) (H Z : sw_H) : Prop := c_al A H Z ∧ sw_n Z = sw_n H ∧ sw_s Z = sw_s H ∧ ∀ c, sw_ty Z c = sw_ty H c
theorem c_fa_fr (f : c_fr A H Z) : c_fa A H Z := ⟨c_fr_al f, f.1, f.2.1, f.2.2.1⟩
theorem c_fa_t (h : c_fa A H Z) (k : c_fa A Z X) : c_fa A H X := ⟨c_al_t h.1 k.1, by rw [k.2.1, h.2.1], by rw [k.2.2.1, h.2.2.1], fun c => by rw [k.2.2.2, h.2.2.2]⟩
theorem c_fa_sub (h : c_fa A H Z) (hs : ∀ a ∈ A, a ∈ B) : c_fa B H Z := ⟨⟨h.1.1, fun a h1 h2 => h.1.2 a h1 (fun c => h2 (hs a c))⟩, h.2⟩
theorem c_fa_W (h : c_W H mk nn K tl cn cs) (k : c_fa A H Z) (hA : ∀ a ∈ A, 15 < a ∧ a ≤ 1491) : c_W Z mk nn K tl cn cs := c_W_al h k.1 k.2.1 k.2.2.1 (fun a ha => by have := hA a ha; unfold c_fix; omega) k.2.2.2
theorem c_fa_ch (h : c_W H mk nn K tl cn cs) (k : c_fa A H Z) (hA : ∀ a ∈ A, 15 < a) : c_ch A H Z := c_W_alch h k.1 (fun a ha => Or.inl (hA a ha))
/-- the first sign is the byte t -/
def w_ft (l : List Wt) (t : Int) : Prop := l[0]? = some (w_by t)
/-- a whole message is a PACKAGE, in steps -/
theorem w_isP_S {K : Wt → Prop} {l : List Wt} : (p_to (p_pk K l (some (0, l.length))) = some (l.length, l.length) ↔ ∃ v, w_isP K l v) := by
  constructor
  · intro h
    obtain ⟨v, hv⟩ := p_to_some h
    obtain ⟨ik, lf, g⟩ := v
    obtain ⟨b1, b2, _⟩ := p_pk_ix hv
    have b1 := Prod.mk.inj b1
    have e : l.length = 9 := by omega
    exact ⟨_, e, by rw [hv, e]⟩
  · rintro ⟨v, h1, h2⟩
    rw [h2, p_to_s, h1]
/-- what the Reader says of a message, and has of it -/
def c_rv (G : sw_H) (mk : List Wt) (K : Wt → Prop) (l : List Wt) (z : Int) : Prop :=
  (w_ft l 1 ∧ sw_iv G 18 5 = 1 ∧ ((z = 1 ∧ ∃ ik m k p so ph g0 g, w_isP K l (ik, (m, k, p, so, ph, g0), g) ∧ c_lf G mk 22 m k p so ph ∧ w_at mk (sw_iv G 22 5) g0) ∨ (z = 0 ∧ ∀ v, ¬ w_isP K l v))) ∨
  (w_ft l 2 ∧ sw_iv G 18 5 = 2 ∧ ((z = 1 ∧ ∃ ep lf v sg tg, p_pr K l ep lf v sg tg ∧ sw_iv G 18 6 = ep ∧ sw_iv G 18 7 = lf ∧ c_co G mk v) ∨ (z = 0 ∧ ∀ ep lf v sg tg, ¬ p_pr K l ep lf v sg tg))) ∨
  (w_ft l 3 ∧ sw_iv G 18 5 = 3 ∧ ((z = 1 ∧ ∃ ep sd b e1 es pt sg cf tg, p_cm K l ep sd b e1 es pt sg cf tg ∧ c_cmv G mk ep sd b e1 pt) ∨ (z = 0 ∧ ∀ ep sd b e1 es pt sg cf tg, ¬ p_cm K l ep sd b e1 es pt sg cf tg))) ∨
  (w_ft l 4 ∧ sw_iv G 18 5 = 4 ∧ ((z = 1 ∧ ∃ ep b e1 prs th cf sd ns cm sg, p_we K l ep b e1 prs th cf sd ns cm sg ∧ c_wev G mk ep sd b e1 ns) ∨ (z = 0 ∧ ∀ ep b e1 prs th cf sd ns cm sg, ¬ p_we K l ep b e1 prs th cf sd ns cm sg))) ∨
  ((∀ t, 1 ≤ t → t ≤ 4 → ¬ w_ft l t) ∧ z = 0)
theorem c_isRead (hml : mk.length ≤ 999999999) (r43 : 43 < r ∧ 43 < ra) (hvl : w_vl l) (hl14 : l.length ≤ 1400) (hW : c_W H mk nn K tl cn cs) (hRe : c_Re H) (h18 : sw_ty H 18 = 72 ∧ sw_rv H 18 0 = 3) (hrow : c_sg H (w_d mk) r ra l) (q : ∀ z G, (z = 0 ∨ z = 1) → c_rv G mk K l z → c_fa c_Bk H G → c_W G mk nn K tl cn cs → c_Re G → c_rs G mk r ra l → P z G) : wm_167 18 r H P := by
  have hB : ∀ a ∈ c_Bk, 18 ≤ a ∧ a ≤ 43 := fun a ha => c_Bk_b ha
  have hV := hW.1
  have hlen := c_sg_len hrow
  unfold wm_167
  intro H42 e42 H45 e45 v48 e48 _ H51 e51 H54 e54
  -- the Reader at the beginning
  have al42 : c_fa [18] H H42 := by
    rw [e42]
    exact ⟨c_al_sr H 18 1 r, rfl, rfl, fun _ => rfl⟩
  have f45 : c_fr [18] H42 H45 := by rw [e45]; exact c_fr_si _ _ _ _
  have f51 : c_fr [18] H45 H51 := by rw [e51]; exact c_fr_si _ _ _ _
  have f54 : c_fr [18] H51 H54 := by rw [e54]; exact c_fr_si _ _ _ _
  have fb := c_fr_t f45 (c_fr_t f51 f54)
  have fa : c_fa [18] H H54 := c_fa_t al42 (c_fa_fr fb)
  have W54 := c_fa_W hW fa (by simp)
  have rv54 : ∀ a f, ¬ (a = 18 ∧ f = 1) → sw_rv H54 a f = sw_rv H a f := fun a f h => by
    rw [fb.2.2.2.2.1, e42, sw_rv_sr, if_neg h]
  have ln54 : ∀ a, sw_ln H54 a = sw_ln H a := fun a => by rw [fb.2.2.2.1, e42]; rfl
  have ty54 : ∀ a, sw_ty H54 a = sw_ty H a := fa.2.2.2
  have iv54 : ∀ a, a ≠ 18 → sw_iv H54 a = sw_iv H a := fun a ha => by
    rw [fb.2.2.2.2.2 a (by simpa using ha), e42]; rfl
  have Re54 : c_Re H54 := by
    obtain ⟨q1, q2, q3, q4⟩ := hRe
    refine ⟨by rw [rv54 18 12 (by omega), rv54 18 13 (by omega), rv54 18 14 (by omega), rv54 18 15 (by omega), rv54 18 16 (by omega)]; exact q1, fun i a b => by rw [ty54, ln54]; exact q2 i a b, by rw [ty54]; exact q3, ?_⟩
    exact c_ts_ch q4 hV.2.2.2.1 hV.2.2.2.2 (c_fa_ch hW fa (by simp)) (by simp)
  have n54 : c_n H54 = c_n H := by unfold c_n; rw [iv54 3 (by decide)]
  have rowg : c_sg H54 (w_d mk) r ra l := by
    obtain ⟨s, ⟨t1, t2, t3, t4, t5, t6, t7⟩, g2, g3⟩ := hrow
    exact ⟨s, ⟨by rw [ty54]; exact t1, by rw [rv54 r 0 (by omega)]; exact t2, by rw [ty54]; exact t3, by rw [iv54 r (by omega)]; exact t4, by rw [ln54]; exact t5, by rw [ln54]; exact t6, by rw [iv54 ra (by omega)]; exact t7⟩, by rw [n54]; exact g2, g3⟩
  have rs54 : c_rs H54 mk r ra l := ⟨by rw [ty54]; exact h18.1, by rw [rv54 18 0 (by omega)]; exact h18.2, by rw [fb.2.2.2.2.1, e42, sw_rv_sr, if_pos ⟨rfl, rfl⟩], rowg, by omega, by omega, hl14, by rw [n54]; exact hV.1.2.1⟩
  have i48 : v48 = l.length := by
    rw [e48, f45.2.2.2.2.2 r (by simp; omega), e42]
    exact hlen.1
  have i2 : sw_iv H54 18 2 = 0 := by rw [e54, c_si_f (by decide), e51, c_si_f (by decide), e45, c_si_eq]
  have i3 : sw_iv H54 18 3 = l.length := by rw [e54, c_si_f (by decide), e51, c_si_eq, i48]
  have i4 : sw_iv H54 18 4 = 0 := by rw [e54, c_si_eq]
  clear e42 e45 e51 e54 f45 f51 f54 al42 e48
  -- the end of reading
  have fin : ∀ G (S : p_S), c_rd G l S → c_fr c_Bk H54 G → (∀ i e, S = some (i, e) → e = l.length) → c_rv G mk K l 1 ∨ ¬ S = some (l.length, l.length) → c_rv G mk K l 0 ∨ S = some (l.length, l.length) → wb_167_42 P 18 G := by
    intro G S rG fG hE h1 h0
    have FG : c_fa c_Bk H G := c_fa_t (c_fa_sub fa (fun a ha => by simp at ha; exact c_Bk_m (by omega) (by omega))) (c_fa_fr fG)
    have WG := c_fa_W hW FG (fun a ha => by have := hB a ha; omega)
    have ReG := c_Re_fr Re54 fG
    have rsG := c_rs_frN rs54 fG hB r43
    have go0 : ¬ S = some (l.length, l.length) → P 0 G := fun hn => q 0 G (Or.inl rfl) (by
      rcases h0 with h | h
      · exact h
      · exact absurd h hn) FG WG ReG rsG
    unfold wb_167_42
    intro v1 e1 _
    cases S with
    | none =>
      have := rG.2.2.2.2
      exact ⟨fun _ => go0 (by simp), fun c => by omega⟩
    | some s =>
      obtain ⟨i, e⟩ := s
      obtain ⟨g1, g2, g3, g4, g5⟩ := rG
      refine ⟨fun c => by omega, fun _ => ?_⟩
      have := hE i e rfl
      subst this
      intro v4 e4 _ v7 e7 _
      refine ⟨fun c => go0 (fun h => c ?_), fun c => q 1 G (Or.inr rfl) ?_ FG WG ReG rsG⟩
      · have := Prod.mk.inj (Option.some.inj h)
        omega
      · have : i = l.length := by omega
        subst this
        rcases h1 with h | h
        · exact h
        · exact absurd rfl h
  -- the type
  have go : ∀ ty : Int, (∀ t : Int, 1 ≤ t → t ≤ 4 → (ty = t ↔ w_ft l t)) → wb_167_23 P 18 ty 18 H54 := by
    intro ty hty
    unfold wb_167_23
    intro H12 e12
    have f12 : c_fr [18] H54 H12 := by rw [e12]; exact c_fr_si _ _ _ _
    have F12 : c_fr c_Bk H54 H12 := c_frB f12 (by simp)
    have r12 : c_rd H12 l (some (0, l.length)) := ⟨by rw [e12, c_si_f (by decide)]; exact i2, by rw [e12, c_si_f (by decide)]; exact i3, by rw [e12, c_si_f (by decide)]; exact i4, Nat.zero_le _, Nat.le_refl _⟩
    have t12 : sw_iv H12 18 5 = ty := by rw [e12, c_si_eq]
    have V12 := c_VR W54.1 f12 (by simp)
    have Re12 := c_Re_fr Re54 f12
    have rs12 := c_rs_frN rs54 f12 (by simp) r43
    intro v15 e15 _
    rw [t12] at e15
    refine ⟨fun c => ?_, fun c => ?_, fun c => ?_, fun c => ?_, fun c => ?_⟩
    · intro H18 e18
      obtain ⟨b1, b2, b3, b4⟩ := c_rd_b r12
      obtain ⟨w1, w2⟩ := c_rd_wrong b1 b2 b3 b4 e18
      refine fin H18 none w1 (c_fr_t F12 (c_frB w2 (by simp))) (fun i e h => absurd h (by simp)) (Or.inr (by simp)) (Or.inl (Or.inr (Or.inr (Or.inr (Or.inr ⟨fun t h1 h4 h => ?_, rfl⟩)))))
      have := (hty t h1 h4).mpr h
      omega
    · have ft := (hty 1 (by decide) (by decide)).mp (by omega)
      refine c_readPackage V12 hml rs12 (by omega) (by omega) Re12.1.2.2.2.1 Re12.2.2.1 r12 (fun G rG vG fG kG _ => ?_)
      have t5 : sw_iv G 18 5 = 1 := by rw [kG 5 (by omega), t12]; omega
      refine fin G _ rG (c_fr_t F12 (c_frB fG (by simp))) (fun i e h => ?_) ?_ ?_
      · obtain ⟨v, hv⟩ := p_to_some h
        exact p_pk_e hv
      · by_cases cs : p_to (p_pk K l (some (0, l.length))) = some (l.length, l.length)
        · obtain ⟨v, hv⟩ := w_isP_S.mp cs
          obtain ⟨ik, ⟨m, k, p, so, ph, g0⟩, g⟩ := v
          obtain ⟨y1, y2⟩ := vG ik m k p so ph g0 g _ hv.2
          exact Or.inl (Or.inl ⟨ft, t5, Or.inl ⟨rfl, ik, m, k, p, so, ph, g0, g, hv, y1, y2⟩⟩)
        · exact Or.inr cs
      · by_cases cs : p_to (p_pk K l (some (0, l.length))) = some (l.length, l.length)
        · exact Or.inr cs
        · exact Or.inl (Or.inl ⟨ft, t5, Or.inr ⟨rfl, fun v hv => cs (w_isP_S.mpr ⟨v, hv⟩)⟩⟩)
    · have ft := (hty 2 (by decide) (by decide)).mp (by omega)
      refine c_readProposal r43 hml V12 Re12 rs12 r12 (fun G rG vG fG kG _ => ?_)
      have t5 : sw_iv G 18 5 = 2 := by rw [kG, t12]; omega
      obtain ⟨S, eS⟩ : ∃ S, p_to (p_t K 2 l (p_to (p_t K 7 l (p_to (p_ct K l (p_to (p_16 l (p_to (p_32 l (p_to (p_8 l (some (0, l.length))))))))))))) = S := ⟨_, rfl⟩
      have hiff : S = some (l.length, l.length) ↔ ∃ ep lf v sg tg, p_pr K l ep lf v sg tg := by
        constructor
        · intro h
          rw [h] at eS
          exact (p_pr_st eS).2 rfl
        · rintro ⟨ep, lf, v, sg, tg, hp⟩
          rw [← eS, p_pr_S hp]
      rw [eS] at rG
      refine fin G S rG (c_fr_t F12 (c_frB fG (by simp))) (fun i e h => ?_) ?_ ?_
      · rw [h] at eS; exact (p_pr_st eS).1
      · by_cases cs : S = some (l.length, l.length)
        · obtain ⟨ep, lf, v, sg, tg, hp⟩ := hiff.mp cs
          obtain ⟨y1, y2, y3⟩ := vG ep lf v sg tg hp
          exact Or.inl (Or.inr (Or.inl ⟨ft, t5, Or.inl ⟨rfl, ep, lf, v, sg, tg, hp, y1, y2, y3⟩⟩))
        · exact Or.inr cs
      · by_cases cs : S = some (l.length, l.length)
        · exact Or.inr cs
        · exact Or.inl (Or.inr (Or.inl ⟨ft, t5, Or.inr ⟨rfl, fun ep lf v sg tg hp => cs (hiff.mpr ⟨ep, lf, v, sg, tg, hp⟩)⟩⟩))
    · have ft := (hty 3 (by decide) (by decide)).mp (by omega)
      refine c_readCommit r43 hml V12 Re12 rs12 r12 (fun G rG vG fG kG _ => ?_)
      have t5 : sw_iv G 18 5 = 3 := by rw [kG, t12]; omega
      obtain ⟨S, eS⟩ : ∃ S, p_cmS K l = S := ⟨_, rfl⟩
      have hiff : S = some (l.length, l.length) ↔ ∃ ep sd b e1 es pt sg cf tg, p_cm K l ep sd b e1 es pt sg cf tg := by
        constructor
        · intro h
          rw [h] at eS
          exact (p_cm_st eS).2 rfl
        · rintro ⟨ep, sd, b, e1, es, pt, sg, cf, tg, hp⟩
          rw [← eS, p_cm_S hp]
      rw [eS] at rG
      refine fin G S rG (c_fr_t F12 (c_frB fG (by simp))) (fun i e h => ?_) ?_ ?_
      · rw [h] at eS; exact (p_cm_st eS).1
      · by_cases cs : S = some (l.length, l.length)
        · obtain ⟨ep, sd, b, e1, es, pt, sg, cf, tg, hp⟩ := hiff.mp cs
          have y1 := vG ep sd b e1 es pt sg cf tg hp
          exact Or.inl (Or.inr (Or.inr (Or.inl ⟨ft, t5, Or.inl ⟨rfl, ep, sd, b, e1, es, pt, sg, cf, tg, hp, y1⟩⟩)))
        · exact Or.inr cs
      · by_cases cs : S = some (l.length, l.length)
        · exact Or.inr cs
        · exact Or.inl (Or.inr (Or.inr (Or.inl ⟨ft, t5, Or.inr ⟨rfl, fun ep sd b e1 es pt sg cf tg hp => cs (hiff.mpr ⟨ep, sd, b, e1, es, pt, sg, cf, tg, hp⟩)⟩⟩)))
    · have ft := (hty 4 (by decide) (by decide)).mp (by omega)
      refine c_readWelcome r43 hml hvl V12 Re12 rs12 r12 (fun G rG vG fG kG _ => ?_)
      have t5 : sw_iv G 18 5 = 4 := by rw [kG, t12]; omega
      obtain ⟨S, eS⟩ : ∃ S, p_weS K l = S := ⟨_, rfl⟩
      have hiff : S = some (l.length, l.length) ↔ ∃ ep b e1 prs th cf sd ns cm sg, p_we K l ep b e1 prs th cf sd ns cm sg := by
        constructor
        · intro h
          rw [h] at eS
          exact (p_we_st eS).2 rfl
        · rintro ⟨ep, b, e1, prs, th, cf, sd, ns, cm, sg, hp⟩
          rw [← eS, p_we_S hp]
      rw [eS] at rG
      refine fin G S rG (c_fr_t F12 fG) (fun i e h => ?_) ?_ ?_
      · rw [h] at eS; exact (p_we_st eS).1
      · by_cases cs : S = some (l.length, l.length)
        · obtain ⟨ep, b, e1, prs, th, cf, sd, ns, cm, sg, hp⟩ := hiff.mp cs
          have y1 := vG ep b e1 prs th cf sd ns cm sg hp
          exact Or.inl (Or.inr (Or.inr (Or.inr (Or.inl ⟨ft, t5, Or.inl ⟨rfl, ep, b, e1, prs, th, cf, sd, ns, cm, sg, hp, y1⟩⟩))))
        · exact Or.inr cs
      · by_cases cs : S = some (l.length, l.length)
        · exact Or.inr cs
        · exact Or.inl (Or.inr (Or.inr (Or.inr (Or.inl ⟨ft, t5, Or.inr ⟨rfl, fun ep b e1 prs th cf sd ns cm sg hp => cs (hiff.mpr ⟨ep, b, e1, prs, th, cf, sd, ns, cm, sg, hp⟩)⟩⟩))))
  intro v57 e57 _
  rw [i3] at e57
  refine ⟨fun c => go 0 (fun t h1 h4 => ⟨fun h => by omega, fun h => ?_⟩), fun c => ?_⟩
  · unfold w_ft at h
    have := (List.getElem?_eq_some_iff.mp h).1
    omega
  · obtain ⟨t1, t2, t3, t4, at'⟩ := c_rs_at W54.1.1 rs54
    rw [t2]
    refine ⟨t3, ?_⟩
    intro q60 e60
    rw [e60]
    refine ⟨by omega, ?_⟩
    intro v63 e63 _
    obtain ⟨a1, a2, a3, a4⟩ := at' 0 (by omega)
    rw [← e63] at a1 a2 a3 a4
    refine go v63 (fun t h1 h4 => ⟨fun h => ?_, fun h => ?_⟩)
    · unfold w_ft
      rw [w_get (by omega), ← a2]
      unfold w_sg
      rw [if_pos (by omega), h]
      rfl
    · unfold w_ft at h
      rw [h] at a3 a4
      have b1 := a3.mpr rfl
      have b2 := a4 b1
      have b2 : w_bv (w_by t) = v63 := b2
      rw [w_bv_by (by omega)] at b2
      exact b2.symm
end
