/-! ===== how many terms a WELCOME makes ===== -/
noncomputable section
section
variable {H : sw_H} {K : Wt → Prop} {l lm mk tl tp : List Wt} {nn m : Nat} {rd : Nat → Int} {ms : List (List Wt)} {ep sd : Int} {b e1 x : Nat} {prs : List (Wt × Wt)} {th cf cm sg v : Wt} {ns : List p_V} {T : w_T} {Pt : List (List Wt × Wt × Wt)}
theorem b_sgm {d : Nat → Wt} {n : Nat} (hd : ∀ k, 1 ≤ k → k ≤ n → d k ∈ mk) {s : List Int} (hs : ∀ x ∈ s, m_vs (n : Int) x) {w : Wt} (hw : w ∈ s.map (w_sg d)) (hb : w.head? ≠ some 1000) : w ∈ mk := by
  obtain ⟨y, hy, e⟩ := List.mem_map.mp hw
  obtain ⟨y0, h⟩ := hs y hy
  unfold w_sg at e
  by_cases c : y < 256
  · rw [if_pos c] at e
    rw [← e] at hb
    exact absurd rfl hb
  · rw [if_neg c] at e
    rw [← e]
    exact hd _ (by omega) (by omega)
theorem b_dmk {k : Nat} (h1 : 1 ≤ k) (h2 : k ≤ mk.length) : w_d mk k ∈ mk := by
  have := w_at_of (mk := mk) (x := (k : Int)) (by omega) (by omega)
  rw [Int.toNat_natCast] at this
  exact List.mem_of_getElem? this.2
theorem b_clo_c (hL : c_L H mk nn K tl) : b_clo mk := fun s a b c l hm x hx hb => by
  obtain ⟨i, hi⟩ := List.mem_iff_getElem?.mp hm
  have il := (List.getElem?_eq_some_iff.mp hi).1
  have hn := hL.2.1
  have hR : c_R H (i + 1) := ⟨by omega, by omega⟩
  have hrw := hL.1.1.2.2.2.2.2.2.2.2.2.1 (i + 1) hR
  have ed : w_d mk (i + 1) = w_t s a b c l := by
    unfold w_d
    rw [if_neg (by omega), Nat.add_sub_cancel, hi]
    rfl
  obtain ⟨_, _, _, _, hvs, hne, hz⟩ := hrw
  by_cases c0 : c_d H (i + 1) 0 = 0
  · rcases hz c0 with ⟨_, e⟩ | ⟨_, j, _, e⟩
    · rw [ed] at e
      have := (w_mk_inj e).2
      simp only [List.cons.injEq] at this
      rw [this.2.2.2] at hx
      cases hx
    · rw [ed] at e
      have := (w_mk_inj e).2
      simp only [List.cons.injEq] at this
      cases this.2
  · have e := (hne c0).1
    rw [ed] at e
    have := (w_mk_inj e).2
    simp only [List.cons.injEq] at this
    rw [this.2.2.2] at hx
    refine b_sgm (n := i) (d := w_d mk) (fun k k1 k2 => b_dmk k1 (by omega)) (fun y hy => ?_) hx hb
    have := hvs y hy
    rw [show ((i + 1 : Nat) : Int) - 1 = (i : Int) by omega] at this
    exact this
theorem b_ms_mk (hL : c_L H mk nn K tl) (hX : c_X H mk tp rd ms) (h : lm ∈ ms) : ∀ w ∈ lm, w.head? ≠ some 1000 → w ∈ mk := fun w hw hb => by
  obtain ⟨i, hi⟩ := List.mem_iff_getElem?.mp h
  obtain ⟨_, _, _, a, _, _, s, _, h1, h2⟩ := hX.2.2.2.2.2 i lm hi
  rw [← h2] at hw
  rw [hL.2.1] at h1
  exact b_sgm (n := mk.length) (d := w_d mk) (fun k k1 k2 => b_dmk k1 k2) h1 hw hb
/-- what looking at a side makes -/
def b_bl (T : w_T) (x o : Nat) (v : Wt) : Prop := v = w_wt T x o ∨ ∃ y ∈ w_ordk (w_h o) o (w_h o + 1) 0, v = w_th T (t_um T x) y
def b_bn (o : Nat) : Nat := 1 + (w_ordk (w_h o) o (w_h o + 1) 0).length
def b_bu (o : Nat) : Nat := 3 + ((w_ordk (w_h o) o (w_h o + 1) 0).map (fun y => if y % 2 = 0 then 11 else 40)).sum
theorem b_bl_cv (x o : Nat) : b_cv (b_bl T x o) (b_bn o) (b_bu o) := by
  have a := b_cv_t (S := fun v => v = w_wt T x o) (fun v h => h)
  have c := b_cv_map (S := fun v => ∃ y ∈ w_ordk (w_h o) o (w_h o + 1) 0, v = w_th T (t_um T x) y) (f := fun y => w_th T (t_um T x) y) (g := fun y => if y % 2 = 0 then 11 else 40) (w_ordk (w_h o) o (w_h o + 1) 0) (fun y _ => b_th T (t_um T x) y) (fun v h => h)
  exact b_cv_or a c (fun v h => h)
theorem b_cv_s2 {F : Nat → Wt → Prop} {g u : Nat → Nat} : ∀ k, (∀ j, j < k → b_cv (F j) (g j) (u j)) → b_cv (fun v => ∃ j, j < k ∧ F j v) (((List.range k).map g).sum) (((List.range k).map u).sum)
  | 0, _ => b_cv_no (fun v h => by obtain ⟨j, hj, _⟩ := h; omega)
  | k + 1, h => by
    have a := b_cv_s2 k (fun j hj => h j (by omega))
    have b := h k (by omega)
    rw [List.range_succ, List.map_append, List.sum_append, List.map_append, List.sum_append, List.map_cons, List.map_nil, List.sum_cons, List.sum_nil, Nat.add_zero, List.map_cons, List.map_nil, List.sum_cons, List.sum_nil, Nat.add_zero]
    refine b_cv_or a b (fun v hv => ?_)
    obtain ⟨j, hj, hf⟩ := hv
    by_cases e : j = k
    · subst e; exact Or.inr hf
    · exact Or.inl ⟨j, by omega, hf⟩
theorem b_blr : ((List.range 31).map (fun x => if x % 2 = 1 then b_bn (t_rch x) else 0)).sum ≤ 64 ∧ ((List.range 31).map (fun x => if x % 2 = 1 then b_bu (t_rch x) else 0)).sum ≤ 1077 := by decide +kernel
theorem b_bll : ∀ x : Fin 31, x.val % 2 = 1 → b_bn (t_lch x.val) ≤ 16 ∧ b_bu (t_lch x.val) ≤ 371 := by decide +kernel
theorem b_sS (hvl : w_vl lm) (h : p_we K lm ep b e1 prs th cf sd ns cm sg) (hc : b_clo mk) (hlm : ∀ w ∈ lm, w.head? ≠ some 1000 → w ∈ mk) : b_cv (fun v => t_sS (t_of ns) v ∧ v ∉ mk) 80 1448 := by
  have hok := p_we_ok hvl h
  have h4 := hok.1
  obtain ⟨T, eT⟩ : ∃ T, T = t_of ns := ⟨_, rfl⟩
  rw [← eT] at hok h4 ⊢
  have w31 := t_w_4 h4
  have c1 : b_cv (fun v => ∃ x, x < 31 ∧ x % 2 = 1 ∧ b_bl T x (t_rch x) v) 64 1077 := by
    refine b_cv_le (b_cv_s2 (F := fun x v => x % 2 = 1 ∧ b_bl T x (t_rch x) v) (g := fun x => if x % 2 = 1 then b_bn (t_rch x) else 0) (u := fun x => if x % 2 = 1 then b_bu (t_rch x) else 0) 31 (fun x _ => ?_)) b_blr.1 b_blr.2
    by_cases c : x % 2 = 1
    · rw [if_pos c, if_pos c]
      exact b_cv_im (b_bl_cv (T := T) x (t_rch x)) (fun v h => h.2)
    · rw [if_neg c, if_neg c]
      exact b_cv_no (fun v h => c h.1)
  have c2 : b_cv (fun v => ∃ x, x < t_w T ∧ x % 2 = 1 ∧ t_ky T x ≠ [] ∧ (∀ x', x' < x → x' % 2 = 1 → t_ky T x' ≠ [] → t_snx T x') ∧ ¬ t_snx T x ∧ b_bl T x (t_lch x) v) 16 371 := by
    by_cases c : ∃ x, x < t_w T ∧ x % 2 = 1 ∧ t_ky T x ≠ [] ∧ (∀ x', x' < x → x' % 2 = 1 → t_ky T x' ≠ [] → t_snx T x') ∧ ¬ t_snx T x
    · obtain ⟨x0, a1, a2, a3, a4, a5⟩ := c
      obtain ⟨k1, k2⟩ := b_bll ⟨x0, by omega⟩ a2
      refine b_cv_le (b_cv_im (b_bl_cv (T := T) x0 (t_lch x0)) (fun v hv => ?_)) k1 k2
      obtain ⟨x, b1, b2, b3, b4, b5, b6⟩ := hv
      have : x = x0 := by
        rcases Nat.lt_trichotomy x x0 with g | g | g
        · exact absurd (a4 x g b2 b3) b5
        · exact g
        · exact absurd (b4 x0 g a2 a3) a5
      subst this
      exact b6
    · exact b_cv_le (b_cv_no (fun v hv => by
        obtain ⟨x, b1, b2, b3, b4, b5, _⟩ := hv
        exact c ⟨x, b1, b2, b3, b4, b5⟩)) (Nat.zero_le _) (Nat.zero_le _)
  refine b_cv_le (b_cv_or c1 c2 (fun v hv => ?_)) (by decide) (by decide)
  obtain ⟨⟨x, o, a1, a2, a3, a4, a5, a6⟩, nm⟩ := hv
  rcases a5 with a5 | ⟨a5, a7⟩
  · subst a5
    exact Or.inl ⟨x, by omega, a2, a6⟩
  · subst a5
    right
    refine ⟨x, a1, a2, a3, a4, fun hs => ?_, a6⟩
    -- the other side is sound: all is there already
    rcases hs.2 with g | ⟨y, g1, g2, g3⟩
    · exact a7 g
    · apply nm
      have ph := p_we_ph hvl h y
      rw [← eT] at ph
      obtain ⟨q1, q2⟩ := ph.resolve_left g2
      have wm : w_wt T x (t_lch x) ∈ mk := by
        rw [← g3]
        exact hlm _ q2 (by rw [q1]; decide)
      rcases a6 with e | ⟨z, hz, e⟩
      · rw [e]; exact wm
      · rw [e]
        obtain ⟨s1, s2, s3, s4, _⟩ := t_sd h4 a1 a2
        have pp := Nat.two_pow_pos (w_h (t_lch x))
        have hd : (w_th T (t_um T x) (t_lch x)).head? = some 1 := by
          unfold w_th
          cases w_h (t_lch x) with
          | zero => rfl
          | succ h => rfl
        have hm := hc 1 [] [] [] _ wm (w_th T (t_um T x) (t_lch x)) (List.mem_cons_of_mem _ (List.mem_cons_of_mem _ (List.mem_cons_self ..))) (by rw [hd]; decide)
        have zi := w_ordk_in ⟨t_lch x, by omega⟩ s3 z hz
        exact b_thm hc (w_h (t_lch x)) (t_lch x) rfl (by omega) hm z zi.1 zi.2
theorem b_lgS (hvl : w_vl lm) (h : p_we K lm ep b e1 prs th cf sd ns cm sg) (hlm : ∀ w ∈ lm, w.head? ≠ some 1000 → w ∈ mk) : b_cv (fun v => (∃ l, t_is (t_of ns) l ∧ (∀ j, j < l → t_is (t_of ns) j → w_lfs (t_lfa (t_of ns) j) (j : Int)) ∧ v = t_lsg (t_of ns) l) ∧ v ∉ mk) 1 8 := by
  have ok : ∀ l, t_is (t_of ns) l → w_lfs (t_lfa (t_of ns) l) (l : Int) → t_lsg (t_of ns) l ∈ mk := fun l hl hw => by
    obtain ⟨a1, a2, a3, a4⟩ := hw
    have a1 : 0 ≤ t_ow (t_of ns) l := a1
    have a3 : t_sk (t_of ns) l = w_pub (t_ow (t_of ns) l).toNat := a3
    have a4 : t_sg (t_of ns) l = w_t 7 (w_nm (t_ow (t_of ns) l).toNat) [] [] (w_lh (t_ow (t_of ns) l) (t_ky (t_of ns) (2 * l)) (t_sk (t_of ns) l) (t_so (t_of ns) l) (t_ph (t_of ns) (2 * l)) ++ if 1 < t_so (t_of ns) l then w_b16 (l : Int) else []) := a4
    have e : t_lsg (t_of ns) l = t_sg (t_of ns) l := by
      rw [a4, a3]
      unfold t_lsg w_lsg
      rw [show (((t_ow (t_of ns) l).toNat : Nat) : Int) = t_ow (t_of ns) l by omega]
    have hd : (t_lsg (t_of ns) l).head? = some 7 := rfl
    have mem := p_we_sg hvl h hl.2
    rw [← e] at mem
    exact hlm _ mem (by rw [hd]; decide)
  by_cases c : ∃ l, t_is (t_of ns) l ∧ (∀ j, j < l → t_is (t_of ns) j → w_lfs (t_lfa (t_of ns) j) (j : Int)) ∧ ¬ w_lfs (t_lfa (t_of ns) l) (l : Int)
  · obtain ⟨l0, a1, a2, a3⟩ := c
    have one := b_cv_t (S := fun v => v = t_lsg (t_of ns) l0) (fun v h => h)
    have sz : (w_lh ((t_ow (t_of ns) l0).toNat : Int) (t_ky (t_of ns) (2 * l0)) (w_pub (t_ow (t_of ns) l0).toNat) (t_so (t_of ns) l0) (t_ph (t_of ns) (2 * l0)) ++ if 1 < t_so (t_of ns) l0 then w_b16 (l0 : Int) else []).length ≤ 8 := by
      rw [List.length_append]
      have h1 : (w_lh ((t_ow (t_of ns) l0).toNat : Int) (t_ky (t_of ns) (2 * l0)) (w_pub (t_ow (t_of ns) l0).toNat) (t_so (t_of ns) l0) (t_ph (t_of ns) (2 * l0))).length ≤ 6 := by
        unfold w_lh
        split
        · exact Nat.le_refl _
        · exact (by decide : (5 : Nat) ≤ 6)
      have h2 : ((if 1 < t_so (t_of ns) l0 then w_b16 (l0 : Int) else []) : List Wt).length ≤ 2 := by
        split
        · exact Nat.le_refl _
        · exact Nat.zero_le _
      omega
    refine b_cv_le (b_cv_im one (fun v hv => ?_)) (Nat.le_refl _) sz
    obtain ⟨⟨l, b1, b2, b3⟩, nm⟩ := hv
    have : l = l0 := by
      rcases Nat.lt_trichotomy l l0 with g | g | g
      · exact absurd (by rw [b3]; exact ok l b1 (a2 l g b1)) nm
      · exact g
      · exact absurd (b2 l0 g a1) a3
    subst this
    exact b3
  · refine b_cv_le (b_cv_no (fun v hv => ?_)) (Nat.zero_le _) (Nat.zero_le _)
    obtain ⟨⟨l, b1, b2, b3⟩, nm⟩ := hv
    by_cases c1 : w_lfs (t_lfa (t_of ns) l) (l : Int)
    · exact nm (by rw [b3]; exact ok l b1 c1)
    · exact c ⟨l, b1, b2, c1⟩
/-- what is made once for a text -/
def e_tS (lm : List Wt) (v : Wt) : Prop := ∃ ep b e1 prs th cf sd ns cm sg, p_we (p_K1 lm) lm ep b e1 prs th cf sd ns cm sg ∧ ((∃ y ∈ b_all (t_of ns), v = w_th (t_of ns) 0 y) ∨ (w_th (t_of ns) 0 (t_top (t_of ns)) = th ∧ t_sS (t_of ns) v) ∨ (w_th (t_of ns) 0 (t_top (t_of ns)) = th ∧ ∃ l, t_is (t_of ns) l ∧ (∀ j, j < l → t_is (t_of ns) j → w_lfs (t_lfa (t_of ns) j) (j : Int)) ∧ v = t_lsg (t_of ns) l))
/-- what is made each time -/
def e_oS (K : Wt → Prop) (Pt : List (List Wt × Wt × Wt)) (lm : List Wt) (v : Wt) : Prop := ∃ ep b e1 prs th cf sd ns cm sg, p_we K lm ep b e1 prs th cf sd ns cm sg ∧ ∃ k i pr e, e_find Pt prs k i pr e ∧ (v = w_p5 e.2.1 ∨ ∃ a jn sc L ik f g0 l, pr.2 = w_t 6 a jn sc L ∧ w_isP K e.1 (ik, f, g0) ∧ w_th (t_of ns) 0 (t_top (t_of ns)) = th ∧ t_snd (t_of ns) ∧ t_fl1 (t_of ns) f l ∧ (v = e_es (t_of ns) ep cf jn ∨ v = w_dr (e_es (t_of ns) ep cf jn) 2 ∨ v = w_cfm (e_es (t_of ns) ep cf jn) cf ∨ v = w_int cf (w_cfm (e_es (t_of ns) ep cf jn) cf) ∨ e_clS (t_of ns) l sc (e_h (t_of ns) l sd.toNat) v))
theorem e_wS_sp (h : e_wS K Pt lm v) : (∃ e ∈ Pt, v = w_t 1 [] [] [] e.1) ∨ e_tS lm v ∨ e_oS K Pt lm v := by
  rcases h with h | ⟨ep, b, e1, prs, th, cf, sd, ns, cm, sg, hp, h⟩
  · exact Or.inl h
  · rcases h with h | h | h | h
    · exact Or.inr (Or.inl ⟨ep, b, e1, prs, th, cf, sd, ns, cm, sg, p_we_1 hp, Or.inl h⟩)
    · exact Or.inr (Or.inl ⟨ep, b, e1, prs, th, cf, sd, ns, cm, sg, p_we_1 hp, Or.inr (Or.inl h)⟩)
    · exact Or.inr (Or.inl ⟨ep, b, e1, prs, th, cf, sd, ns, cm, sg, p_we_1 hp, Or.inr (Or.inr h)⟩)
    · exact Or.inr (Or.inr ⟨ep, b, e1, prs, th, cf, sd, ns, cm, sg, hp, h⟩)
theorem b_eT (hvl : w_vl lm) (hc : b_clo mk) (hlm : ∀ w ∈ lm, w.head? ≠ some 1000 → w ∈ mk) : b_cv (fun v => e_tS lm v ∧ v ∉ mk) 81 1456 := by
  by_cases c : ∃ ep b e1 prs th cf sd ns cm sg, p_we (p_K1 lm) lm ep b e1 prs th cf sd ns cm sg
  rotate_left
  · refine b_cv_le (b_cv_no (fun v hv => ?_)) (Nat.zero_le _) (Nat.zero_le _)
    obtain ⟨⟨ep, b, e1, prs, th, cf, sd, ns, cm, sg, hp, _⟩, _⟩ := hv
    exact c ⟨ep, b, e1, prs, th, cf, sd, ns, cm, sg, hp⟩
  obtain ⟨ep, b, e1, prs, th, cf, sd, ns, cm, sg, hp⟩ := c
  have hok := p_we_ok hvl hp
  have h4 := hok.1
  have red : ∀ v, e_tS lm v → (∃ y ∈ b_all (t_of ns), v = w_th (t_of ns) 0 y) ∨ (w_th (t_of ns) 0 (t_top (t_of ns)) = th ∧ t_sS (t_of ns) v) ∨ (w_th (t_of ns) 0 (t_top (t_of ns)) = th ∧ ∃ l, t_is (t_of ns) l ∧ (∀ j, j < l → t_is (t_of ns) j → w_lfs (t_lfa (t_of ns) j) (j : Int)) ∧ v = t_lsg (t_of ns) l) := fun v hv => by
    obtain ⟨ep', b', e1', prs', th', cf', sd', ns', cm', sg', hp', hv⟩ := hv
    obtain ⟨x1, x2, x3, x4, x5, x6, x7, x8, x9, x10⟩ := p_we_un hp hp'
    subst x5; subst x8
    exact hv
  by_cases ct : w_th (t_of ns) 0 (t_top (t_of ns)) = th
  · have a := b_sS hvl hp hc hlm
    have g := b_lgS hvl hp hlm
    refine b_cv_le (b_cv_or a g (fun v hv => ?_)) (by decide) (by decide)
    obtain ⟨hv, nm⟩ := hv
    rcases red v hv with ⟨y, hy, e⟩ | ⟨_, e⟩ | ⟨_, e⟩
    · exfalso
      apply nm
      have hth := hp.2.2.2.2.1
      have tin : th ∈ mk := hlm th (List.mem_of_getElem? (p_t_sl (Nat.le_refl _) hth)) (by rw [(p_t_in hth).2.2.2.1]; decide)
      rw [← ct] at tin
      obtain ⟨p1, p2, p3⟩ := t_top_h h4
      have w31 := t_w_4 h4
      have pp := Nat.two_pow_pos (w_h (t_top (t_of ns)))
      have zi := w_ordk_in ⟨t_top (t_of ns), by omega⟩ p3 y hy
      rw [e]
      exact b_thm hc (w_h (t_top (t_of ns))) (t_top (t_of ns)) rfl (by omega) tin y zi.1 zi.2
    · exact Or.inl ⟨e, nm⟩
    · exact Or.inr ⟨e, nm⟩
  · refine b_cv_le (b_cv_all (T := t_of ns) (wo := 0) h4 (fun v hv => ?_)) (by decide) (by decide)
    rcases red v hv.1 with e | ⟨e, _⟩ | ⟨e, _⟩
    · exact e
    · exact absurd e ct
    · exact absurd e ct
theorem e_mt_le : ∀ (n j : Nat) {lf sd : Nat}, j ≤ e_mt lf sd j n
  | 0, j, _, _ => Nat.le_refl _
  | n + 1, j, lf, sd => by
    show j ≤ if t_ab lf j = t_ab sd j then j else e_mt lf sd (j + 1) n
    split
    · exact Nat.le_refl _
    · have := e_mt_le n (j + 1) (lf := lf) (sd := sd)
      omega
theorem b_eO (hvl : w_vl lm) : b_cv (e_oS K Pt lm) 17 9 := by
  by_cases c : ∃ ep b e1 prs th cf sd ns cm sg k i pr e, p_we K lm ep b e1 prs th cf sd ns cm sg ∧ e_find Pt prs k i pr e
  rotate_left
  · refine b_cv_le (b_cv_no (fun v hv => ?_)) (Nat.zero_le _) (Nat.zero_le _)
    obtain ⟨ep, b, e1, prs, th, cf, sd, ns, cm, sg, hp, k, i, pr, e, hf, _⟩ := hv
    exact c ⟨ep, b, e1, prs, th, cf, sd, ns, cm, sg, k, i, pr, e, hp, hf⟩
  obtain ⟨ep, b, e1, prs, th, cf, sd, ns, cm, sg, k, i, pr, e, hp, hf⟩ := c
  have hok := p_we_ok hvl hp
  have h4 := hok.1
  have c0 := b_cv_t (S := fun v => v = w_p5 e.2.1) (fun v h => h)
  have red : ∀ v, e_oS K Pt lm v → v = w_p5 e.2.1 ∨ ∃ a jn sc L ik f g0 l, pr.2 = w_t 6 a jn sc L ∧ w_isP K e.1 (ik, f, g0) ∧ w_th (t_of ns) 0 (t_top (t_of ns)) = th ∧ t_snd (t_of ns) ∧ t_fl1 (t_of ns) f l ∧ (v = e_es (t_of ns) ep cf jn ∨ v = w_dr (e_es (t_of ns) ep cf jn) 2 ∨ v = w_cfm (e_es (t_of ns) ep cf jn) cf ∨ v = w_int cf (w_cfm (e_es (t_of ns) ep cf jn) cf) ∨ e_clS (t_of ns) l sc (e_h (t_of ns) l sd.toNat) v) := fun v hv => by
    obtain ⟨ep', b', e1', prs', th', cf', sd', ns', cm', sg', hp', k', i', pr', e', hf', hv⟩ := hv
    obtain ⟨x1, x2, x3, x4, x5, x6, x7, x8, x9, x10⟩ := p_we_un hp hp'
    subst x1; subst x4; subst x5; subst x6; subst x7; subst x8
    obtain ⟨z1, z2, z3, z4⟩ := e_find_un hf hf'
    subst z3; subst z4
    exact hv
  by_cases c1 : ∃ a jn sc L ik f g0 l, pr.2 = w_t 6 a jn sc L ∧ w_isP K e.1 (ik, f, g0) ∧ t_snd (t_of ns) ∧ t_fl1 (t_of ns) f l
  rotate_left
  · refine b_cv_le (b_cv_im c0 (fun v hv => ?_)) (by decide) (by decide)
    rcases red v hv with g | ⟨a, jn, sc, L, ik, f, g0, l, q1, q2, _, q3, q4, _⟩
    · exact g
    · exact absurd ⟨a, jn, sc, L, ik, f, g0, l, q1, q2, q3, q4⟩ c1
  obtain ⟨a, jn, sc, L, ik, f, g0, l, q1, q2, q3, q4⟩ := c1
  have a1 := b_cv_t (S := fun v => v = e_es (t_of ns) ep cf jn) (fun v h => h)
  have a2 := b_cv_t (S := fun v => v = w_dr (e_es (t_of ns) ep cf jn) 2) (fun v h => h)
  have a3 := b_cv_t (S := fun v => v = w_cfm (e_es (t_of ns) ep cf jn) cf) (fun v h => h)
  have a4 := b_cv_t (S := fun v => v = w_int cf (w_cfm (e_es (t_of ns) ep cf jn) cf)) (fun v h => h)
  have a5 : b_cv (e_clS (t_of ns) l sc (e_h (t_of ns) l sd.toNat)) 12 0 := by
    refine b_cv_le (b_cv_im (S1 := fun v => ∃ j, j < 4 ∧ (v = w_dr (e_ls (t_of ns) l sc (e_h (t_of ns) l sd.toNat) (j + 1)) 5 ∨ v = w_p5 (w_dr (e_ls (t_of ns) l sc (e_h (t_of ns) l sd.toNat) (j + 1)) 5) ∨ v = w_dr (e_ls (t_of ns) l sc (e_h (t_of ns) l sd.toNat) (j + 1)) 4)) (b_cv_lt (F := fun j v => v = w_dr (e_ls (t_of ns) l sc (e_h (t_of ns) l sd.toNat) (j + 1)) 5 ∨ v = w_p5 (w_dr (e_ls (t_of ns) l sc (e_h (t_of ns) l sd.toNat) (j + 1)) 5) ∨ v = w_dr (e_ls (t_of ns) l sc (e_h (t_of ns) l sd.toNat) (j + 1)) 4) (n := 3) (u := 0) 4 (fun j _ => ?_)) (fun v h => ?_)) (by decide) (by decide)
    · have x := b_cv_t (S := fun v => v = w_dr (e_ls (t_of ns) l sc (e_h (t_of ns) l sd.toNat) (j + 1)) 5) (fun v h => h)
      have y := b_cv_t (S := fun v => v = w_p5 (w_dr (e_ls (t_of ns) l sc (e_h (t_of ns) l sd.toNat) (j + 1)) 5)) (fun v h => h)
      have z := b_cv_t (S := fun v => v = w_dr (e_ls (t_of ns) l sc (e_h (t_of ns) l sd.toNat) (j + 1)) 4) (fun v h => h)
      exact b_cv_or x (b_cv_or y z (fun v h => h)) (fun v h => h)
    · obtain ⟨j, j1, j2, _, j3⟩ := h
      have : 1 ≤ e_h (t_of ns) l sd.toNat := e_mt_le _ 1
      refine ⟨j - 1, by omega, ?_⟩
      rw [show j - 1 + 1 = j by omega]
      exact j3
  refine b_cv_le (b_cv_or c0 (b_cv_or a1 (b_cv_or a2 (b_cv_or a3 (b_cv_or a4 a5 (fun v h => h)) (fun v h => h)) (fun v h => h)) (fun v h => h)) (fun v hv => ?_)) (by decide) (by show 0 + (6 + (0 + (1 + (2 + 0)))) ≤ 9; decide)
  rcases red v hv with g | ⟨a', jn', sc', L', ik', f', g0', l', r1, r2, _, r3, r4, r5⟩
  · exact Or.inl g
  · right
    obtain ⟨_, _, ej, es, _⟩ := w_t_inj (q1.symm.trans r1)
    subst ej; subst es
    have ef := w_isP_un q2 r2
    rw [Prod.mk.injEq, Prod.mk.injEq] at ef
    have ef := ef.2.1
    subst ef
    have el := t_fl1_u q3.2.1 q4 r4
    subst el
    exact r5
end
end
