/-! ===== the class: parts of a term; carrySecrets ===== -/
noncomputable section
variable {H G Z X Y : sw_H} {mk mm tl l0 l1 : List Wt} {nn nm r k o h l y g g1 g2 n m : Nat} {K S : Wt → Prop} {cn cs msk N U M z x : Int} {T T2 T0 : w_T} {Q : sw_H → Prop} {P : Int → sw_H → Prop} {A : List Nat} {w s : Wt} {G' : w_G} {Ul : List (Wt × Wt)}
theorem c_parts {st : Nat} {a b c : Wt} {l : List Wt} (hL : c_L H mk nn K tl) (hx : w_at mk x (w_t st a b c l)) (h3 : st ≠ 3) : w_az mk (c_d H x.toNat 1) a ∧ w_az mk (c_d H x.toNat 2) b ∧ w_az mk (c_d H x.toNat 3) c := by
  obtain ⟨t1, t2, rw', eg⟩ := c_L_rw hL hx
  obtain ⟨va, f0, f1, f2, hsn, hd, hn⟩ := rw'
  have e4 := hL.2.1
  obtain ⟨v0, v1, v2, v3, v4, v5, v6, v7, v8, v9, _⟩ := va
  have ex : ((x.toNat : Nat) : Int) = x := by omega
  rw [ex] at v3 v5 v8
  by_cases c8 : c_d H x.toNat 0 = 0
  · rcases hn c8 with ⟨_, hi⟩ | ⟨_, i, _, hi⟩
    · rw [eg] at hi
      obtain ⟨_, hi⟩ := w_mk_inj hi
      simp only [List.cons.injEq] at hi
      obtain ⟨i1, i2, i3, _⟩ := hi
      obtain ⟨e1, e2, e3⟩ := v9 (Or.inl c8)
      exact ⟨Or.inl ⟨e1, i1⟩, Or.inl ⟨e2, i2⟩, Or.inl ⟨e3, i3⟩⟩
    · rw [eg] at hi
      obtain ⟨_, hi⟩ := w_mk_inj hi
      simp at hi
  · have hd := (hd c8).1
    rw [eg] at hd
    obtain ⟨es, hd⟩ := w_mk_inj hd
    simp only [List.cons.injEq] at hd
    obtain ⟨h1, h2, h3', _⟩ := hd
    have s3 : c_d H x.toNat 0 ≠ 3 := fun cc => by
      rw [cc] at es
      exact h3 es
    rw [if_neg s3] at h2
    have w8 := v8 s3
    refine ⟨?_, ?_, ?_⟩
    · rw [h1]; exact w_az_of v2 (by omega)
    · rw [h2]; exact w_az_of v6 (by omega)
    · rw [h3']; exact w_az_of v4 (by omega)
/-- a secret that is carried, as a number -/
def c_cv (H : sw_H) (g1 g2 x : Nat) : Int := if sw_iv H (g2 + 2) x ≠ 0 ∧ sw_iv H (g2 + 2) x = sw_iv H (g1 + 2) x then sw_iv H (g1 + 22) x else 0
/-- the shape of both groups and of the member -/
def c_cg (H : sw_H) (m g1 g2 : Nat) : Prop := c_gs H g1 ∧ c_gs H g2 ∧ sw_rv H (120 + 54 * m) 4 = g1 ∧ (g1 + 22 < g2 ∨ g2 + 22 < g1) ∧ sw_rv H (120 + 54 * m) 10 = 120 + 54 * m + 49 ∧ sw_ty H (120 + 54 * m + 49) = 1 ∧ sw_ln H (120 + 54 * m + 49) = 20 ∧ (120 + 54 * m + 49 < g2 ∨ g2 + 22 < 120 + 54 * m + 49) ∧ (120 + 54 * m < g2 ∨ g2 + 22 < 120 + 54 * m)
theorem c_cg_fr (h : c_cg H m g1 g2) (f : c_fr A H G) : c_cg G m g1 g2 := by
  obtain ⟨h1, h2, h3, h4, h5, h6, h7, h8, h9⟩ := h
  exact ⟨c_gs_fr h1 f, c_gs_fr h2 f, by rw [f.2.2.2.2.1]; exact h3, h4, by rw [f.2.2.2.2.1]; exact h5, by rw [f.2.2.1]; exact h6, by rw [f.2.2.2.1]; exact h7, h8, h9⟩
theorem c_cs_2 (hg : c_cg H m g1 g2) (q : ∀ G, c_fr [g2 + 22] H G → (∀ x, x < 31 → sw_iv G (g2 + 22) x = c_cv H g1 g2 x) → ∀ v75, v75 = sw_iv G g2 3 → sw_c v75 → ∀ y78, y78 = sw_w (2 * v75) → ∃ n49, wl_184_49 Q n49 (120 + 54 * m) g2 3 y78 0 G) : ∀ (n k : Nat) {G : sw_H}, c_fr [g2 + 22] H G → (∀ x, x < k → sw_iv G (g2 + 22) x = c_cv H g1 g2 x) → k ≤ 31 → 31 - k < n → wl_184_2 Q n (120 + 54 * m) g2 3 k G
  | 0, _, _, _, _, _, h => by omega
  | n + 1, k, G, f, e, hk, hn => by
    obtain ⟨s1, s2, r4, hd, r10, t49, n49, d49, dm⟩ := c_cg_fr hg f
    obtain ⟨a1, a2, a3, a4, a5, a6, a7, a8⟩ := s1
    obtain ⟨b1, b2, b3, b4, b5, b6, b7, b8⟩ := s2
    have ka := a8.2.2.2.2.2.2.2.1 1 (by decide) (by decide)
    have kb := b8.2.2.2.2.2.2.2.1 1 (by decide) (by decide)
    have i1 : sw_iv G (g1 + 2) = sw_iv H (g1 + 2) := f.2.2.2.2.2 _ (by simp; omega)
    have i2 : sw_iv G (g2 + 2) = sw_iv H (g2 + 2) := f.2.2.2.2.2 _ (by simp)
    have i3 : sw_iv G (g1 + 22) = sw_iv H (g1 + 22) := f.2.2.2.2.2 _ (by simp; omega)
    unfold wl_184_2
    refine ⟨fun c => q G f (fun x hx => e x (by omega)), fun c => ?_⟩
    have stp : ∀ z : Int, z = c_cv H g1 g2 k → wb_184_39 Q (wl_184_2 Q n) (120 + 54 * m) g2 3 k z k (g2 + 22) G := fun z ez => by
      unfold wb_184_39
      refine ⟨by omega, by rw [b7]; omega, ?_⟩
      intro Z eZ
      rw [Int.toNat_natCast] at eZ
      have fZ : c_fr [g2 + 22] G Z := by rw [eZ]; exact c_fr_si _ _ _ _
      intro y55 e55
      rw [sw_s1 (by omega)] at e55
      subst e55
      refine c_cs_2 hg q n (k + 1) (c_fr_t f fZ) (fun x hx => ?_) (by omega) (by omega)
      rw [eZ]
      by_cases cx : x = k
      · rw [cx, c_si_eq, ez]
      · rw [c_si_f cx]; exact e x (by omega)
    have s0 : c_cv H g1 g2 k = 0 → wb_184_26 Q (wl_184_2 Q n) (120 + 54 * m) g2 3 k 0 G := fun ec => by
      unfold wb_184_26
      rw [b5]
      refine ⟨b6, ?_⟩
      intro q62 e62
      rw [e62]
      exact ⟨fun _ => stp 0 ec.symm, fun cc => absurd rfl cc⟩
    have s1' : c_cv H g1 g2 k = sw_iv H (g1 + 22) k → wb_184_26 Q (wl_184_2 Q n) (120 + 54 * m) g2 3 k 1 G := fun ec => by
      unfold wb_184_26
      rw [b5]
      refine ⟨b6, ?_⟩
      intro q62 e62
      rw [e62]
      refine ⟨fun cc => absurd cc (by decide), fun _ => ?_⟩
      rw [r4]
      refine ⟨a3, ?_⟩
      intro q65 e65
      rw [e65, a5]
      refine ⟨a6, ?_⟩
      intro q68 e68
      rw [e68]
      refine ⟨by omega, by rw [a7]; omega, ?_⟩
      intro v71 e71 _
      rw [Int.toNat_natCast, i3] at e71
      exact stp v71 (by rw [e71, ec])
    rw [b4]
    refine ⟨b8.2.2.1, ?_⟩
    intro q85 e85
    rw [e85, b8.2.2.2.1]
    refine ⟨kb.1, ?_⟩
    intro q88 e88
    rw [e88]
    refine ⟨by omega, by rw [kb.2]; omega, ?_⟩
    intro v91 e91 _
    rw [Int.toNat_natCast] at e91
    have e91 : v91 = sw_iv H (g2 + 2) k := by rw [e91]; show sw_iv G (g2 + 2) k = _; rw [i2]
    refine ⟨fun c2 => s0 (by unfold c_cv; rw [if_neg (fun cc => cc.1 (by rw [← e91]; exact c2))]), fun c2 => ⟨b8.2.2.1, ?_⟩⟩
    intro q94 e94
    rw [e94, b8.2.2.2.1]
    refine ⟨kb.1, ?_⟩
    intro q97 e97
    rw [e97]
    refine ⟨by omega, by rw [kb.2]; omega, ?_⟩
    intro v100 e100 _
    rw [Int.toNat_natCast] at e100
    have e100 : v100 = sw_iv H (g2 + 2) k := by rw [e100]; show sw_iv G (g2 + 2) k = _; rw [i2]
    rw [r4]
    refine ⟨a3, ?_⟩
    intro q103 e103
    rw [e103, a4]
    refine ⟨a8.2.2.1, ?_⟩
    intro q106 e106
    rw [e106, a8.2.2.2.1]
    refine ⟨ka.1, ?_⟩
    intro q109 e109
    rw [e109]
    refine ⟨by omega, by rw [ka.2]; omega, ?_⟩
    intro v112 e112 _
    rw [Int.toNat_natCast] at e112
    have e112 : v112 = sw_iv H (g1 + 2) k := by rw [e112]; show sw_iv G (g1 + 2) k = _; rw [i1]
    refine ⟨fun c3 => s0 (by unfold c_cv; rw [if_neg (fun cc => c3 (by rw [e100, e112]; exact cc.2))]), fun c3 => s1' (by unfold c_cv; rw [if_pos ⟨fun cc => c2 (by rw [e91]; exact cc), by rw [← e100, ← e112]; exact c3⟩])⟩
/-- the own leaf's secret out of the UPDATEs -/
theorem c_cs_49 (hg : c_cg H m g1 g2) (hV : c_V H mk nn K tl cn cs) (ht : c_tr H mk (g2 + 1) T) (hl : l < 2 ^ t_dp T) (hk : t_ky T (2 * l) = w_p5 s) (hs : s ≠ []) (hU : c_up H mk m Ul)
    (q : ∀ G, c_fr [g2 + 22] H G → (∀ x, x < 31 → x ≠ 2 * l → sw_iv G (g2 + 22) x = c_cv H g1 g2 x) → ((sw_iv G (g2 + 22) (2 * l) = c_cv H g1 g2 (2 * l) ∧ ∀ u ∈ Ul, u.2 ≠ s) ∨ (w_at mk (sw_iv G (g2 + 22) (2 * l)) s ∧ ∃ u ∈ Ul, u.2 = s)) → Q G) :
    ∀ (n k : Nat) {G : sw_H}, c_fr [g2 + 22] H G → (∀ x, x < 31 → x ≠ 2 * l → sw_iv G (g2 + 22) x = c_cv H g1 g2 x) → ((sw_iv G (g2 + 22) (2 * l) = c_cv H g1 g2 (2 * l) ∧ ∀ u ∈ Ul.take k, u.2 ≠ s) ∨ (w_at mk (sw_iv G (g2 + 22) (2 * l)) s ∧ ∃ u ∈ Ul.take k, u.2 = s)) → k ≤ Ul.length → Ul.length - k < n → wl_184_49 Q n (120 + 54 * m) g2 3 ((2 * l : Nat) : Int) k G
  | 0, _, _, _, _, _, _, h => by omega
  | n + 1, k, G, f, e, eo, hk2, hn => by
    have hg' := c_cg_fr hg f
    obtain ⟨s1, s2, r4, hd, r10, t49, n49, d49, dm⟩ := hg'
    obtain ⟨b1, b2, b3, b4, b5, b6, b7, b8⟩ := s2
    have kb := b8.2.2.2.2.2.2.2.1 1 (by decide) (by decide)
    obtain ⟨u1, u2, u3⟩ := hU
    have h4 := ht.2.1.1
    have d16 := t_d_16 h4
    have w2 : 2 * l < t_w T := by rw [t_w_e]; omega
    have fxg : ∀ a ∈ [g2 + 22], c_fix a := fun a ha => by simp at ha; unfold c_fix; omega
    have VG := c_V_fr hV f fxg
    have i2 : sw_iv G (g2 + 2) = sw_iv H (g2 + 2) := f.2.2.2.2.2 _ (by simp)
    have im : sw_iv G (120 + 54 * m) = sw_iv H (120 + 54 * m) := f.2.2.2.2.2 _ (by simp; omega)
    have i49 : sw_iv G (120 + 54 * m + 49) = sw_iv H (120 + 54 * m + 49) := f.2.2.2.2.2 _ (by simp; omega)
    have ky : w_at mk (sw_iv H (g2 + 2) (2 * l)) (w_p5 s) := by rw [← hk]; exact w_az_ne (ht.2.2.2.1 (2 * l) w2).1 (by rw [hk]; exact List.cons_ne_nil _ _)
    have kle := w_at_le ky
    have nG := VG.1.2.1
    have fo := w_az_ne (c_parts VG.1 ky (by decide)).1 hs
    have sh := c_V_sh VG
    have nd := c_L_nd VG.1
    unfold wl_184_49
    intro v5 e5 _
    rw [im, u1] at e5
    subst e5
    refine ⟨fun c => ?_, fun c => ?_⟩
    · have ek : k = Ul.length := by omega
      rw [ek, List.take_length] at eo
      exact q G f e eo
    · obtain ⟨⟨hh, v⟩, hv⟩ : ∃ u, Ul[k]? = some u := ⟨_, List.getElem?_eq_getElem (by omega)⟩
      have vat := u3 k hh v hv
      have ts : Ul.take (k + 1) = Ul.take k ++ [(hh, v)] := by rw [List.take_add_one, hv]; rfl
      have stp : ∀ {Z : sw_H}, c_fr [g2 + 22] G Z → (∀ x, x < 31 → x ≠ 2 * l → sw_iv Z (g2 + 22) x = c_cv H g1 g2 x) → ((sw_iv Z (g2 + 22) (2 * l) = c_cv H g1 g2 (2 * l) ∧ ∀ u ∈ Ul.take (k + 1), u.2 ≠ s) ∨ (w_at mk (sw_iv Z (g2 + 22) (2 * l)) s ∧ ∃ u ∈ Ul.take (k + 1), u.2 = s)) → wb_184_79 Q (wl_184_49 Q n) (120 + 54 * m) g2 3 ((2 * l : Nat) : Int) k Z := fun {Z} fZ eZ oZ => by
        unfold wb_184_79
        intro y1 ey
        rw [sw_s1 (by omega)] at ey
        subst ey
        exact c_cs_49 hg hV ht hl hk hs ⟨u1, u2, u3⟩ q n (k + 1) (c_fr_t f fZ) eZ oZ (by omega) (by omega)
      rw [b4]
      refine ⟨b8.2.2.1, ?_⟩
      intro q8 e8
      rw [e8, b8.2.2.2.1]
      refine ⟨kb.1, ?_⟩
      intro q11 e11
      rw [e11]
      refine ⟨by omega, by rw [kb.2]; omega, ?_⟩
      intro v14 e14 _
      rw [Int.toNat_natCast] at e14
      have e14 : v14 = sw_iv H (g2 + 2) (2 * l) := by rw [e14]; show sw_iv G (g2 + 2) (2 * l) = _; rw [i2]
      refine ⟨fun c2 => absurd c2 (by omega), fun _ => ⟨b8.2.2.1, ?_⟩⟩
      intro q17 e17
      rw [e17, b8.2.2.2.1]
      refine ⟨kb.1, ?_⟩
      intro q20 e20
      rw [e20]
      refine ⟨by omega, by rw [kb.2]; omega, ?_⟩
      intro v23 e23 _
      rw [Int.toNat_natCast] at e23
      have e23 : v23 = sw_iv H (g2 + 2) (2 * l) := by rw [e23]; show sw_iv G (g2 + 2) (2 * l) = _; rw [i2]
      have e23' : v23 = ((v23.toNat : Nat) : Int) := by omega
      rw [e23']
      refine c_firstOf sh (by omega) ?_
      rw [← e23] at fo
      intro _ _
      rw [r10]
      refine ⟨t49, ?_⟩
      intro q31 e31
      rw [e31]
      refine ⟨by omega, by rw [n49]; omega, ?_⟩
      intro v34 e34 _
      rw [Int.toNat_natCast, i49] at e34
      have vle := w_at_le vat
      refine ⟨fun c3 => ?_, fun c3 => ?_⟩
      · have ne : v ≠ s := fun ee => c3 (by rw [e34]; rw [ee] at vat; exact w_at_inj nd fo vat)
        refine stp (c_fr_refl _ _) e ?_
        rw [ts]
        rcases eo with ⟨x1, x2⟩ | ⟨x1, x2⟩
        · refine Or.inl ⟨x1, fun u hu => ?_⟩
          rcases List.mem_append.mp hu with h | h
          · exact x2 u h
          · rw [List.mem_singleton] at h; rw [h]; exact ne
        · obtain ⟨u, hu, eu⟩ := x2
          exact Or.inr ⟨x1, u, List.mem_append.mpr (Or.inl hu), eu⟩
      · have ev : v = s := by
          rw [e34] at c3
          rw [c3] at fo
          have a := w_at_d fo
          have b := w_at_d vat
          rw [← b, a]
        rw [b5]
        refine ⟨b6, ?_⟩
        intro q37 e37
        refine ⟨t49, ?_⟩
        intro q40 e40
        rw [e40]
        refine ⟨by omega, by rw [n49]; omega, ?_⟩
        intro v43 e43 _
        rw [Int.toNat_natCast, i49] at e43
        rw [e37]
        refine ⟨by omega, by rw [b7]; omega, ?_⟩
        intro Z eZ
        rw [Int.toNat_natCast] at eZ
        have fZ : c_fr [g2 + 22] G Z := by rw [eZ]; exact c_fr_si _ _ _ _
        refine stp fZ (fun x hx hx2 => ?_) (Or.inr ⟨?_, (hh, v), ?_, ev⟩)
        · rw [eZ, c_si_f hx2]; exact e x hx hx2
        · rw [eZ, c_si_eq, e43, ← ev]; exact vat
        · rw [ts]; exact List.mem_append.mpr (Or.inr (List.mem_singleton.mpr rfl))
end
