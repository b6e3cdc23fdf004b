/-! ===== the class: the Reader's readPath ===== -/
noncomputable section
section
variable {K : Wt → Prop} {l : List Wt} {so : Nat}
theorem p_many_t : ∀ {n i e : Nat} {r : List Wt} {s : Nat × Nat}, i ≤ e → e ≤ l.length → p_many (p_t K so l) n (some (i, e)) = some (r, s) → r = w_sli l i e ∧ ∀ w ∈ r, w.head? = some so ∧ K w
  | 0, i, e, r, s, hi, he, h => by
    by_cases c : i < e
    · rw [show p_many (p_t K so l) 0 (some (i, e)) = none from if_pos c] at h
      exact absurd h (by simp)
    · rw [p_many_e (by omega)] at h
      have h := (Prod.mk.inj (Option.some.inj h)).1
      rw [← h]
      refine ⟨?_, fun w hw => by simp at hw⟩
      unfold w_sli
      rw [show e - i = 0 by omega, List.take_zero]
  | n + 1, i, e, r, s, hi, he, h => by
    by_cases c : i < e
    · rw [p_many_s c, Option.bind_eq_some_iff] at h
      obtain ⟨⟨a, s1⟩, h1, h⟩ := h
      obtain ⟨b1, b2, b3, b4, b5⟩ := p_t_in h1
      subst b1
      rw [Option.map_eq_some_iff] at h
      obtain ⟨⟨r', s'⟩, h2, h⟩ := h
      have h := (Prod.mk.inj h).1
      have h : a :: r' = r := h
      obtain ⟨i1, i2⟩ := p_many_t (i := i + 1) (e := e) (by omega) he h2
      have g := p_t_sl he h1
      refine ⟨?_, fun w hw => ?_⟩
      · rw [← h, i1, w_sli_app (i := i) (j := i + 1) (k := e) (by omega) (by omega), w_sli_1 g]
        rfl
      · rw [← h, List.mem_cons] at hw
        rcases hw with e' | hw
        · rw [e']; exact ⟨b4, b5⟩
        · exact i2 w hw
    · rw [p_many_e (by omega)] at h
      have h := (Prod.mk.inj (Option.some.inj h)).1
      rw [← h]
      refine ⟨?_, fun w hw => by simp at hw⟩
      unfold w_sli
      rw [show e - i = 0 by omega, List.take_zero]
end
variable {H Z X Y : sw_H} {nn nm r ra g m : Nat} {K K' S : Wt → Prop} {tl mk mm l : List Wt} {a b c x y n cn cs N U M : Int} {Q : sw_H → Prop} {P : Int → sw_H → Prop} {A B : List Nat} {w : Wt} {st : p_S}
/-- the Reader's own cells -/
def c_Re (H : sw_H) : Prop := (sw_rv H 18 12 = 19 ∧ sw_rv H 18 13 = 20 ∧ sw_rv H 18 14 = 21 ∧ sw_rv H 18 15 = 22 ∧ sw_rv H 18 16 = 23) ∧ (∀ i, 19 ≤ i → i ≤ 21 → sw_ty H i = 1 ∧ sw_ln H i = 4) ∧ sw_ty H 22 = 48 ∧ c_ts H 23
theorem c_Re_fr (h : c_Re H) (f : c_fr A H Z) : c_Re Z := by
  obtain ⟨h1, h2, h3, h4⟩ := h
  refine ⟨by simp only [f.2.2.2.2.1]; exact h1, fun i a b => by rw [f.2.2.1, f.2.2.2.1]; exact h2 i a b, by rw [f.2.2.1]; exact h3, c_ts_fr h4 f⟩
theorem c_rs_frN (h : c_rs H mk r ra l) (f : c_fr A H Z) (hA : ∀ a ∈ A, 18 ≤ a ∧ a ≤ 43) (hr : 43 < r ∧ 43 < ra) : c_rs Z mk r ra l := by
  obtain ⟨h1, h2, h3, h4, h5, h6, h7, h8⟩ := h
  have n3 : 3 ∉ A := fun c => by have := hA 3 c; omega
  exact ⟨by rw [f.2.2.1]; exact h1, by rw [f.2.2.2.2.1]; exact h2, by rw [f.2.2.2.2.1]; exact h3, c_sg_fr h4 f (fun c => by have := hA _ c; omega) (fun c => by have := hA _ c; omega) n3, h5, h6, h7, by unfold c_n; rw [f.2.2.2.2.2 3 n3]; exact h8⟩
theorem c_VR (hV : c_V H mk nn K tl cn cs) (f : c_fr A H Z) (hA : ∀ a ∈ A, 18 ≤ a ∧ a ≤ 43) : c_V Z mk nn K tl cn cs := c_V_fr hV f (fun a ha => by have := hA a ha; unfold c_fix; omega)
theorem c_hasMore (h : c_rd H l st) (q1 : ∀ i e, st = some (i, e) → i < e → P 1 H) (q0 : (∀ i e, st = some (i, e) → e ≤ i) → P 0 H) : wm_348 18 H P := by
  unfold wm_348
  intro v1 e1 _
  cases st with
  | none =>
    have := h.2.2.2.2
    exact ⟨fun _ => q0 (fun i e c => absurd c (by simp)), fun c => by omega⟩
  | some s =>
    obtain ⟨i, e⟩ := s
    obtain ⟨h1, h2, h3, h4, h5⟩ := h
    refine ⟨fun c => by omega, fun _ => ?_⟩
    intro v4 e4 _ v7 e7 _
    refine ⟨fun c => q0 (fun i' e' ee => ?_), fun c => q1 i e rfl (by omega)⟩
    have ee := Prod.mk.inj (Option.some.inj ee)
    omega
theorem c_seal_l {k15 : Nat → Int → Int → sw_H → Prop} {x1 x2 x3 x4 x5 : Int} (r43 : 43 < r ∧ 43 < ra) (hml : mk.length ≤ 999999999) : ∀ (n : Nat) (left : Int) {st : p_S} {H : sw_H}, c_V H mk nn K tl cn cs → c_rs H mk r ra l → c_rd H l st → (∀ i e, st = some (i, e) → ((e - i : Nat) : Int) ≤ left) → left.toNat < n → left ≤ 2000 → (∀ G, c_rd G l (p_to (p_many (p_t K 6 l) left.toNat st)) → c_fr [18] H G → c_k5 H G → wb_350_47 Q k15 18 x1 x2 x3 x4 x5 G) → wl_350_36 Q k15 n 18 x1 x2 x3 x4 x5 left H
  | 0, _, _, _, _, _, _, _, h, _, _ => by omega
  | n + 1, left, st, H, hV, hs, h, hle, hn, h2, k => by
    unfold wl_350_36
    have stop : (∀ i e, st = some (i, e) → e ≤ i) → p_to (p_many (p_t K 6 l) left.toNat st) = st := by
      intro hc
      cases st with
      | none => rw [p_many_0]; rfl
      | some s =>
        obtain ⟨i, e⟩ := s
        rw [p_many_e (hc i e rfl)]
        rfl
    refine ⟨fun c => k H ?_ (c_fr_refl _ _) (c_k5_r _), fun c => ?_⟩
    · rw [stop (fun i e ee => by have := hle i e ee; omega)]; exact h
    · refine c_hasMore h (fun i e ee hie _ _ => ⟨fun c2 => absurd c2 (by decide), fun _ => ?_⟩) (fun hc _ _ => ⟨fun _ => k H (by rw [stop hc]; exact h) (c_fr_refl _ _) (c_k5_r _), fun c2 => absurd rfl c2⟩)
      subst ee
      have hle := hle i e rfl
      refine c_termOf (so := 6) (by decide) (by decide) hV hml hs h (fun z G rG vG z0 zl fG kG _ _ => ?_)
      intro y65 e65
      rw [e65, sw_w_s (by omega) (by omega), show left + -1 = left - 1 by omega]
      refine c_seal_l r43 hml n (left - 1) (c_VR hV fG (by simp)) (c_rs_frN hs fG (by simp) r43) rG (fun i' e' ee => ?_) (by omega) (by omega) (fun X rX fX kX => k X ?_ (c_fr_t fG fX) (c_k5_t kG kX))
      · obtain ⟨w, hw⟩ := p_to_some ee
        obtain ⟨b1, _⟩ := p_t_in hw
        have b1 := Prod.mk.inj b1
        omega
      · have en : left.toNat = (left - 1).toNat + 1 := by omega
        rw [en, p_many_to hie]
        exact rX
/-- the nodes of a PATH, as the Reader keeps them -/
def c_pn (H : sw_H) (mk : List Wt) (ns : List p_N) : Prop := sw_iv H 18 11 = ns.length ∧ ∀ (i : Nat) (k : Wt) (s : Nat) (t : List Wt), i < 4 → ns[i]? = some (k, s, t) → w_at mk (sw_iv H 19 i) k ∧ sw_iv H 20 i = s ∧ sw_iv H 21 i = t.length
theorem c_rd_fr {Z : sw_H} (h : c_rd H l st) (e : ∀ f, f = 2 ∨ f = 3 ∨ f = 4 → sw_iv Z 18 f = sw_iv H 18 f) : c_rd Z l st := by
  cases st with
  | none => unfold c_rd at h ⊢; rw [e 2 (by omega), e 3 (by omega), e 4 (by omega)]; exact h
  | some s =>
    obtain ⟨i, e'⟩ := s
    unfold c_rd at h ⊢; rw [e 2 (by omega), e 3 (by omega), e 4 (by omega)]; exact h
/-- a ROW is left -/
theorem c_close {A' : Type} {f : p_S → Option (A' × Nat × Nat)} {S : p_S} {E : Int} {P0 : p_S} (hf : p_in f) (h : c_rd H l (p_to (f (p_o l S)))) (hS : c_rd Z l S) (hE : E = sw_iv Z 18 3) (eP : p_to (p_row f l S) = P0) (q : ∀ G, c_rd G l P0 → c_fr [18] H G → c_k5 H G → Q G) : wm_349 18 E H Q := by
  obtain ⟨b1, b2, b3, b4⟩ := c_rd_b hS
  obtain ⟨e0, ee0⟩ : ∃ e0 : Nat, sw_iv Z 18 3 = e0 := ⟨(sw_iv Z 18 3).toNat, by omega⟩
  obtain ⟨st1, st2⟩ := p_row_st (l := l) hf S
  refine c_closeRow (e := e0) h (by omega) (fun i f' hif => ?_) (by omega) (fun G rG fG kG => q G ?_ fG kG)
  · cases S with
    | none =>
      have : p_to (f (p_o l none)) = none := by
        show p_to (f none) = none
        rw [hf.1]; rfl
      rw [this] at hif
      exact absurd hif (by simp)
    | some s =>
      obtain ⟨i0, e1⟩ := s
      have he1 : sw_iv Z 18 3 = e1 := hS.2.1
      obtain ⟨x, hx⟩ := p_to_some hif
      obtain ⟨o, eo⟩ : ∃ o, p_o l (some (i0, e1)) = o := ⟨_, rfl⟩
      rw [eo] at hx
      cases o with
      | none => rw [hf.1] at hx; exact absurd hx (by simp)
      | some s2 =>
        obtain ⟨i2, en⟩ := s2
        have le1 := p_o_le eo
        have : i2 ≤ en := by
          unfold p_o at eo
          rw [Option.map_eq_some_iff] at eo
          obtain ⟨⟨en', i1, e1'⟩, hr, eo⟩ := eo
          obtain ⟨_, _, _, r4, _⟩ := p_r_ix hr
          simp only [Prod.mk.injEq] at eo
          omega
        obtain ⟨_, _, c3⟩ := hf.2 _ _ _ _ this hx
        have c3 : f' = en := c3
        omega
  · rw [← eP]
    cases S with
    | none =>
      rw [st2 rfl]
      have : p_c e0 (p_to (f (p_o l none))) = none := by
        show p_c e0 (p_to (f none)) = none
        rw [hf.1]; rfl
      rw [this] at rG
      exact rG
    | some s =>
      obtain ⟨i0, e1⟩ := s
      have he1 : sw_iv Z 18 3 = e1 := hS.2.1
      have : e0 = e1 := by omega
      rw [st1 i0 e1 rfl]
      rw [this] at rG
      exact rG
end
