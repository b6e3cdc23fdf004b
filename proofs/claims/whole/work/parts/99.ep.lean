/-! ===== the class: Changes; isTakenIn ===== -/
noncomputable section
variable {H G Z X : sw_H} {mk mm tl l : List Wt} {ms : List (List Wt)} {nn r ra k o h x y i e mi g : Nat} {K K' : Wt → Prop} {cn cs : Int} {T T' : w_T} {f : p_L} {Q : sw_H → Prop} {P : Int → sw_H → Prop} {A B : List Nat} {b z src pl : Int} {s : Nat × Nat} {L : List w_Ch} {v : p_C} {hs : Wt}
/-- the Changes lie at 44 -/
def c_Ch (H : sw_H) : Prop := sw_rv H 44 0 = 11 ∧ sw_rv H 44 3 = 45 ∧ sw_rv H 44 4 = 46 ∧ sw_rv H 44 5 = 47 ∧ sw_rv H 44 6 = 48 ∧ sw_rv H 44 7 = 49 ∧ sw_rv H 44 8 = 50 ∧ sw_rv H 44 9 = 51 ∧ sw_rv H 44 12 = 52 ∧ (∀ a, a = 45 ∨ a = 46 ∨ a = 48 ∨ a = 49 ∨ a = 50 → sw_ty H a = 1 ∧ sw_ln H a = 32) ∧ (sw_ty H 47 = 81 ∧ sw_ln H 47 = 32) ∧ (sw_ty H 51 = 49 ∧ sw_ln H 51 = 32) ∧ (sw_ty H 52 = 1 ∧ sw_ln H 52 = 16) ∧ ∀ k, k < 32 → sw_rv H 51 k = 53 + k ∧ sw_ty H (53 + k) = 48
/-- what the list is of, but not how many it has -/
def c_le (H : sw_H) (mk : List Wt) (K : Wt → Prop) (ms : List (List Wt)) (k : Nat) (c : w_Ch) : Prop := sw_iv H 45 k = c.1.1 ∧ sw_iv H 46 k = c.2.1 ∧ sw_iv H 49 k = h_go c ∧ p_cok c.1 ∧ (0 ≤ c.2.1 ∧ c.2.1 < 65536) ∧ (c.1.1 ≠ 3 → c_Lf H mk (53 + k) (h_lf c)) ∧ ∃ (mi : Nat) (l : List Wt) (i e : Nat) (s : Nat × Nat), ms[mi]? = some l ∧ sw_rv H 47 k = sw_rv H 1416 mi ∧ sw_iv H 48 k = i ∧ e ≤ l.length ∧ p_ct K l (some (i, e)) = some (c.1, s) ∧ (c.2.2 ≠ [] → c.2.2 = w_t 1 [] [] [] l)
def c_ci (H : sw_H) (mk : List Wt) (K : Wt → Prop) (ms : List (List Wt)) (L : List w_Ch) : Prop := c_Ch H ∧ sw_iv H 44 1 = L.length ∧ L.length ≤ 32 ∧ ∀ k c, L[k]? = some c → c_le H mk K ms k c
/-- right by itself -/
def h_own (T : w_T) (c : w_Ch) : Prop := (c.1.1 = 1 → w_pks c.1.2.1 ∧ (h_lf c).2.1 ≠ c.1.2.1.1) ∧ (c.1.1 ≠ 1 → h_hl T (h_go c)) ∧ (c.1.1 = 2 → (h_lf c).1 = t_ow T (h_go c).toNat ∧ w_lfs (h_lf c) (h_go c))
theorem c_Ch_fa (h : c_Ch H) (f : c_fa A H Z) (fl : c_full H) (hA : 44 ∉ A ∧ 51 ∉ A) : c_Ch Z := by
  have ty : ∀ a, 10 < a → a ≤ 1491 → sw_ty Z a = sw_ty H a ∧ sw_ln Z a = sw_ln H a := fun a h1 h2 => ⟨f.2.2.2 a, (f.1.1.2 a (by rw [ne_eq]; exact fl a (by omega) (by omega))).2⟩
  have rv : ∀ a k, a ∉ A → 10 < a → a ≤ 1491 → sw_rv Z a k = sw_rv H a k := fun a k ha h1 h2 => (f.1.2 a (fl a (by omega) (by omega)) ha).2 k
  obtain ⟨h1, h2, h3, h4, h5, h6, h7, h8, h9, h10, h11, h12, h13, h14⟩ := h
  refine ⟨?_, ?_, ?_, ?_, ?_, ?_, ?_, ?_, ?_, fun a ha => ?_, ?_, ?_, ?_, fun k hk => ?_⟩
  · rw [rv 44 _ hA.1 (by omega) (by omega)]; exact h1
  · rw [rv 44 _ hA.1 (by omega) (by omega)]; exact h2
  · rw [rv 44 _ hA.1 (by omega) (by omega)]; exact h3
  · rw [rv 44 _ hA.1 (by omega) (by omega)]; exact h4
  · rw [rv 44 _ hA.1 (by omega) (by omega)]; exact h5
  · rw [rv 44 _ hA.1 (by omega) (by omega)]; exact h6
  · rw [rv 44 _ hA.1 (by omega) (by omega)]; exact h7
  · rw [rv 44 _ hA.1 (by omega) (by omega)]; exact h8
  · rw [rv 44 _ hA.1 (by omega) (by omega)]; exact h9
  · rw [(ty a (by omega) (by omega)).1, (ty a (by omega) (by omega)).2]; exact h10 a ha
  · rw [(ty 47 (by omega) (by omega)).1, (ty 47 (by omega) (by omega)).2]; exact h11
  · rw [(ty 51 (by omega) (by omega)).1, (ty 51 (by omega) (by omega)).2]; exact h12
  · rw [(ty 52 (by omega) (by omega)).1, (ty 52 (by omega) (by omega)).2]; exact h13
  · rw [rv 51 _ hA.2 (by omega) (by omega), (ty (53 + k) (by omega) (by omega)).1]; exact h14 k hk
theorem c_Ch_fr (h : c_Ch H) (f : c_fr A H Z) : c_Ch Z := by
  unfold c_Ch at h ⊢
  obtain ⟨_, _, t, n, v, _⟩ := f
  refine ⟨by rw [v]; exact h.1, by rw [v]; exact h.2.1, by rw [v]; exact h.2.2.1, by rw [v]; exact h.2.2.2.1, by rw [v]; exact h.2.2.2.2.1, by rw [v]; exact h.2.2.2.2.2.1, by rw [v]; exact h.2.2.2.2.2.2.1, by rw [v]; exact h.2.2.2.2.2.2.2.1, by rw [v]; exact h.2.2.2.2.2.2.2.2.1, fun a ha => by rw [t, n]; exact h.2.2.2.2.2.2.2.2.2.1 a ha, by rw [t, n]; exact h.2.2.2.2.2.2.2.2.2.2.1, by rw [t, n]; exact h.2.2.2.2.2.2.2.2.2.2.2.1, by rw [t, n]; exact h.2.2.2.2.2.2.2.2.2.2.2.2.1, fun k hk => by rw [v, t]; exact h.2.2.2.2.2.2.2.2.2.2.2.2.2 k hk⟩
/-- the entry stays where cells that are not its own change -/
theorem c_le_eq {c : w_Ch} (h : c_le H mk K ms k c) (e1 : ∀ a, a = 45 ∨ a = 46 ∨ a = 48 ∨ a = 49 → sw_iv G a k = sw_iv H a k) (e2 : sw_iv G (53 + k) = sw_iv H (53 + k)) (e3 : sw_rv G 47 k = sw_rv H 47 k) (e4 : ∀ j, sw_rv G 1416 j = sw_rv H 1416 j) : c_le G mk K ms k c := by
  obtain ⟨h1, h2, h3, h4, h5, h6, mi, l, i, e, s, g1, g2, g3, g4⟩ := h
  refine ⟨by rw [e1 45 (by omega)]; exact h1, by rw [e1 46 (by omega)]; exact h2, by rw [e1 49 (by omega)]; exact h3, h4, h5, fun c3 => ?_, mi, l, i, e, s, g1, by rw [e3, e4]; exact g2, by rw [e1 48 (by omega)]; exact g3, g4⟩
  obtain ⟨a1, a2⟩ := h6 c3
  refine ⟨?_, by rw [e2]; exact a2⟩
  unfold c_lf at a1 ⊢
  rw [e2]
  exact a1
theorem c_ci_fr (h : c_ci H mk K ms L) (f : c_fr A H Z) (hA : ∀ a ∈ A, a < 44 ∨ 84 < a ∨ a = 50 ∨ a = 52) : c_ci Z mk K ms L := by
  obtain ⟨h1, h2, h3, h4⟩ := h
  have na : ∀ a, 44 ≤ a → a ≤ 84 → a ≠ 50 → a ≠ 52 → sw_iv Z a = sw_iv H a := fun a q1 q2 q3 q4 => f.2.2.2.2.2 a (fun c => by have := hA a c; omega)
  refine ⟨c_Ch_fr h1 f, by rw [na 44 (by omega) (by omega) (by omega) (by omega)]; exact h2, h3, fun k c hc => ?_⟩
  have hk := h_lt hc
  exact c_le_eq (h4 k c hc) (fun a ha => by rw [na a (by omega) (by omega) (by omega) (by omega)]) (na _ (by omega) (by omega) (by omega) (by omega)) (f.2.2.2.2.1 _ _) (fun j => f.2.2.2.2.1 _ _)
/-- what taking in touches -/
def c_Ac : List Nat := [14, 15, 44, 45, 46, 47, 48, 49] ++ (List.range 32).map (fun i => 53 + i)
theorem c_Ac_m {a : Nat} : a ∈ c_Ac ↔ a = 14 ∨ a = 15 ∨ (44 ≤ a ∧ a ≤ 49) ∨ (53 ≤ a ∧ a ≤ 84) := by
  unfold c_Ac
  rw [List.mem_append, List.mem_map]
  constructor
  · rintro (h | ⟨i, hi, rfl⟩)
    · simp at h; omega
    · have := List.mem_range.mp hi; omega
  · intro h
    by_cases c : 53 ≤ a ∧ a ≤ 84
    · exact Or.inr ⟨a - 53, List.mem_range.mpr (by omega), by omega⟩
    · refine Or.inl ?_
      simp; omega
theorem c_sr_ne {a f q b' g' : Nat} (h : b' ≠ a) : sw_rv (sw_sr H a f q) b' g' = sw_rv H b' g' := if_neg (fun e => h e.1)
theorem c_fa_si (H : sw_H) (q f : Nat) (z : Int) : c_fa [q] H (sw_si H q f z) := c_fa_fr (c_fr_si H q f z)
theorem c_fa_sr (H : sw_H) (q f a : Nat) : c_fa [q] H (sw_sr H q f a) := by
  refine ⟨⟨⟨Nat.le_refl _, fun a _ => ⟨rfl, rfl⟩⟩, fun a _ hn => ⟨fun f => rfl, fun f' => ?_⟩⟩, rfl, rfl, fun _ => rfl⟩
  exact c_sr_ne (by simpa using hn)
/-- the last step: it is taken in -/
theorem c_ti_93 (hci : c_ci H mk K ms L) (hV : c_W H mk nn K' tl cn cs) (hl : L.length < 32) (hms : ms[mi]? = some l) (h16 : sw_rv H 1416 mi = r) (he : e ≤ l.length) (hp : p_ct K l (some (i, e)) = some (v, s)) (hpl : 0 ≤ pl ∧ pl < 65536) (hh : hs ≠ [] → hs = w_t 1 [] [] [] l) (hok : p_cok v) (h49 : sw_iv H 49 L.length = h_go (v, pl, hs)) (hlf : v.1 ≠ 3 → c_Lf H mk (53 + L.length) (h_lf (v, pl, hs))) (q : ∀ G, c_ci G mk K ms (L ++ [(v, pl, hs)]) → c_W G mk nn K' tl cn cs → c_fa c_Ac H G → P 1 G) : wb_279_93 P 44 r i pl v.1 1 H := by
  obtain ⟨hc, hsz, h32, hall⟩ := hci
  have ll := hpl
  obtain ⟨c0, c3, c4, c5, c6, c7, c8, c9, c12, ct, c47, c51, c52, clf⟩ := id hc
  unfold wb_279_93
  refine ⟨fun c => by omega, fun _ => ?_⟩
  rw [c3]
  refine ⟨(ct 45 (by omega)).1, ?_⟩
  intro q1 e1 v4 e4 _
  rw [hsz] at e4
  rw [e1, e4]
  refine ⟨by omega, by rw [(ct 45 (by omega)).2]; omega, ?_⟩
  intro H7 e7
  rw [Int.toNat_natCast] at e7
  have f7 := c_fr_si H 45 L.length v.1
  rw [← e7] at f7
  rw [f7.2.2.2.2.1, c4, f7.2.2.1, f7.2.2.2.2.2 44 (by simp), hsz]
  refine ⟨(ct 46 (by omega)).1, ?_⟩
  intro q10 e10 v13 e13 _
  rw [e10, e13]
  refine ⟨by omega, by rw [f7.2.2.2.1, (ct 46 (by omega)).2]; omega, ?_⟩
  intro H16 e16
  rw [Int.toNat_natCast] at e16
  have f16 := c_fr_si H7 46 L.length pl
  rw [← e16] at f16
  have g16 := c_fr_trans f7 f16
  rw [g16.2.2.2.2.1, c5, g16.2.2.1, g16.2.2.2.2.2 44 (by simp), hsz]
  refine ⟨c47.1, ?_⟩
  intro q19 e19 v22 e22 _
  rw [e19, e22]
  refine ⟨by omega, by rw [g16.2.2.2.1, c47.2]; omega, ?_⟩
  intro H25 e25
  rw [Int.toNat_natCast] at e25
  have tyA : ∀ a, sw_ty H25 a = sw_ty H a := fun a => by rw [e25]; exact g16.2.2.1 a
  have lnA : ∀ a, sw_ln H25 a = sw_ln H a := fun a => by rw [e25]; exact g16.2.2.2.1 a
  have ivA : ∀ a, a ≠ 45 → a ≠ 46 → sw_iv H25 a = sw_iv H a := fun a a1 a2 => by
    rw [e25]; exact g16.2.2.2.2.2 a (by simp; omega)
  have rvA : ∀ a f, a ≠ 47 → sw_rv H25 a f = sw_rv H a f := fun a f ha => by
    rw [e25, c_sr_ne ha]; exact g16.2.2.2.2.1 a f
  rw [rvA 44 6 (by omega), c6, tyA, ivA 44 (by omega) (by omega), hsz]
  refine ⟨(ct 48 (by omega)).1, ?_⟩
  intro q28 e28 v31 e31 _
  rw [e28, e31]
  refine ⟨by omega, by rw [lnA, (ct 48 (by omega)).2]; omega, ?_⟩
  intro H34 e34
  rw [Int.toNat_natCast] at e34
  have f34 := c_fr_si H25 48 L.length (i : Int)
  rw [← e34] at f34
  intro v37 e37 _ H40 e40
  rw [f34.2.2.2.2.2 44 (by simp), ivA 44 (by omega) (by omega), hsz] at e37
  rw [e37, sw_s1 (by omega)] at e40
  have f40 := c_fr_si H34 44 1 ((L.length + 1 : Nat) : Int)
  rw [← e40] at f40
  have fa5 : c_fa [44, 45, 46, 47, 48] H H40 := by
    refine c_fa_t (c_fa_sub (c_fa_fr g16) (fun a ha => ?_)) (c_fa_t (c_fa_sub (B := [44, 45, 46, 47, 48]) (by rw [e25]; exact c_fa_sr _ _ _ _) (fun a ha => ?_)) (c_fa_sub (c_fa_fr (c_fr_trans f34 f40)) (fun a ha => ?_)))
    · simp at ha ⊢; omega
    · simp at ha ⊢; omega
    · simp at ha ⊢; omega
  have fa : c_fa c_Ac H H40 := c_fa_sub fa5 (fun a ha => by rw [c_Ac_m]; simp at ha; omega)
  have iv40 : ∀ a, a ≠ 44 → a ≠ 48 → a ≠ 45 → a ≠ 46 → sw_iv H40 a = sw_iv H a := fun a a1 a2 a3 a4 => by
    rw [f40.2.2.2.2.2 a (by simp; omega), f34.2.2.2.2.2 a (by simp; omega), ivA a a3 a4]
  have rv40 : ∀ a f, a ≠ 47 → sw_rv H40 a f = sw_rv H a f := fun a f ha => by
    rw [f40.2.2.2.2.1, f34.2.2.2.2.1, rvA a f ha]
  have rv47 : ∀ j, sw_rv H40 47 j = if j = L.length then r else sw_rv H 47 j := fun j => by
    rw [f40.2.2.2.2.1, f34.2.2.2.2.1, e25]
    by_cases c : j = L.length
    · rw [if_pos c, c, c_sr_eq]
    · rw [if_neg c, c_sr_f c]; exact g16.2.2.2.2.1 _ _
  have iv45 : ∀ j, sw_iv H40 45 j = if j = L.length then v.1 else sw_iv H 45 j := fun j => by
    rw [f40.2.2.2.2.2 45 (by simp), f34.2.2.2.2.2 45 (by simp), e25]
    show sw_iv H16 45 j = _
    rw [f16.2.2.2.2.2 45 (by simp), e7]
    by_cases c : j = L.length
    · rw [if_pos c, c, c_si_eq]
    · rw [if_neg c, c_si_f c]
  have iv46 : ∀ j, sw_iv H40 46 j = if j = L.length then pl else sw_iv H 46 j := fun j => by
    rw [f40.2.2.2.2.2 46 (by simp), f34.2.2.2.2.2 46 (by simp), e25]
    show sw_iv H16 46 j = _
    rw [e16]
    by_cases c : j = L.length
    · rw [if_pos c, c, c_si_eq]
    · rw [if_neg c, c_si_f c, f7.2.2.2.2.2 46 (by simp)]
  have iv48 : ∀ j, sw_iv H40 48 j = if j = L.length then (i : Int) else sw_iv H 48 j := fun j => by
    rw [f40.2.2.2.2.2 48 (by simp), e34]
    by_cases c : j = L.length
    · rw [if_pos c, c, c_si_eq]
    · rw [if_neg c, c_si_f c, ivA 48 (by omega) (by omega)]
  refine ⟨Or.inr rfl, q H40 ⟨?_, ?_, ?_, fun k c hk => ?_⟩ (c_fa_W hV fa5 (fun a ha => ?_)) fa⟩
  · unfold c_Ch
    have ty40 : ∀ a, sw_ty H40 a = sw_ty H a := fa.2.2.2
    have ln40 : ∀ a, sw_ln H40 a = sw_ln H a := fun a => by rw [f40.2.2.2.1, f34.2.2.2.1, lnA]
    refine ⟨by rw [rv40 _ _ (by omega)]; exact c0, by rw [rv40 _ _ (by omega)]; exact c3, by rw [rv40 _ _ (by omega)]; exact c4, by rw [rv40 _ _ (by omega)]; exact c5, by rw [rv40 _ _ (by omega)]; exact c6, by rw [rv40 _ _ (by omega)]; exact c7, by rw [rv40 _ _ (by omega)]; exact c8, by rw [rv40 _ _ (by omega)]; exact c9, by rw [rv40 _ _ (by omega)]; exact c12, fun a ha => by rw [ty40, ln40]; exact ct a ha, by rw [ty40, ln40]; exact c47, by rw [ty40, ln40]; exact c51, by rw [ty40, ln40]; exact c52, fun k hk => by rw [rv40 _ _ (by omega), ty40]; exact clf k hk⟩
  · rw [e40, c_si_eq, List.length_append, List.length_singleton]
  · rw [List.length_append, List.length_singleton]; omega
  · rw [List.getElem?_append] at hk
    by_cases d : k < L.length
    · rw [if_pos d] at hk
      refine c_le_eq (hall k c hk) (fun a ha => ?_) (iv40 _ (by omega) (by omega) (by omega) (by omega)) (by rw [rv47, if_neg (by omega)]) (fun j => rv40 _ _ (by omega))
      rcases ha with rfl | rfl | rfl | rfl
      · rw [iv45, if_neg (by omega)]
      · rw [iv46, if_neg (by omega)]
      · rw [iv48, if_neg (by omega)]
      · rw [iv40 49 (by omega) (by omega) (by omega) (by omega)]
    · rw [if_neg d] at hk
      have ek : k = L.length := by
        rcases Nat.eq_or_lt_of_le (Nat.le_of_not_lt d) with e | e
        · exact e.symm
        · rw [List.getElem?_eq_none (by simp; omega)] at hk; cases hk
      subst ek
      rw [Nat.sub_self] at hk
      cases hk
      refine ⟨by rw [iv45, if_pos rfl], by rw [iv46, if_pos rfl], by rw [iv40 49 (by omega) (by omega) (by omega) (by omega)]; exact h49, hok, hpl, fun c3 => ?_, mi, l, i, e, s, hms, by rw [rv47, if_pos rfl, rv40 _ _ (by omega), h16], by rw [iv48, if_pos rfl], he, hp, hh⟩
      obtain ⟨a1, a2⟩ := hlf c3
      have e53 := iv40 (53 + L.length) (by omega) (by omega) (by omega) (by omega)
      refine ⟨?_, by rw [e53]; exact a2⟩
      unfold c_lf at a1 ⊢
      rw [e53]
      exact a1
  · simp at ha; omega
end
