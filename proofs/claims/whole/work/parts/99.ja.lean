/-! ===== the states of both sides, by the same abstract state ===== -/
noncomputable section
/-- a member: whether it is in a group, the group, its commit that waits, kept proposals, own UPDATEs, PACKAGEs -/
abbrev v_M : Type := Prop × w_G × Option (List Wt × w_G) × List (Wt × Nat) × List (Wt × Wt) × List (Nat × Wt × Wt)
def v_in (x : v_M) : Prop := x.1
def v_G (x : v_M) : w_G := x.2.1
def v_pd (x : v_M) : Option (List Wt × w_G) := x.2.2.1
def v_La (x : v_M) : List (Wt × Nat) := x.2.2.2.1
def v_U (x : v_M) : List (Wt × Wt) := x.2.2.2.2.1
def v_Lk (x : v_M) : List (Nat × Wt × Wt) := x.2.2.2.2.2
/-- a member of the reference -/
def m_zm (I : sr_V) (mk : List Wt) (ms : List (List Wt)) (m : Nat) (x : v_M) : Prop := ((I 27 m = 1 ∧ v_in x) ∨ (I 27 m = 0 ∧ ¬ v_in x)) ∧ (v_in x → m_st I mk m (v_G x)) ∧ d_pend I mk m ms (v_pd x) ∧ m_pp I mk ms m (v_La x) ∧ m_up I mk m (v_U x) ∧ m_pk I mk m (v_Lk x)
/-- the reference -/
def m_ZZ (I : sr_V) (mk : List Wt) (us nn : Nat) (K : Wt → Prop) (tl tp : List Wt) (rd : Nat → Int) (ms : List (List Wt)) (B : Nat → v_M) : Prop := m_wr I mk nn K tl ms us ∧ m_P I (w_d mk) tp ∧ m_Y I rd ∧ w_at mk 1 w_z ∧ ∀ m, m < 24 → m_zm I mk ms m (B m)
/-- where the class's groups lie: the spare one, and two for each member -/
def c_plc (H : sw_H) (k : Nat) : Nat := if k = 0 then sw_rv H 94 6 else if k % 2 = 1 then sw_rv H (120 + 54 * ((k - 1) / 2)) 4 else sw_rv H (120 + 54 * ((k - 2) / 2)) 5
def c_PL (H : sw_H) : Prop := (∀ k, k < 49 → c_pl (c_plc H k) ∧ c_gs H (c_plc H k)) ∧ ∀ j k, j < 49 → k < 49 → c_plc H j = c_plc H k → j = k
/-- a member of the class -/
def c_zm (H : sw_H) (mk : List Wt) (ms : List (List Wt)) (m : Nat) (x : v_M) : Prop := ((sw_iv H (120 + 54 * m) 3 = 1 ∧ v_in x) ∨ (sw_iv H (120 + 54 * m) 3 = 0 ∧ ¬ v_in x)) ∧ (v_in x → c_gp H mk (sw_rv H (120 + 54 * m) 4) (v_G x)) ∧ c_pend H mk m ms (sw_rv H (120 + 54 * m) 5) (v_pd x) ∧ c_ma H m ∧ c_up H mk m (v_U x) ∧ c_pk H mk ms m (v_Lk x)
/-- the class -/
def c_ZZ (H : sw_H) (mk : List Wt) (nn : Nat) (K : Wt → Prop) (tl : List Wt) (cn cs : Int) (tp : List Wt) (rd : Nat → Int) (ms : List (List Wt)) (B : Nat → v_M) : Prop := c_BS H mk nn K tl cn cs tp rd ms (fun m => v_La (B m)) ∧ c_tol H ∧ (sw_ty H 44 = 24 ∧ sw_ty H 18 = 72 ∧ sw_rv H 18 0 = 3 ∧ sw_ty H 1422 = 48) ∧ c_Out H ∧ w_at mk 1 w_z ∧ c_PL H ∧ ∀ m, m < 24 → c_zm H mk ms m (B m)
variable {H Z X : sw_H} {I J : sr_V} {nn nm us m g : Nat} {K K' : Wt → Prop} {tl tl' tp mk mm : List Wt} {rd : Nat → Int} {ms ms' : List (List Wt)} {cn cs cn' cs' : Int} {A : List Nat} {B : Nat → v_M} {x : v_M} {P : Nat → Nat → Prop}
theorem c_plc_0 : c_plc H 0 = sw_rv H 94 6 := if_pos rfl
theorem c_plc_4 (m : Nat) : c_plc H (2 * m + 1) = sw_rv H (120 + 54 * m) 4 := by
  unfold c_plc
  rw [if_neg (by omega), if_pos (by omega), show (2 * m + 1 - 1) / 2 = m by omega]
theorem c_plc_5 (m : Nat) : c_plc H (2 * m + 2) = sw_rv H (120 + 54 * m) 5 := by
  unfold c_plc
  rw [if_neg (by omega), if_neg (by omega), show (2 * m + 2 - 2) / 2 = m by omega]
/-- what the places are -/
theorem c_PL_4 (h : c_PL H) (hm : m < 24) : c_pl (sw_rv H (120 + 54 * m) 4) ∧ c_gs H (sw_rv H (120 + 54 * m) 4) := by
  rw [← c_plc_4]; exact h.1 _ (by omega)
theorem c_PL_5 (h : c_PL H) (hm : m < 24) : c_pl (sw_rv H (120 + 54 * m) 5) ∧ c_gs H (sw_rv H (120 + 54 * m) 5) := by
  rw [← c_plc_5]; exact h.1 _ (by omega)
theorem c_PL_0 (h : c_PL H) : c_pl (sw_rv H 94 6) ∧ c_gs H (sw_rv H 94 6) := by
  rw [← c_plc_0]; exact h.1 _ (by omega)
theorem c_PL_ne (h : c_PL H) {j k : Nat} (hj : j < 49) (hk : k < 49) (hn : j ≠ k) : c_plc H j ≠ c_plc H k := fun e => hn (h.2 j k hj hk e)
theorem c_PL_04 (h : c_PL H) (hm : m < 24) : sw_rv H 94 6 ≠ sw_rv H (120 + 54 * m) 4 := by
  rw [← c_plc_0, ← c_plc_4]; exact c_PL_ne h (by omega) (by omega) (by omega)
theorem c_PL_05 (h : c_PL H) (hm : m < 24) : sw_rv H 94 6 ≠ sw_rv H (120 + 54 * m) 5 := by
  rw [← c_plc_0, ← c_plc_5]; exact c_PL_ne h (by omega) (by omega) (by omega)
theorem c_PL_45 (h : c_PL H) {n : Nat} (hm : m < 24) (hn : n < 24) : sw_rv H (120 + 54 * m) 4 ≠ sw_rv H (120 + 54 * n) 5 := by
  rw [← c_plc_4, ← c_plc_5]; exact c_PL_ne h (by omega) (by omega) (by omega)
theorem c_PL_44 (h : c_PL H) {n : Nat} (hm : m < 24) (hn : n < 24) (ne : m ≠ n) : sw_rv H (120 + 54 * m) 4 ≠ sw_rv H (120 + 54 * n) 4 := by
  rw [← c_plc_4, ← c_plc_4]; exact c_PL_ne h (by omega) (by omega) (by omega)
theorem c_PL_55 (h : c_PL H) {n : Nat} (hm : m < 24) (hn : n < 24) (ne : m ≠ n) : sw_rv H (120 + 54 * m) 5 ≠ sw_rv H (120 + 54 * n) 5 := by
  rw [← c_plc_5, ← c_plc_5]; exact c_PL_ne h (by omega) (by omega) (by omega)
/-- places that change hands -/
theorem c_PL_tr (h : c_PL H) (t : Nat → Nat) (ht : ∀ k, k < 49 → t k < 49 ∧ c_plc Z k = c_plc H (t k)) (hi : ∀ j k, j < 49 → k < 49 → t j = t k → j = k) (hg : ∀ k, k < 49 → c_gs Z (c_plc H k)) : c_PL Z := by
  refine ⟨fun k hk => ?_, fun j k hj hk e => ?_⟩
  · obtain ⟨t1, t2⟩ := ht k hk
    rw [t2]
    exact ⟨(h.1 _ t1).1, hg _ t1⟩
  · obtain ⟨a1, a2⟩ := ht j hj
    obtain ⟨b1, b2⟩ := ht k hk
    rw [a2, b2] at e
    exact hi j k hj hk (h.2 _ _ a1 b1 e)
/-- messages are only added -/
def w_msl (ms ms' : List (List Wt)) : Prop := ∀ (i : Nat) (p : List Wt), ms[i]? = some p → ms'[i]? = some p
theorem w_msl_refl (ms : List (List Wt)) : w_msl ms ms := fun _ _ h => h
theorem w_msl_app (ms l : List (List Wt)) : w_msl ms (ms ++ l) := fun i p h => by
  rw [List.getElem?_append_left (List.getElem?_eq_some_iff.mp h).1]; exact h
theorem c_zm_ch (hm : m < 24) (h : c_zm H mk ms m x) (hp : c_PL H) (fl : c_full H) (ad : c_ads H) (c : c_ch A H Z) (hl : w_le mk mm) (hs : w_msl ms ms') (hA : ∀ a ∈ A, a ≠ 120 + 54 * m ∧ (a < 120 + 54 * m + 49 ∨ 120 + 54 * m + 53 < a) ∧ (a < sw_rv H (120 + 54 * m) 4 ∨ sw_rv H (120 + 54 * m) 4 + 22 < a) ∧ (a < sw_rv H (120 + 54 * m) 5 ∨ sw_rv H (120 + 54 * m) 5 + 22 < a)) : c_zm Z mm ms' m x := by
  have nm : 120 + 54 * m ∉ A := fun cc => by have := hA _ cc; omega
  have vm := c_fx_iv fl ad c (q := 120 + 54 * m) (by unfold c_fix; omega) nm
  obtain ⟨h1, h2, h3, h4, h5, h6⟩ := h
  refine ⟨by rw [vm.1]; exact h1, fun hin => by rw [vm.2]; exact c_gp_ch (h2 hin) fl ad c (fun a ha => by have := hA a ha; omega) hl, ?_, c_ma_ch h4 hm fl ad c (fun cc => absurd cc nm), c_up_ch h5 hm fl ad c (fun cc => absurd cc nm) (fun cc => by have := hA _ cc; omega) hl, ?_⟩
  · obtain ⟨o, eo⟩ : ∃ o, v_pd x = o := ⟨_, rfl⟩
    rw [eo] at h3 ⊢
    cases o with
    | none => exact (vm.1 6).trans h3
    | some pp =>
      obtain ⟨lp, G'⟩ := pp
      obtain ⟨⟨pn, p1, p2⟩, p3⟩ := h3
      exact ⟨⟨pn, (vm.1 6).trans p1, hs pn lp p2⟩, by rw [vm.2]; exact c_gp_ch p3 fl ad c (fun a ha => by have := hA a ha; omega) hl⟩
  · have := c_pk_ch hm h6 fl ad c hl (fun a ha => by have := hA a ha; omega)
    obtain ⟨y1, y2, y3⟩ := this
    refine ⟨y1, y2, fun i k u v hi => ?_⟩
    obtain ⟨z1, z2, z3, p, z4, z5⟩ := y3 i k u v hi
    exact ⟨z1, z2, z3, p, hs k p z4, z5⟩
/-- a change of tools alone -/
theorem c_ZZ_ch (h : c_ZZ H mk nn K tl cn cs tp rd ms B) (hW : c_W Z mm nm K' tl' cn' cs') (c : c_ch A H Z) (hl : w_le mk mm) (htol : c_tol Z) (hOut : c_Out Z) (r94 : sw_rv Z 94 6 = sw_rv H 94 6) (r18 : sw_rv Z 18 0 = 3) (hA : ∀ a ∈ A, c_hl a) : c_ZZ Z mm nm K' tl' cn' cs' tp rd ms B := by
  obtain ⟨h1, h2, ⟨t1, t2, t3, t4⟩, h4, h5, h6, h7⟩ := h
  have fl := h1.1.1.2.2.2.1
  have ad := h1.1.1.2.2.2.2
  have ty : ∀ a, c_fix a → sw_ty Z a = sw_ty H a := fun a ha => (c_fx_ty fl c ha).1
  have vm : ∀ m, m < 24 → ∀ f, sw_rv Z (120 + 54 * m) f = sw_rv H (120 + 54 * m) f := fun m hm => (c_fx_iv fl ad c (q := 120 + 54 * m) (by unfold c_fix; omega) (fun cc => by have := hA _ cc; unfold c_hl at this; omega)).2
  have pe : ∀ k, k < 49 → c_plc Z k = c_plc H k := fun k hk => by
    unfold c_plc
    by_cases c0 : k = 0
    · rw [if_pos c0, if_pos c0, r94]
    · rw [if_neg c0, if_neg c0, vm _ (by omega), vm _ (by omega)]
  refine ⟨c_BS_ch h1 hW c hl hA, htol, ⟨by rw [ty 44 (by unfold c_fix; omega)]; exact t1, by rw [ty 18 (by unfold c_fix; omega)]; exact t2, r18, by rw [ty 1422 (by unfold c_fix; omega)]; exact t4⟩, hOut, w_le_at hl h5, c_PL_tr h6 id (fun k hk => ⟨hk, pe k hk⟩) (fun j k _ _ e => e) (fun k hk => ?_), fun m hm => ?_⟩
  · have b := c_pl_b (h6.1 k hk).1
    exact c_gs_ch (h6.1 k hk).2 fl ad c (fun a ha hn => by have := hA a ha; unfold c_hl at this; omega) (fun cc => by have := hA _ cc; unfold c_hl at this; omega)
  · have b4 := c_pl_b (c_PL_4 h6 hm).1
    have b5 := c_pl_b (c_PL_5 h6 hm).1
    exact c_zm_ch hm (h7 m hm) h6 fl ad c hl (w_msl_refl _) (fun a ha => by have := hA a ha; unfold c_hl at this; omega)
/-- the reference's cells -/
def c_Arf : List Nat := (List.range 68).map (fun i => 1423 + i)
theorem c_Arf_m {a : Nat} : a ∈ c_Arf ↔ 1423 ≤ a ∧ a ≤ 1490 := by
  unfold c_Arf
  simp only [List.mem_map, List.mem_range]
  constructor
  · rintro ⟨i, h1, h2⟩; omega
  · intro h; exact ⟨a - 1423, by omega, by omega⟩
theorem sr_fr_fr (h : sr_fr H Z) : c_fr c_Arf H Z := ⟨h.1, h.2.1, fun a => (h.2.2.1 a).1, fun a => (h.2.2.1 a).2.1, fun a f => (h.2.2.1 a).2.2 f, fun a ha => funext (fun f => h.2.2.2 a (by rw [c_Arf_m] at ha; omega) f)⟩
theorem c_ZZ_sr (h : c_ZZ H mk nn K tl cn cs tp rd ms B) (f : sr_fr H Z) : c_ZZ Z mk nn K tl cn cs tp rd ms B := by
  have fr := sr_fr_fr f
  have fx : ∀ a ∈ c_Arf, c_fix a ∧ (15 < a ∨ a = 2) := fun a ha => by rw [c_Arf_m] at ha; unfold c_fix; omega
  have hW := c_W_fr h.1.1 fr fx
  have c := c_V_ch h.1.1.1 fr (fun a ha => (fx a ha).1)
  have fl := h.1.1.1.2.2.2.1
  have ad := h.1.1.1.2.2.2.2
  obtain ⟨y1, y2, y3, y4, y5⟩ := h.2.1
  refine c_ZZ_ch h hW c (w_le_refl _) ⟨c_Ch_fr y1 fr, c_Pa_fr y2 fr, by rw [fr.2.2.2.2.2 91 (fun cc => by rw [c_Arf_m] at cc; omega)]; exact y3, c_Ta_ch y4 fl ad c (fun _ f _ => fr.2.2.2.2.1 94 f), c_Re_fr y5 fr⟩ (c_Out_ch h.2.2.2.1 fl ad c (fun cc => by rw [c_Arf_m] at cc; omega) (fun cc => by rw [c_Arf_m] at cc; omega)) (fr.2.2.2.2.1 94 6) (by rw [fr.2.2.2.2.1]; exact h.2.2.1.2.2.1) (fun a ha => by rw [c_Arf_m] at ha; unfold c_hl; omega)
/-- the class leaves the reference's cells alone -/
theorem sr_m_ch (h : sr_m H I) (fl : c_full H) (ad : c_ads H) (c : c_ch A H Z) (hA : ∀ a ∈ A, a < 1423 ∨ 1490 < a) : sr_m Z I := by
  have v : ∀ a, 1423 ≤ a → a ≤ 1490 → (∀ f, sw_iv Z a f = sw_iv H a f) ∧ (∀ f, sw_rv Z a f = sw_rv H a f) ∧ sw_ty Z a = sw_ty H a ∧ sw_ln Z a = sw_ln H a := fun a h1 h2 => by
    have x := c_fx_iv fl ad c (q := a) (by unfold c_fix; omega) (fun cc => by have := hA a cc; omega)
    have y := c_fx_ty fl c (q := a) (by unfold c_fix; omega)
    exact ⟨x.1, x.2, y.1, y.2⟩
  obtain ⟨h1, h2, h3⟩ := h
  obtain ⟨a1, a2, a3, a4⟩ := v 1423 (by decide) (by decide)
  refine ⟨a3.trans h1, fun f => (a1 f).trans (h2 f), fun f hf => ?_⟩
  obtain ⟨b1, b2, _⟩ := sr_bnd hf
  obtain ⟨c1, c2, c3, c4⟩ := v (sr_a f) (by omega) b2
  obtain ⟨d1, d2, d3, d4⟩ := h3 f hf
  exact ⟨(a2 f).trans d1, c3.trans d2, c4.trans d3, fun k => (c1 k).trans (d4 k)⟩
/-- a member of the reference that is not touched -/
theorem m_zm_gp (hm : m < 24) (h : m_zm I mk ms m x) (g : m_gp P I J) (hl : w_le mk mm) (hs : w_msl ms ms') (p : ∀ f k, P f k → ¬ ((f = 27 ∨ f = 28 ∨ f = 35 ∨ f = 45 ∨ f = 47) ∧ k = m) ∧ ¬ m_pl m f k ∧ ¬ m_pl (24 + m) f k ∧ ¬ m_kq m f k ∧ ¬ ((f = 53 ∨ f = 54) ∧ 40 * m ≤ k ∧ k < 40 * m + 40) ∧ ¬ ((f = 48 ∨ f = 49 ∨ f = 50) ∧ 8 * m ≤ k ∧ k < 8 * m + 8)) : m_zm J mm ms' m x := by
  obtain ⟨h1, h2, h3, h4, h5, h6⟩ := h
  have e : ∀ f, f = 27 ∨ f = 28 ∨ f = 35 → J f m = I f m := fun f hf => g f m (fun q => by have := (p f m q).1; omega)
  refine ⟨by rw [e 27 (by omega)]; exact h1, fun hin => m_st_le (m_st_gp (h2 hin) g (fun f k a b => (p f k b).2.1 a)) hl, ?_, m_pp_gp h4 g (fun f k q => (p f k q).2.2.2.1) hl hs, m_up_gp h5 g (fun f k q => ⟨fun a => (p f k q).1 (by omega), (p f k q).2.2.2.2.1⟩) hl, m_pk_gp h6 g (fun f k q => ⟨fun a => (p f k q).1 (by omega), (p f k q).2.2.2.2.2⟩) hl⟩
  obtain ⟨o, eo⟩ : ∃ o, v_pd x = o := ⟨_, rfl⟩
  rw [eo] at h3 ⊢
  cases o with
  | none => exact (e 28 (by omega)).trans h3
  | some pp =>
    obtain ⟨lp, G'⟩ := pp
    obtain ⟨a1, ⟨pn, a2, a3⟩, a4⟩ := h3
    exact ⟨(e 28 (by omega)).trans a1, ⟨pn, (e 35 (by omega)).trans a2, hs pn lp a3⟩, m_st_le (m_st_gp a4 g (fun f k a b => (p f k b).2.2.1 a)) hl⟩
end
