/-! ===== one call of the law: the frame ===== -/
noncomputable section
section
variable {H X Z H' : sw_H} {I J : sr_V} {n nn us m : Nat} {σ : Nat → Int} {K : Wt → Prop} {tl tp mk mm mc mr : List Wt} {rd : Nat → Int} {ms : List (List Wt)} {cn cs x4 z N U M : Int} {A : List Nat} {B : Nat → v_M}
/-- the script, and the row of one long -/
def l_S (H : sw_H) (n : Nat) (σ : Nat → Int) : Prop := sw_ln H 1 = n ∧ n ≤ 3072 ∧ (∀ f, sw_iv H 1 f = σ f) ∧ 0 < sw_ln H 1491
theorem l_S_sr (h : l_S H n σ) (f : sr_fr H Z) : l_S Z n σ := ⟨by rw [(f.2.2.1 1).2.1]; exact h.1, h.2.1, fun g => by rw [f.2.2.2 1 (by omega)]; exact h.2.2.1 g, by rw [(f.2.2.1 1491).2.1]; exact h.2.2.2⟩
theorem c_ch_1 (fl : c_full H) (ad : c_ads H) (c : c_ch A H Z) (hA : c_cA A) {a : Nat} (ha : a = 1 ∨ a = 1491) : (∀ f, sw_iv Z a f = sw_iv H a f) ∧ sw_ln Z a = sw_ln H a := by
  have t : sw_ty H a ≠ 0 := fl a (by omega) (by omega)
  have o : ¬ c_ow H a := fun o => by have := ad a o; omega
  have na : a ∉ A := fun cc => by have := hA a cc; omega
  exact ⟨(c.2.1 a t o na).1, (c.1.2 a t).2⟩
theorem l_S_ch (h : l_S H n σ) (hc : c_ZZ H mk nn K tl cn cs tp rd ms B) (c : c_ch A H Z) (hA : c_cA A) : l_S Z n σ := by
  have fl := hc.1.1.1.2.2.2.1
  have ad := hc.1.1.1.2.2.2.2
  have a := c_ch_1 fl ad c hA (Or.inl rfl)
  have b := c_ch_1 fl ad c hA (Or.inr rfl)
  exact ⟨by rw [a.2]; exact h.1, h.2.1, fun f => by rw [a.1]; exact h.2.2.1 f, by rw [b.2]; exact h.2.2.2⟩
theorem l_m_ch (h : sr_m H I) (hc : c_ZZ H mk nn K tl cn cs tp rd ms B) (c : c_ch A H Z) (hA : c_cA A) : sr_m Z I := sr_m_ch h hc.1.1.1.2.2.2.1 hc.1.1.1.2.2.2.2 c (fun a ha => by have := hA a ha; omega)
/-- the long is put into its row -/
theorem l_si_fr (z : Int) : c_fr [1491] H (sw_si H 1491 0 z) := ⟨rfl, rfl, fun _ => rfl, fun _ => rfl, fun _ _ => rfl, fun a ha => funext (fun f => by
  show (if a = 1491 ∧ f = 0 then z else sw_iv H a f) = sw_iv H a f
  rw [if_neg (fun c => ha (by rw [c.1]; simp))])⟩
theorem c_ZZ_si (h : c_ZZ H mk nn K tl cn cs tp rd ms B) (z : Int) : c_ZZ (sw_si H 1491 0 z) mk nn K tl cn cs tp rd ms B := by
  have fr := l_si_fr (H := H) z
  have fx : ∀ a ∈ [1491], c_fix a ∧ (15 < a ∨ a = 2) := fun a ha => by rw [List.mem_singleton] at ha; unfold c_fix; omega
  have hW := c_W_fr h.1.1 fr fx
  have c := c_V_ch h.1.1.1 fr (fun a ha => (fx a ha).1)
  have fl := h.1.1.1.2.2.2.1
  have ad := h.1.1.1.2.2.2.2
  obtain ⟨y1, y2, y3, y4, y5⟩ := h.2.1
  have no : ∀ a, a ≠ 1491 → a ∉ [1491] := fun a ha cc => ha (List.mem_singleton.mp cc)
  exact c_ZZ_ch h hW c (w_le_refl _) ⟨c_Ch_fr y1 fr, c_Pa_fr y2 fr, by rw [fr.2.2.2.2.2 91 (no _ (by omega))]; exact y3, c_Ta_ch y4 fl ad c (fun _ f _ => fr.2.2.2.2.1 94 f), c_Re_fr y5 fr⟩ (c_Out_ch h.2.2.2.1 fl ad c (no _ (by omega)) (no _ (by omega))) (fr.2.2.2.2.1 94 6) (by rw [fr.2.2.2.2.1]; exact h.2.2.1.2.2.1) (fun a ha => by rw [List.mem_singleton] at ha; unfold c_hl; omega)
theorem l_S_si (h : l_S H n σ) (z : Int) : l_S (sw_si H 1491 0 z) n σ := ⟨h.1, h.2.1, fun f => by
  show (if 1 = 1491 ∧ f = 0 then z else sw_iv H 1 f) = σ f
  rw [if_neg (by omega)]
  exact h.2.2.1 f, h.2.2.2⟩
theorem l_m_si (h : sr_m H I) (z : Int) : sr_m (sw_si H 1491 0 z) I := by
  obtain ⟨h1, h2, h3⟩ := h
  have e : ∀ a f, a ≠ 1491 → sw_iv (sw_si H 1491 0 z) a f = sw_iv H a f := fun a f ha => by
    show (if a = 1491 ∧ f = 0 then z else sw_iv H a f) = sw_iv H a f
    rw [if_neg (fun c => ha c.1)]
  refine ⟨h1, fun f => by rw [e _ _ (by decide)]; exact h2 f, fun f hf => ?_⟩
  obtain ⟨b1, b2, _⟩ := sr_bnd hf
  obtain ⟨d1, d2, d3, d4⟩ := h3 f hf
  exact ⟨d1, d2, d3, fun k => by rw [e _ _ (by omega)]; exact d4 k⟩
theorem l_si_v (z : Int) : sw_iv (sw_si H 1491 0 z) 1491 0 = z := by
  show (if 1491 = 1491 ∧ 0 = 0 then z else sw_iv H 1491 0) = z
  rw [if_pos ⟨rfl, rfl⟩]
theorem c_cp_si (z : Int) : c_cp (sw_si H 1491 0 z) = c_cp H := rfl
theorem c_cp_sr (f : sr_fr H Z) : c_cp Z = c_cp H := c_cp_eq (fun j hj => by
  unfold c_ka
  rw [(f.2.2.1 _).2.2, (f.2.2.1 _).2.1])
/-- a number of the script is read -/
theorem l_rd {φ : Int → Prop} (i : Nat) (hi : 1 ≤ i ∧ i ≤ 5) (h : l_S H n σ) (x0 : 0 ≤ x4) (x6 : x4 + 6 ≤ n) (k : sw_c (σ (x4.toNat + i)) → φ (σ (x4.toNat + i))) : 0 ≤ sw_w (x4 + (i : Int)) ∧ sw_w (x4 + (i : Int)) < (sw_ln H 1 : Int) ∧ ∀ v, v = sw_iv H 1 (sw_w (x4 + (i : Int))).toNat → sw_c v → φ v := by
  have hn := h.2.1
  rw [sw_w_s (by omega) (by omega), h.1]
  refine ⟨by omega, by omega, fun v e c => ?_⟩
  rw [h.2.2.1, show (x4 + (i : Int)).toNat = x4.toNat + i by omega] at e
  subst e
  exact k c
theorem sr_fr_t (f : sr_fr H X) (g : sr_fr X Z) : sr_fr H Z := ⟨by rw [g.1, f.1], by rw [g.2.1, f.2.1], fun a => ⟨by rw [(g.2.2.1 a).1, (f.2.2.1 a).1], by rw [(g.2.2.1 a).2.1, (f.2.2.1 a).2.1], fun k => by rw [(g.2.2.1 a).2.2, (f.2.2.1 a).2.2]⟩, fun a ha k => by rw [g.2.2.2 a ha, f.2.2.2 a ha]⟩
/-- the end of a call that may throw: none was thrown -/
theorem l_t0 {k q : sw_H → Prop} {z : Int} (j0 : J 1000 0 = 0) (hv : sw_iv X 1491 0 = z) (hl : 0 < sw_ln X 1491) (kk : ∀ H', sr_m H' J → sr_fr X H' → k H') : sw_c z → ∀ H1, sr_m H1 J → sr_fr X H1 → ∃ I2, sr_m H1 I2 ∧ rm_9 I2 (fun z2 J2 => sw_c z2 → ∀ H2, sr_m H2 J2 → sr_fr H1 H2 → (z2 = 0 → ((0 : Int) ≠ 0 → k H2) ∧ ((0 : Int) = 0 → (0 : Int) < sw_ln H2 1491 ∧ ∀ v, v = sw_iv H2 1491 0 → (Int64.ofInt v).toInt = v → ∀ v', sw_c v' → (v' = 0 ↔ v = z) → (v' = 0 → k H2) ∧ (v' ≠ 0 → q H2))) ∧ (z2 ≠ 0 → q H2)) := by
  intro _ H1 m1 f1
  refine ⟨J, m1, ?_⟩
  unfold rm_9
  intro v e _ _ H2 m2 f2
  have f := sr_fr_t f1 f2
  refine ⟨fun _ => ⟨fun c => absurd rfl c, fun _ => ⟨by rw [(f.2.2.1 1491).2.1]; omega, fun w ew _ w' _ hw => ⟨fun _ => kk H2 m2 f, fun c => ?_⟩⟩⟩, fun c => absurd (e.trans j0) c⟩
  rw [f.2.2.2 1491 (by omega), hv] at ew
  exact absurd (hw.mpr ew) c
/-- one was thrown -/
theorem l_te {k q : sw_H → Prop} {z e0 : Int} (j0 : J 1000 0 = e0) (he : e0 ≠ 0) (kk : ∀ H', sr_m H' J → sr_fr X H' → k H') : sw_c z → ∀ H1, sr_m H1 J → sr_fr X H1 → ∃ I2, sr_m H1 I2 ∧ rm_9 I2 (fun z2 J2 => sw_c z2 → ∀ H2, sr_m H2 J2 → sr_fr H1 H2 → (z2 = e0 → (e0 ≠ 0 → k H2) ∧ (e0 = 0 → (0 : Int) < sw_ln H2 1491 ∧ ∀ v, v = sw_iv H2 1491 0 → (Int64.ofInt v).toInt = v → ∀ v', sw_c v' → (v' = 0 ↔ v = z) → (v' = 0 → k H2) ∧ (v' ≠ 0 → q H2))) ∧ (z2 ≠ e0 → q H2)) := by
  intro _ H1 m1 f1
  refine ⟨J, m1, ?_⟩
  unfold rm_9
  intro v e _ _ H2 m2 f2
  exact ⟨fun _ => ⟨fun _ => kk H2 m2 (sr_fr_t f1 f2), fun c => absurd c he⟩, fun c => absurd (e.trans j0) c⟩
/-- a call that answers -/
theorem l_eq {k q : sw_H → Prop} {z z' : Int} (e : z = z') (kk : ∀ H', sr_m H' J → sr_fr X H' → k H') : sw_c z' → ∀ H1, sr_m H1 J → sr_fr X H1 → (z = z' → k H1) ∧ (z ≠ z' → q H1) := fun _ H1 m1 f1 => ⟨fun _ => kk H1 m1 f1, fun c => absurd e c⟩
/-- what one call may make -/
def l_cv (q : List Wt → Prop) (K : Wt → Prop) (nn : Nat) (ms : List (List Wt)) (B : Nat → v_M) (tp : List Wt) (S : Wt → Prop) (ms' : List (List Wt)) : Prop :=
  ((∀ v, ¬ S v) ∧ (ms' = ms ∨ ms' = ms ++ [tp])) ∨ ((∃ w, (∀ v, S v → v = w) ∧ w_sz w ≤ 300) ∧ ms' = ms) ∨ ((∃ m, m < 24 ∧ ∀ v, S v → v ∈ w_crL m nn) ∧ ms' = ms) ∨ ((∃ m, m < 24 ∧ ∀ v, S v → v ∈ w_ofL m nn ++ w_ofC m nn) ∧ ∃ p, ms' = ms ++ [p]) ∨ ((∃ (m : Nat) (kd of : Int) (l : List Wt), m < 24 ∧ v_in (B m) ∧ (kd = 1 → l ∈ ms ∧ q l) ∧ ∀ v, S v → v ∈ w_prA m nn (v_G (B m)) kd of l) ∧ ∃ p, ms' = ms ++ [p]) ∨ (∃ (m : Nat) (C : List w_Ch) (Pt : List (List Wt × Wt × Wt)) (x2 : Int), m < 24 ∧ v_in (B m) ∧ v_mo K nn ms m (B m) C Pt ∧ (∀ v, S v → k_S (v_G (B m)) m nn (v_wp x2 C (B m)) (v_L C (B m)) v) ∧ ms' = ms ++ k_ms2 (v_G (B m)) m nn (v_wp x2 C (B m)) (v_L C (B m))) ∨ (∃ (m mi : Nat) (lm : List Wt) (C : List w_Ch) (Pt : List (List Wt × Wt × Wt)), m < 24 ∧ v_mo K nn ms m (B m) C Pt ∧ ms[mi]? = some lm ∧ (∀ v, S v → v_dS K (B m) C Pt lm v) ∧ ms' = ms)
/-- all that is had between two calls -/
def l_Z (n : Nat) (σ : Nat → Int) (H : sw_H) (mc mr : List Wt) (nn : Nat) (K : Wt → Prop) (tl tp : List Wt) (rd : Nat → Int) (ms : List (List Wt)) (B : Nat → v_M) (cn cs : Int) : Prop := l_S H n σ ∧ c_ZZ H mc nn K tl cn cs tp rd ms B ∧ (∃ I us, sr_m H I ∧ m_ZZ I mr us nn K tl tp rd ms B) ∧ (∀ m, m < 24 → ∃ C Pt, v_mo K nn ms m (B m) C Pt) ∧ w_m5 mr ∧ w_clo K
/-- how much one call adds -/
def l_gr (K : Wt → Prop) (nn : Nat) (ms : List (List Wt)) (B : Nat → v_M) (mc mr tl tp : List Wt) (cn cs cp : Int) (mc' mr' tl' : List Wt) (ms' : List (List Wt)) (cn' cs' cp' : Int) : Prop := tl'.length ≤ tl.length + 1 ∧ cn' ≤ cn + 4 ∧ cs' ≤ cs + 1202 * ((ms'.length : Int) - ms.length) + 6 + 4 * (cp' - cp) ∧ ∃ S, l_cv (w_rp K) K nn ms B tp S ms' ∧ w_mo S mc mc' ∧ w_mo S mr mr'
/-- what goes on behind a call -/
def l_k (n : Nat) (σ : Nat → Int) (K : Wt → Prop) (nn : Nat) (ms : List (List Wt)) (B : Nat → v_M) (mc mr tl tp : List Wt) (cn cs cp : Int) (k : sw_H → Prop) : Prop := ∀ H' mc' mr' nn' K' tl' tp' rd' ms' B' cn' cs', l_Z n σ H' mc' mr' nn' K' tl' tp' rd' ms' B' cn' cs' → l_gr K nn ms B mc mr tl tp cn cs cp mc' mr' tl' ms' cn' cs' (c_cp H') → k H'
end
end
