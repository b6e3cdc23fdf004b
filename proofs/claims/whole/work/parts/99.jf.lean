/-! ===== member, node, compromise, by the whole state, both sides ===== -/
noncomputable section
section
variable {I J : sr_V} {nn nm us m : Nat} {K K' : Wt → Prop} {tl tl' tp mk mm : List Wt} {rd : Nat → Int} {ms : List (List Wt)} {x y n : Int} {B : Nat → v_M} {v : v_M} {P : Nat → Nat → Prop} {R : Int → sr_V → Prop}
/-- what a call may change of the reference beside its state -/
def m_sf (us f k : Nat) : Prop := (6 ≤ f ∧ f ≤ 17) ∨ (f = 26 ∧ us ≤ k) ∨ (55 ≤ f ∧ f ≠ 1000) ∨ (f = 1000 ∧ k ≠ 3 ∧ k ≠ 22 ∧ k ≠ 23)
theorem m_ZZ_gp (h : m_ZZ I mk us nn K tl tp rd ms B) (hL : m_L J mm nm K' tl') (hl : w_le mk mm) (g : m_gp P I J) (p : ∀ f k, P f k → m_sf us f k) : m_ZZ J mm us nm K' tl' tp rd ms B := by
  obtain ⟨⟨k1, k2, k3, k4⟩, h2, h3, h4, h5⟩ := h
  have no : ∀ f k, ¬ m_sf us f k → J f k = I f k := fun f k hn => g f k (fun q => hn (p f k q))
  have i4 := k1.2.2.2.1
  have j4 := hL.2.2.2.1
  have ll := w_le_len hl
  have he : ∀ u : Nat, (u : Int) ≤ I 1000 4 → w_d mm u = w_d mk u := fun u hu => w_le_d hl (by omega)
  have e22 := no 1000 22 (by unfold m_sf; omega)
  have e23 := no 1000 23 (by unfold m_sf; omega)
  have e2 : J 2 = I 2 := funext (fun k => no 2 k (by unfold m_sf; omega))
  refine ⟨⟨hL, m_me_le (m_me_gp k2 g (fun f k q => by have := p f k q; unfold m_sf at this; omega)) hl, ?_, e23.trans k4⟩, m_P_e e2 (no 1000 3 (by unfold m_sf; omega)) (by omega) he h2, fun k hk => by rw [no 1 k (by unfold m_sf; omega)]; exact h3 k hk, w_le_at hl h4, fun m hm => m_zm_gp hm (h5 m hm) g hl (w_msl_refl _) (fun f k q => ?_)⟩
  · obtain ⟨a1, a2, a3, a4, a5⟩ := k3
    refine ⟨e22.trans a1, a2, by rw [e23]; exact a3, by rw [e23]; exact a4, fun i l hi => ?_⟩
    obtain ⟨b1, b2, b3, b4, b5⟩ := a5 i l hi
    rw [no 24 i (by unfold m_sf; omega), no 25 i (by unfold m_sf; omega), e23]
    refine ⟨b1, b2, b3, b4, m_at_e (by omega) he (fun k w hk => ?_)⟩
    have hlt := (List.getElem?_eq_some_iff.mp hk).1
    rw [no 26 _ (by unfold m_sf; omega)]
    exact b5 k w hk
  · have := p f k q
    unfold m_sf at this
    unfold m_pl m_kq
    exact ⟨by omega, by omega, by omega, by omega, by omega, by omega⟩
theorem m_zm_in (h : m_zm I mk ms m v) : (I 27 m = 1) = v_in v := propext (by
  rcases h.1 with ⟨a, b⟩ | ⟨a, b⟩
  · exact ⟨fun _ => b, fun _ => a⟩
  · exact ⟨fun c => by omega, fun c => absurd c b⟩)
theorem m_zm_pd (h : m_zm I mk ms m v) : (I 28 m = 1) = (v_pd v ≠ none) := propext (by
  have hp := h.2.2.1
  obtain ⟨o, eo⟩ : ∃ o, v_pd v = o := ⟨_, rfl⟩
  rw [eo] at hp ⊢
  cases o with
  | none =>
    have hp : I 28 m = 0 := hp
    exact ⟨fun c => by omega, fun c => absurd rfl c⟩
  | some q => exact ⟨fun _ => Option.some_ne_none _, fun _ => hp.1⟩)
theorem m_zm_01 (h : m_zm I mk ms m v) : (I 27 m = 0 ∨ I 27 m = 1) ∧ (I 28 m = 0 ∨ I 28 m = 1) := by
  refine ⟨?_, ?_⟩
  · rcases h.1 with ⟨a, b⟩ | ⟨a, b⟩
    · exact Or.inr a
    · exact Or.inl a
  · have hp := h.2.2.1
    obtain ⟨o, eo⟩ : ∃ o, v_pd v = o := ⟨_, rfl⟩
    rw [eo] at hp
    cases o with
    | none => exact Or.inl hp
    | some q => exact Or.inr hp.1
theorem z_member (hb : tl.length < 44998) (hbd : m_bd mk) (h : m_ZZ I mk us nn K tl tp rd ms B) (q0 : ∀ J us', ¬ (0 ≤ x ∧ x < 24 ∧ 0 ≤ y ∧ y ≤ 12) → m_ZZ J mk us' nn K tl tp rd ms B → R (-1) J) (qv : ∀ (m : Nat) z J us', x = m → m < 24 → w_mv (v_in (B m)) (v_pd (B m) ≠ none) (v_La (B m)).length (v_U (B m)).length (v_Lk (B m)).length (v_G (B m)) y z → m_ZZ J mk us' nn K tl tp rd ms B → R z J) (qt : ∀ (m : Nat) w J us', x = m → m < 24 → v_in (B m) → w_mt (v_G (B m)) y w → m_ZZ J mk us' nn K (w_tp tl w).2 tp rd ms B → R (w_tp tl w).1 J) : rm_39 x y I R := by
  obtain ⟨u0, hz⟩ := m_ZZ_th h 0
  have zm := h.2.2.2.2
  refine r_member (PGa := fun m => v_G (B m)) (Lk := fun m => v_Lk (B m)) (Ga := fun m => v_G (B m)) (Ua := fun m => v_U (B m)) (Pa := fun m => v_La (B m)) h.1.1 hb hbd (fun m hm => ⟨(zm m hm).2.2.2.2.2, (zm m hm).2.2.2.2.1, (zm m hm).2.2.2.1⟩) (fun m hm => m_zm_01 (zm m hm)) (fun m hm hi => (zm m hm).2.1 (by rw [m_zm_in (zm m hm)] at hi; exact hi)) (fun c => q0 _ u0 c hz) (fun m z hx hm hv => ?_) (fun m w J hx hm hi hw hL j0 g => ?_)
  · rw [m_zm_in (zm m hm), m_zm_pd (zm m hm)] at hv
    exact qv m z _ u0 hx hm hv hz
  · rw [m_zm_in (zm m hm)] at hi
    exact qt m w J us hx hm hi hw (m_ZZ_gp h hL (w_le_refl _) g (fun f k q => by unfold m_pm m_p2 at q; unfold m_sf; omega))
theorem z_node (hb : tl.length < 44998) (h : m_ZZ I mk us nn K tl tp rd ms B) (q0 : ∀ J us', (¬ ∃ m k : Nat, x = m ∧ m < 24 ∧ v_in (B m) ∧ n = k ∧ k < t_w (gg_T (v_G (B m)))) → m_ZZ J mk us' nn K tl tp rd ms B → R (-1) J) (qv : ∀ (m k : Nat) z J us', x = m → m < 24 → v_in (B m) → n = k → k < t_w (gg_T (v_G (B m))) → w_nv (v_G (B m)) k y z → m_ZZ J mk us' nn K tl tp rd ms B → R z J) (qt : ∀ (m k : Nat) w J us', x = m → m < 24 → v_in (B m) → n = k → k < t_w (gg_T (v_G (B m))) → w_nt (v_G (B m)) k y w → m_ZZ J mk us' nn K (w_tp tl w).2 tp rd ms B → R (w_tp tl w).1 J) : rm_41 x n y I R := by
  obtain ⟨u0, hz⟩ := m_ZZ_th h 0
  have zm := h.2.2.2.2
  have sf : ∀ f k, m_pn f k → m_sf us f k := fun f k q => by unfold m_pn at q; unfold m_sf; omega
  refine r_node (Ga := fun m => v_G (B m)) h.1.1 hb (fun m hm => (m_zm_01 (zm m hm)).1) (fun m hm hi => (zm m hm).2.1 (by rw [m_zm_in (zm m hm)] at hi; exact hi)) (fun c => q0 _ u0 (fun ⟨m, k, a1, a2, a3, a4⟩ => c ⟨m, k, a1, a2, by rw [m_zm_in (zm m a2)]; exact a3, a4⟩) hz) (fun m k z J hx hm hi hk hk2 hv hL j0 g => ?_) (fun m k w J hx hm hi hk hk2 hv hL j0 g => ?_)
  · rw [m_zm_in (zm m hm)] at hi
    exact qv m k z J us hx hm hi hk hk2 hv (m_ZZ_gp h hL (w_le_refl _) g sf)
  · rw [m_zm_in (zm m hm)] at hi
    exact qt m k w J us hx hm hi hk hk2 hv (m_ZZ_gp h hL (w_le_refl _) g sf)
/-- the group of a commit that waits -/
def v_PG (v : v_M) : w_G := (v_pd v).elim (v_G v) (fun q => q.2)
/-- what compromise tells of a member -/
def v_cs (m : Nat) (v : v_M) : Wt → Prop := w_cs m (v_Lk v) (v_in v) (v_G v) (v_U v) (v_pd v ≠ none) (v_PG v)
theorem z_compromise (hm4 : mk.length ≤ 44999) (hb : tl.length < 44999) (hK : w_clo K) (h : m_ZZ I mk us nn K tl tp rd ms B) (q1 : ∀ J us', ¬ (0 ≤ x ∧ x < 24) → m_ZZ J mk us' nn K tl tp rd ms B → J 1000 0 = 1 → R 0 J) (q : ∀ (m : Nat) J us', x = m → m < 24 → m_ZZ J mk us' nn (w_un K (v_cs m (B m))) tl tp rd ms B → J 1000 0 = 0 → R (w_cnt (w_un K (v_cs m (B m))) tl) J) : rm_27 x I R := by
  obtain ⟨u0, hz⟩ := m_ZZ_th h 1
  have zm := h.2.2.2.2
  refine r_compromise (Lk := fun m => v_Lk (B m)) (Ga := fun m => v_G (B m)) (PGa := fun m => v_PG (B m)) (Ua := fun m => v_U (B m)) h.1.1 hK hm4 hb h.1.2.1 (fun m hm => (zm m hm).2.2.2.2.2) (fun m hm => m_zm_01 (zm m hm)) (fun m hm hi => ⟨(zm m hm).2.1 (by rw [m_zm_in (zm m hm)] at hi; exact hi), (zm m hm).2.2.2.2.1, fun hp => ?_⟩) (fun c => q1 _ u0 c hz (su_eq _ _ _ _)) (fun m J hx hm hL j0 f => ?_)
  · have hp := (zm m hm).2.2.1
    obtain ⟨o, eo⟩ : ∃ o, v_pd (B m) = o := ⟨_, rfl⟩
    unfold v_PG
    rw [eo] at hp ⊢
    cases o with
    | none =>
      have hp : I 28 m = 0 := hp
      omega
    | some q => exact hp.2.2
  · rw [m_zm_in (zm m hm), m_zm_pd (zm m hm)] at hL ⊢
    exact q m J us hx hm (m_ZZ_gp h hL (w_le_refl _) (m_fr_gp f) (fun f k q => by
      rcases q with ⟨_, a⟩ | ⟨a, b⟩
      · simp at a; unfold m_sf; omega
      · simp at b; unfold m_sf; omega)) j0
end
section
variable {H Z : sw_H} {nn nm m : Nat} {K K' : Wt → Prop} {tl tl' tp mk mm : List Wt} {rd : Nat → Int} {ms : List (List Wt)} {cn cs cn' cs' x y n N U M : Int} {A : List Nat} {B : Nat → v_M} {v : v_M} {P : Int → sw_H → Prop} {E : Nat → sw_H → Prop}
theorem c_ZZ_V (h : c_ZZ H mk nn K tl cn cs tp rd ms B) (hV : c_V Z mm nm K' tl' cn' cs') (c : c_ch A H Z) (hl : w_le mk mm) (hA : ∀ a ∈ A, a = 93) : c_ZZ Z mm nm K' tl' cn' cs' tp rd ms B := by
  have fl := h.1.1.1.2.2.2.1
  have ad := h.1.1.1.2.2.2.2
  have hW := c_W_chN h.1.1 hV c (fun a ha => by have := hA a ha; omega) hl
  have no : ∀ a, a ≠ 93 → a ∉ A := fun a hn cc => hn (hA a cc)
  obtain ⟨y1, y2, y3, y4, y5⟩ := h.2.1
  refine c_ZZ_ch h hW c hl ⟨c_Ch_ch y1 fl ad c (no _ (by omega)) (no _ (by omega)), c_Pa_ch y2 fl ad c (fun cc => absurd cc (no _ (by omega))), by rw [(c_fx_iv fl ad c (q := 91) (by unfold c_fix; omega) (no _ (by omega))).1]; exact y3, c_Ta_ch y4 fl ad c (fun cc => absurd cc (no _ (by omega))), c_Re_ch y5 fl ad c (fun a ha => by have := hA a ha; omega)⟩ (c_Out_ch h.2.2.2.1 fl ad c (no _ (by omega)) (no _ (by omega))) ((c_fx_iv fl ad c (q := 94) (by unfold c_fix; omega) (no _ (by omega))).2 6) (by rw [(c_fx_iv fl ad c (q := 18) (by unfold c_fix; omega) (no _ (by omega))).2]; exact h.2.2.1.2.2.1) (fun a ha => by have := hA a ha; unfold c_hl; omega)
theorem c_zm_in (h : c_zm H mk ms m v) : (sw_iv H (120 + 54 * m) 3 = 1) = v_in v := propext (by
  rcases h.1 with ⟨a, b⟩ | ⟨a, b⟩
  · exact ⟨fun _ => b, fun _ => a⟩
  · exact ⟨fun c => by omega, fun c => absurd c b⟩)
theorem c_zm_pd (h : c_zm H mk ms m v) : (sw_iv H (120 + 54 * m) 6 ≠ -1) = (v_pd v ≠ none) := propext (by
  have hp := h.2.2.1
  obtain ⟨o, eo⟩ : ∃ o, v_pd v = o := ⟨_, rfl⟩
  rw [eo] at hp ⊢
  cases o with
  | none => exact ⟨fun c => absurd hp c, fun c => absurd rfl c⟩
  | some q =>
    obtain ⟨⟨pn, p1, _⟩, _⟩ := hp
    exact ⟨fun _ => Option.some_ne_none _, fun _ => by omega⟩)
theorem x_member (lm : c_lm cn cs N U M) (bd : c_bl mk tl N U M) (h : c_ZZ H mk nn K tl cn cs tp rd ms B) (q0 : ¬ (0 ≤ x ∧ x < 24 ∧ 0 ≤ y ∧ y ≤ 12) → P (-1) H) (qv : ∀ (m : Nat) z, x = m → m < 24 → w_mv (v_in (B m)) (v_pd (B m) ≠ none) (v_La (B m)).length (v_U (B m)).length (v_Lk (B m)).length (v_G (B m)) y z → P z H) (qt : ∀ (m : Nat) w Y, x = m → m < 24 → v_in (B m) → w_mt (v_G (B m)) y w → c_ZZ Y mk nn K (w_tp tl w).2 cn cs tp rd ms B → c_ch [] H Y → P (w_tp tl w).1 Y) : wm_38 2 x y H P := by
  have zm := h.2.2.2.2.2.2
  refine c_member (PGa := fun m => v_G (B m)) (Lk := fun m => v_Lk (B m)) (Ga := fun m => v_G (B m)) (Ua := fun m => v_U (B m)) (Pa := fun m => v_La (B m)) lm bd h.1.1.1 h.1.2.1.1 h.1.2.2.1 (fun m hm => ⟨(zm m hm).2.2.2.2.2, (zm m hm).2.2.2.2.1, (h.1.2.2.2.1 m hm).2.1⟩) (fun m hm => ?_) q0 (fun m z hx hm hv => ?_) (fun m w Y hx hm hi hw hV c => ?_)
  · rcases (zm m hm).1 with ⟨a, b⟩ | ⟨a, b⟩
    · exact Or.inr ⟨a, (zm m hm).2.1 b⟩
    · exact Or.inl a
  · rw [c_zm_in (zm m hm), c_zm_pd (zm m hm)] at hv
    exact qv m z hx hm hv
  · rw [c_zm_in (zm m hm)] at hi
    exact qt m w Y hx hm hi hw (c_ZZ_V h hV c (w_le_refl _) (by simp)) c
theorem x_node (lm : c_lm cn cs N U M) (bd : c_bl mk tl N U M) (h : c_ZZ H mk nn K tl cn cs tp rd ms B) (q0 : (¬ ∃ m k : Nat, x = m ∧ m < 24 ∧ v_in (B m) ∧ n = k ∧ k < t_w (gg_T (v_G (B m)))) → P (-1) H) (qv : ∀ (m k : Nat) z Y, x = m → m < 24 → v_in (B m) → n = k → k < t_w (gg_T (v_G (B m))) → w_nv (v_G (B m)) k y z → c_ZZ Y mk nn K tl cn cs tp rd ms B → c_ch [93] H Y → P z Y) (qt : ∀ (m k : Nat) w Y, x = m → m < 24 → v_in (B m) → n = k → k < t_w (gg_T (v_G (B m))) → w_nt (v_G (B m)) k y w → c_ZZ Y mk nn K (w_tp tl w).2 cn cs tp rd ms B → c_ch [93] H Y → P (w_tp tl w).1 Y) : wm_40 2 x n y H P := by
  have zm := h.2.2.2.2.2.2
  have pl := h.2.2.2.2.2.1
  refine c_node (Ga := fun m => v_G (B m)) lm bd h.1.1.1 h.1.2.1.1 h.1.2.2.1 h.2.1.2.1 (fun m hm => ?_) (fun c => q0 (fun ⟨m, k, a1, a2, a3, a4⟩ => c ⟨m, k, a1, a2, by rw [c_zm_in (zm m a2)]; exact a3, a4⟩)) (fun m k z Y hx hm hi hk hk2 hv hV c => ?_) (fun m k w Y hx hm hi hk hk2 hv hV c => ?_)
  · rcases (zm m hm).1 with ⟨a, b⟩ | ⟨a, b⟩
    · exact Or.inr ⟨a, (c_PL_4 pl hm).1, (zm m hm).2.1 b⟩
    · exact Or.inl a
  · rw [c_zm_in (zm m hm)] at hi
    exact qv m k z Y hx hm hi hk hk2 hv (c_ZZ_V h hV c (w_le_refl _) (by simp)) c
  · rw [c_zm_in (zm m hm)] at hi
    exact qt m k w Y hx hm hi hk hk2 hv (c_ZZ_V h hV c (w_le_refl _) (by simp)) c
theorem x_compromise (hno : ∀ m, m < 24 → ¬ v_in (B m) → v_U (B m) = [] ∧ v_pd (B m) = none) (h : c_ZZ H mk nn K tl cn cs tp rd ms B) (rm : sw_n H < sxlim.1 ∧ sw_s H + 6 ≤ sxlim.2) (q1 : ¬ (0 ≤ x ∧ x < 24) → c_ZZ (sw_nw H 112 0 6) mk nn K tl (cn + 1) (cs + 6) tp rd ms B → c_ch [] H (sw_nw H 112 0 6) → E (sw_n H + 2) (sw_nw H 112 0 6)) (q : ∀ (m : Nat) X, x = m → m < 24 → c_ZZ X mk nn (w_un K (v_cs m (B m))) tl cn cs tp rd ms B → c_ch [] H X → P (w_cnt (w_un K (v_cs m (B m))) tl) X) : wm_116 2 x H P E := by
  have zm := h.2.2.2.2.2.2
  have pl := h.2.2.2.2.2.1
  have pg : ∀ m, m < 24 → sw_iv H (120 + 54 * m) 6 ≠ -1 → c_gp H mk (sw_rv H (120 + 54 * m) 5) (v_PG (B m)) := fun m hm hp => by
    have hq := (zm m hm).2.2.1
    obtain ⟨o, eo⟩ : ∃ o, v_pd (B m) = o := ⟨_, rfl⟩
    unfold v_PG
    rw [eo] at hq ⊢
    cases o with
    | none => exact absurd hq hp
    | some q => exact hq.2
  refine c_compromise (Lk := fun m => v_Lk (B m)) (Ga := fun m => v_G (B m)) (PGa := fun m => v_PG (B m)) (Ua := fun m => v_U (B m)) h.1.1.1 h.1.2.1.1 h.1.2.2.1 (fun m hm => (zm m hm).2.2.2.1) (fun m hm => (zm m hm).2.2.2.2.2) (fun m hm => (zm m hm).2.2.2.2.1) (fun m hm => ?_) rm (fun c => q1 c (c_ZZ_throw h 112) (c_I_throw (c_ZZ_I h) 112).2) (fun m X hx hm hV c => ?_)
  · rcases (zm m hm).1 with ⟨a, b⟩ | ⟨a, b⟩
    · exact Or.inr ⟨a, (c_PL_4 pl hm).1, (zm m hm).2.1 b, fun hp => ⟨(c_PL_5 pl hm).1, pg m hm hp⟩⟩
    · obtain ⟨u1, u2⟩ := hno m hm b
      have hq := (zm m hm).2.2.1
      rw [u2] at hq
      exact Or.inl ⟨a, u1, hq⟩
  · rw [c_zm_in (zm m hm), c_zm_pd (zm m hm)] at hV ⊢
    exact q m X hx hm (c_ZZ_V h hV c (w_le_refl _) (by simp)) c
end
end
