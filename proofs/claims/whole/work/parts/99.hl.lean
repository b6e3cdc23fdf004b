/-! ===== the reference: isKeyThere, spread ===== -/
noncomputable section
/-- some node has this key -/
def d_kt (T : w_T) (w : Wt) : Prop := ∃ x, x < t_w T ∧ t_ky T x = w
/-- of a path that was read: the key at a height, and where its SEALED begin -/
def d_kf (T : w_T) (l : Nat) (ns : List p_N) (k : Nat) : Wt := ((ns[(t_wl T l k).length]?).map (fun n => n.1)).getD (w_p5 [])
def d_pf (T : w_T) (l : Nat) (ns : List p_N) (k : Nat) : Nat := ((ns[(t_wl T l k).length]?).map (fun n => n.2.1)).getD 0
variable {I I0 I1 J X : sr_V} {nn us fr : Nat} {K K' : Wt → Prop} {tl mk : List Wt} {Q : Int → sr_V → Prop} {R : sr_V → Prop} {m mi l k d s : Nat} {P : Nat → Nat → Prop} {T : w_T} {ns : List p_N} {w : Wt} {x2 : Int}
theorem r_kt_2 (hs : s < 49) (hL : m_L I mk nn K tl) (hT : m_tr I mk s T) (hw : w_at mk x2 w) (q1 : d_kt T w → Q 1 I) (q0 : ¬ d_kt T w → Q 0 I) : ∀ (n k : Nat), k ≤ t_w T → t_w T - k < n → (∀ x, x < k → t_ky T x ≠ w) → rl_324_2 Q n s x2 k I
  | 0, _, _, h, _ => by omega
  | n + 1, k, hk, hn, inv => by
    have h4 := hT.1.1
    have w31 := t_w_4 h4
    unfold rl_324_2
    refine r_width hs hT.2.1 h4 ?_
    intro _
    refine ⟨fun c => q0 (fun ⟨x, x1, x2⟩ => ?_), fun c => ?_⟩
    · unfold t_w at x1
      exact inv x (by omega) x2
    have c : k < t_w T := by unfold t_w; omega
    have next : t_ky T k ≠ w → rb_324_23 Q (rl_324_2 Q n) s x2 k I := fun h => by
      unfold rb_324_23
      intro y1 e1
      rw [sw_s1 (by omega)] at e1
      rw [e1]
      refine r_kt_2 hs hL hT hw q1 q0 n (k + 1) (by omega) (by omega) (fun x hx => ?_)
      by_cases e : x = k
      · rw [e]; exact h
      · exact inv x (by omega)
    refine r_isBlankT hs hT c (fun hb _ => ⟨fun _ => next (by rw [hb]; exact (w_at_ne hL hw).symm), fun c => absurd c (by decide)⟩) (fun hb _ => ⟨fun c => absurd rfl c, fun _ => ?_⟩)
    refine r_spot hs (x := k) (by omega) ?_
    intro _
    refine ⟨by omega, by omega, ?_⟩
    intro v26 e26 _
    rw [Int.toNat_natCast] at e26
    have a := w_az_ne (hT.2.2.1 k c).2.1 hb
    rw [← e26] at a
    refine ⟨fun c1 => next (fun e => c1 ?_), fun c1 => q1 ⟨k, c, ?_⟩⟩
    · rw [e] at a
      exact w_at_inj (m_L_nd hL) a hw
    · rw [c1] at a
      exact w_at_fun a hw
theorem r_isKeyThere (hs : s < 49) (hL : m_L I mk nn K tl) (hT : m_tr I mk s T) (hw : w_at mk x2 w) (q1 : d_kt T w → Q 1 I) (q0 : ¬ d_kt T w → Q 0 I) : rm_324 s x2 I Q := by
  unfold rm_324
  exact ⟨t_w T + 1, r_kt_2 hs hL hT hw q1 q0 _ 0 (by omega) (by omega) (fun x hx => absurd hx (Nat.not_lt_zero _))⟩
def m_psp (f k : Nat) : Prop := f = 96 ∨ f = 97
theorem m_wy_psp (h : m_wy I T l) (g : m_gp m_psp I J) : m_wy J T l := ⟨by rw [g 1000 93 (by unfold m_psp; omega)]; exact h.1, fun j hj => by rw [g 90 j (by unfold m_psp; omega), g 91 j (by unfold m_psp; omega), g 94 j (by unfold m_psp; omega)]; exact h.2 j hj⟩
theorem r_sp_41 (hw : m_wy I0 T l) (h4 : t_dp T ≤ 4) (q : ∀ J, (∀ f j, f = 96 ∨ f = 97 → j < t_dp T → J f j = I0 f (j + 600)) → m_gp m_psp I0 J → R J) : ∀ (n k : Nat) {I : sr_V}, m_gp m_psp I0 I → (∀ f j, f = 96 ∨ f = 97 → j < k → I f j = I0 f (j + 600)) → (∀ f j, f = 96 ∨ f = 97 → 600 ≤ j → I f j = I0 f j) → k ≤ t_dp T → t_dp T - k < n → rl_325_41 R n k I
  | 0, _, _, _, _, _, _, h => by omega
  | n + 1, k, I, gI, h1, h2, hk, hn => by
    have w := m_wy_psp hw gI
    unfold rl_325_41
    intro v1 e1 _
    rw [w.1] at e1
    refine ⟨fun c => q I (fun f j hf hj => h1 f j hf (by omega)) gI, fun c => ?_⟩
    have e6 : sw_w ((k : Int) + 600) = ((k + 600 : Nat) : Int) := by rw [sw_w_s (by omega) (by omega)]; omega
    rw [e6]
    clear e6
    refine ⟨by omega, by omega, ?_⟩
    intro v4 e4 _
    refine ⟨by omega, by omega, ?_⟩
    intro I8 e8
    refine ⟨by omega, by omega, ?_⟩
    intro v12 e12 _
    refine ⟨by omega, by omega, ?_⟩
    intro I16 e16
    intro y20 e20
    rw [sw_s1 (by omega)] at e20
    rw [e20]
    rw [Int.toNat_natCast] at e4 e8 e12 e16
    rw [h2 96 _ (by omega) (by omega)] at e4
    rw [e8, su_f (by decide), h2 97 _ (by omega) (by omega)] at e12
    have gz : m_gp (fun f j => (f = 96 ∨ f = 97) ∧ j = k) I I16 := by
      rw [e16, e8]
      exact m_gp_trans (m_gp_sub (m_gp_su _ _ _ _) (fun f j p => by omega)) (m_gp_sub (m_gp_su _ _ _ _) (fun f j p => by omega))
    have x96 : I16 96 k = v4 := by rw [e16, e8]; simp [su_at]
    have x97 : I16 97 k = v12 := by rw [e16]; simp [su_at]
    clear e8 e16
    refine r_sp_41 hw h4 q n (k + 1) (m_gp_trans gI (m_gp_sub gz (fun f j p => p.1))) (fun f j hf hj => ?_) (fun f j hf hj => ?_) (by omega) (by omega)
    · by_cases e : j = k
      · subst e
        rcases hf with hf | hf
        · rw [hf, x96, e4]
        · rw [hf, x97, e12]
      · rw [gz f j (by omega)]
        exact h1 f j hf (by omega)
    · rw [gz f j (by omega)]
      exact h2 f j hf hj
theorem r_sp_8 (hw : m_wy I0 T l) (h4 : t_dp T ≤ 4) (q : ∀ J, (∀ f j, f = 96 ∨ f = 97 → j < t_dp T → t_cb T l j ≠ 0 → J f j = I0 f (t_wl T l j).length) → m_gp m_psp I0 J → R J) : ∀ (n k : Nat) {I : sr_V}, m_gp m_psp I0 I → (∀ f j, f = 96 ∨ f = 97 → k ≤ j → j < t_dp T → t_cb T l j ≠ 0 → I f (j + 600) = I0 f (t_wl T l j).length) → (∀ f j, f = 96 ∨ f = 97 → j < 600 → I f j = I0 f j) → k ≤ t_dp T → k < n → rl_325_8 R n ((t_wl T l k).length : Nat) ((k : Int) - 1) I
  | 0, _, _, _, _, _, _, h => by omega
  | n + 1, k, I, gI, h1, h2, hk, hn => by
    have w := m_wy_psp hw gI
    have hl := t_wl_len (T := T) (l := l) k
    unfold rl_325_8
    refine ⟨fun c => ?_, fun c => ?_⟩
    · have k0 : k = 0 := by omega
      refine ⟨t_dp T + 1, r_sp_41 w h4 (fun J hJ gJ => q J (fun f j hf hj hc => ?_) (m_gp_trans gI gJ)) _ 0 (m_gp_refl _ _) (fun f j _ hj => absurd hj (Nat.not_lt_zero _)) (fun _ _ _ _ => rfl) (by omega) (by omega)⟩
      rw [hJ f j hf hj]
      exact h1 f j hf (by omega) hj hc
    · obtain ⟨j, ej⟩ : ∃ j, k = j + 1 := ⟨k - 1, by omega⟩
      subst ej
      have ek : ((j + 1 : Nat) : Int) - 1 = (j : Nat) := by omega
      rw [ek]
      refine ⟨by omega, by omega, ?_⟩
      intro v32 e32 _
      rw [Int.toNat_natCast, (w.2 j (by omega)).2.2] at e32
      have next : ∀ {A : sr_V}, m_gp m_psp I0 A → (∀ f i, f = 96 ∨ f = 97 → j ≤ i → i < t_dp T → t_cb T l i ≠ 0 → A f (i + 600) = I0 f (t_wl T l i).length) → (∀ f i, f = 96 ∨ f = 97 → i < 600 → A f i = I0 f i) → rb_325_37 R (rl_325_8 R n) ((t_wl T l j).length : Nat) (j : Nat) A := fun {A} gA a1 a2 => by
        unfold rb_325_37
        intro y25 e25
        rw [sw_w_s (by omega) (by omega)] at e25
        rw [e25]
        exact r_sp_8 hw h4 q n j gA a1 a2 (by omega) (by omega)
      refine ⟨fun c1 => ?_, fun c1 => ?_⟩
      · have hcb : t_cb T l j ≠ 0 := by rw [← e32]; exact c1
        have lj := t_wl_len (T := T) (l := l) j
        rw [t_wl_1 hcb, List.length_append, List.length_singleton]
        intro y35 e35
        have ey : y35 = ((t_wl T l j).length : Nat) := by rw [e35, sw_w_s (by omega) (by omega)]; omega
        clear e35
        subst ey
        have e6 : sw_w ((j : Int) + 600) = ((j + 600 : Nat) : Int) := by rw [sw_w_s (by omega) (by omega)]; omega
        rw [e6]
        clear e6
        refine ⟨by omega, by omega, ?_⟩
        intro v39 e39 _
        refine ⟨by omega, by omega, ?_⟩
        intro I43 e43
        refine ⟨by omega, by omega, ?_⟩
        intro v47 e47 _
        refine ⟨by omega, by omega, ?_⟩
        intro I51 e51
        rw [Int.toNat_natCast] at e39 e43 e47 e51
        rw [h2 96 _ (by omega) (by omega)] at e39
        rw [e43, su_f (by decide), h2 97 _ (by omega) (by omega)] at e47
        have gz : m_gp (fun f i => (f = 96 ∨ f = 97) ∧ i = j + 600) I I51 := by
          rw [e51, e43]
          exact m_gp_trans (m_gp_sub (m_gp_su _ _ _ _) (fun f j p => by omega)) (m_gp_sub (m_gp_su _ _ _ _) (fun f j p => by omega))
        have x96 : I51 96 (j + 600) = v39 := by rw [e51, e43]; simp [su_at]
        have x97 : I51 97 (j + 600) = v47 := by rw [e51]; simp [su_at]
        clear e43 e51
        refine next (m_gp_trans gI (m_gp_sub gz (fun f j p => p.1))) (fun f i hf hi hi2 hc => ?_) (fun f i hf hi => ?_)
        · by_cases e : i = j
          · subst e
            rcases hf with hf | hf
            · rw [hf, x96, e39]
            · rw [hf, x97, e47]
          · rw [gz f _ (by omega)]
            exact h1 f i hf (by omega) hi2 hc
        · rw [gz f i (by omega)]
          exact h2 f i hf hi
      · have hcb : t_cb T l j = 0 := by rw [← e32]; exact c1
        rw [t_wl_0 hcb]
        refine next gI (fun f i hf hi hi2 hc => ?_) h2
        refine h1 f i hf ?_ hi2 hc
        have : i ≠ j := fun e => hc (by rw [e]; exact hcb)
        omega
/-- what the reference has of a path, height by height -/
def m_pk6 (I : sr_V) (mk : List Wt) (fr : Nat) (T : w_T) (l : Nat) (ns : List p_N) : Prop := ∀ j, j < t_dp T → t_cb T l j ≠ 0 → w_at mk (I 96 j) (d_kf T l ns j) ∧ I 97 j = ((fr + d_pf T l ns j : Nat) : Int)
theorem r_spread (hw : m_wy I T l) (h4 : t_dp T ≤ 4) (hp : m_pns I mk fr ns) (hln : ns.length = (t_wl T l (t_dp T)).length) (q : ∀ J, m_pk6 J mk fr T l ns → m_gp m_psp I J → R J) : rm_325 I R := by
  unfold rm_325
  intro v57 e57 _ v63 e63 _
  rw [hp.1, hln] at e57
  rw [hw.1] at e63
  intro y66 e66
  rw [e63, sw_w_s (by omega) (by omega)] at e66
  rw [e57, e66]
  refine ⟨t_dp T + 1, r_sp_8 hw h4 (fun J hJ gJ => q J (fun j hj hc => ?_) gJ) _ (t_dp T) (m_gp_refl _ _) (fun f j _ hj hj2 => by omega) (fun _ _ _ _ => rfl) (Nat.le_refl _) (by omega)⟩
  have hin := t_wl_in (d := t_dp T) hc hj
  have hlt : (t_wl T l j).length < ns.length := by
    rw [hln]
    exact (List.getElem?_eq_some_iff.mp hin).1
  obtain ⟨⟨nk, s, t⟩, hnx⟩ : ∃ e, ns[(t_wl T l j).length]? = some e := ⟨_, List.getElem?_eq_getElem hlt⟩
  obtain ⟨a1, a2, _⟩ := hp.2 _ nk s t hnx
  rw [hJ 96 j (by omega) hj hc, hJ 97 j (by omega) hj hc]
  unfold d_kf d_pf
  rw [hnx]
  exact ⟨a1, a2⟩
end
