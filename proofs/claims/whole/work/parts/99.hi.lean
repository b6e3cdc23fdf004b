/-! ===== the reference: the shape of a path ===== -/
noncomputable section
variable {I I0 J X : sr_V} {nn us fr : Nat} {K K' : Wt → Prop} {tl mk : List Wt} {Q : Int → sr_V → Prop} {R : sr_V → Prop} {m mi l k d : Nat} {P : Nat → Nat → Prop} {T : w_T} {msk sd : Int} {ns : List p_N} {L : List w_Ch} {pt : Option p_P}
theorem t_wl_in (hc : t_cb T l k ≠ 0) (hk : k < d) : (t_wl T l d)[(t_wl T l k).length]? = some k := by
  obtain ⟨e, he⟩ := t_wl_pre (T := T) (l := l) (n := k + 1) (m := d) (by omega)
  rw [he, t_wl_1 hc, List.append_assoc, List.getElem?_append_right (Nat.le_refl _), Nat.sub_self]
  rfl
/-- as many nodes as count, with as many SEALED as are wanted -/
def d_sh (T : w_T) (msk : Int) (l : Nat) (ns : List p_N) : Prop := ns.length = (t_wl T l (t_dp T)).length ∧ ∀ (i k : Nat) (n : p_N), (t_wl T l (t_dp T))[i]? = some k → ns[i]? = some n → n.2.2.length = (w_rq T msk l k).length
def d_shp (T : w_T) (msk : Int) (l : Nat) (L : List w_Ch) : Option p_P → Prop
  | none => ¬ h_mp L
  | some (_, ns) => d_sh T msk l ns
theorem r_ct_4 (hw : m_wy I T l) (h4 : t_dp T ≤ 4) (q : Q ((t_wl T l (t_dp T)).length : Nat) I) : ∀ (n k : Nat), k ≤ t_dp T → t_dp T - k < n → rl_323_4 Q n ((t_wl T l k).length : Nat) k I
  | 0, _, _, h => by omega
  | n + 1, k, hk, hn => by
    have hl := t_wl_len (T := T) (l := l) k
    unfold rl_323_4
    intro v9 e9 _
    rw [hw.1] at e9
    refine ⟨fun c => ?_, fun c => ⟨by omega, by omega, ?_⟩⟩
    · rw [show k = t_dp T by omega]
      exact q
    · intro v12 e12 _
      rw [Int.toNat_natCast, (hw.2 k (by omega)).2.2] at e12
      have ih := r_ct_4 hw h4 q n (k + 1) (by omega) (by omega)
      refine ⟨fun c1 => ?_, fun c1 => ?_⟩
      · unfold rb_323_17
        intro y1 e1 y5 e5
        rw [sw_s1 (by omega)] at e5
        rw [Int.add_zero, sw_w_s (by omega) (by omega)] at e1
        rw [e1, e5]
        rw [t_wl_0 (by rw [← e12]; exact c1)] at ih
        exact ih
      · unfold rb_323_17
        intro y1 e1 y5 e5
        rw [sw_s1 (by omega)] at e5 e1
        rw [e1, e5]
        rw [t_wl_1 (by rw [← e12]; exact c1), List.length_append, List.length_singleton] at ih
        exact ih
theorem r_counting (hw : m_wy I T l) (h4 : t_dp T ≤ 4) (q : Q ((t_wl T l (t_dp T)).length : Nat) I) : rm_323 I Q := by
  unfold rm_323
  exact ⟨t_dp T + 1, r_ct_4 hw h4 q _ 0 (by omega) (by omega)⟩
theorem m_wy_prs (h : m_wy I T l) (g : m_gp m_prs I J) : m_wy J T l := ⟨by rw [g 1000 93 (by unfold m_prs; omega)]; exact h.1, fun j hj => by rw [g 90 j (by unfold m_prs; omega), g 91 j (by unfold m_prs; omega), g 94 j (by unfold m_prs; omega)]; exact h.2 j hj⟩
theorem m_pns_gp (h : m_pns I mk fr ns) (g : m_gp P I J) (p : ∀ f k, P f k → f ≠ 96 ∧ f ≠ 97 ∧ f ≠ 98 ∧ ¬ (f = 1000 ∧ k = 95)) : m_pns J mk fr ns := by
  have no : ∀ f k, f = 96 ∨ f = 97 ∨ f = 98 ∨ (f = 1000 ∧ k = 95) → J f k = I f k := fun f k hf => g f k (fun c => by have := p f k c; omega)
  refine ⟨by rw [no 1000 95 (by omega)]; exact h.1, fun j k s t hj => ?_⟩
  rw [no 96 j (by omega), no 97 j (by omega), no 98 j (by omega)]
  exact h.2 j k s t hj
theorem r_sh_26 (hl : l < 2 ^ t_dp T) (hr : ∀ k, k < t_dp T → ∀ y ∈ w_rs T k (t_si l k), y < 31) (hm : 0 ≤ msk ∧ msk < 65536) (hln : ns.length = (t_wl T l (t_dp T)).length) (q1 : ∀ J, d_sh T msk l ns → m_gp m_prs I0 J → Q 1 J) (q0 : ∀ J, ¬ d_sh T msk l ns → m_gp m_prs I0 J → Q 0 J) : ∀ (n k : Nat) {I : sr_V}, m_gp m_prs I0 I → m_wy I T l → m_pns I mk fr ns → m_tr I mk 48 T → I 1000 83 = msk → k ≤ t_dp T → t_dp T - k < n → (∀ (i j : Nat) (x : p_N), (t_wl T l k)[i]? = some j → ns[i]? = some x → x.2.2.length = (w_rq T msk l j).length) → rl_225_26 Q n ((t_wl T l k).length : Nat) k I
  | 0, _, _, _, _, _, _, _, _, h, _ => by omega
  | n + 1, k, I, gI, hw, hp, ht, h83, hk, hn, inv => by
    have h4 := ht.1.1
    have hlk := t_wl_len (T := T) (l := l) k
    unfold rl_225_26
    intro v5 e5 _
    rw [hw.1] at e5
    refine ⟨fun c => ?_, fun c => ⟨by omega, by omega, ?_⟩⟩
    · have ek : k = t_dp T := by omega
      rw [ek] at inv
      exact q1 I ⟨hln, inv⟩ gI
    · obtain ⟨_, w2, w3⟩ := hw.2 k (by omega)
      intro v8 e8 _
      rw [Int.toNat_natCast, w3] at e8
      refine ⟨fun c1 => ?_, fun c1 => ?_⟩
      · have hcb : t_cb T l k ≠ 0 := by rw [← e8]; exact c1
        have hin := t_wl_in (d := t_dp T) hcb (by omega)
        have hlt : (t_wl T l k).length < ns.length := by
          rw [hln]
          exact (List.getElem?_eq_some_iff.mp hin).1
        obtain ⟨⟨nk, s, t⟩, hnx⟩ : ∃ e, ns[(t_wl T l k).length]? = some e := ⟨_, List.getElem?_eq_getElem hlt⟩
        refine r_resolveSide (s := 48) (by decide) ht hl (by omega) w2 h83 hm (hr k (by omega)) (fun J hz gJ => ⟨by omega, by omega, ?_⟩)
        have gJ0 := m_gp_trans gI gJ
        have pJ := m_pns_gp hp gJ (fun f k p => by unfold m_prs at p; omega)
        intro v18 e18 _ v21 e21 _
        rw [Int.toNat_natCast, (pJ.2 _ nk s t hnx).2.2] at e18
        rw [hz.1] at e21
        refine ⟨fun c2 => ?_, fun c2 => q0 J (fun hd => c2 ?_) gJ0⟩
        · intro y24 e24
          rw [sw_s1 (by omega)] at e24
          unfold rb_225_50
          intro y1 e1
          rw [sw_s1 (by omega)] at e1
          have eq2 : t.length = (w_rq T msk l k).length := by omega
          have ih := r_sh_26 hl hr hm hln q1 q0 n (k + 1) gJ0 (m_wy_prs hw gJ) pJ (m_tr_gp ht gJ (fun f k p q => by unfold m_pl at p; unfold m_prs at q; omega)) (by rw [gJ 1000 83 (by unfold m_prs; omega)]; exact h83) (by omega) (by omega) (fun i j x hi hx => by
            rw [t_wl_1 hcb] at hi
            rcases Nat.lt_or_ge i (t_wl T l k).length with g | g
            · rw [List.getElem?_append_left g] at hi
              exact inv i j x hi hx
            · rw [List.getElem?_append_right g] at hi
              have g2 : i - (t_wl T l k).length = 0 := by
                have := (List.getElem?_eq_some_iff.mp hi).1
                rw [List.length_singleton] at this
                omega
              rw [g2] at hi
              have hi : k = j := Option.some.inj hi
              rw [show i = (t_wl T l k).length by omega, hnx] at hx
              have hx := Option.some.inj hx
              rw [← hx, ← hi]
              exact eq2)
          rw [t_wl_1 hcb, List.length_append, List.length_singleton] at ih
          rw [e1, e24]
          exact ih
        · have := hd.2 _ k _ hin hnx
          have this : t.length = (w_rq T msk l k).length := this
          omega
      · unfold rb_225_50
        intro y1 e1
        rw [sw_s1 (by omega)] at e1
        rw [e1]
        have hcb : t_cb T l k = 0 := by rw [← e8]; exact c1
        have ih := r_sh_26 hl hr hm hln q1 q0 n (k + 1) gI hw hp ht h83 (by omega) (by omega) (fun i j x hi hx => by
          rw [t_wl_0 hcb] at hi
          exact inv i j x hi hx)
        rw [t_wl_0 hcb] at ih
        exact ih
/-- what asking for the shape touches -/
def m_psh (f k : Nat) : Prop := m_pwy f k ∨ m_prs f k
theorem r_isShapeRight (hl : l < 2 ^ t_dp T) (ht : m_tr I mk 48 T) (hr : ∀ k, k < t_dp T → ∀ y ∈ w_rs T k (t_si l k), y < 31) (h83 : I 1000 83 = msk) (hm : 0 ≤ msk ∧ msk < 65536) (h101 : I 1000 101 = (l : Nat)) (hli : m_li I mk K L) (h100 : match pt with
  | none => I 1000 100 = 0
  | some (_, ns) => I 1000 100 = 1 ∧ m_pns I mk fr ns) (q1 : ∀ J, d_shp T msk l L pt → (pt ≠ none → m_wy J T l) → m_gp m_psh I J → Q 1 J) (q0 : ∀ J, ¬ d_shp T msk l L pt → m_gp m_psh I J → Q 0 J) : rm_225 I Q := by
  unfold rm_225
  intro v31 e31 _
  cases pt with
  | none =>
    have h100 : I 1000 100 = 0 := h100
    refine ⟨fun c => by omega, fun _ => r_mustHavePath hli (fun hp => ?_) (fun hp => ?_)⟩
    · intro _
      refine ⟨fun _ => q0 I (fun c => c hp) (m_gp_refl _ _), fun c => by omega⟩
    · intro _
      refine ⟨fun c => absurd rfl c, fun _ => q1 I hp (fun c => absurd rfl c) (m_gp_refl _ _)⟩
  | some p =>
    obtain ⟨f, ns⟩ := p
    obtain ⟨h100, hp⟩ : I 1000 100 = 1 ∧ m_pns I mk fr ns := h100
    refine ⟨fun _ => ?_, fun c => by omega⟩
    intro v34 e34 _
    rw [h101] at e34
    rw [e34]
    refine r_findWay (s := 48) (by decide) hl ht (fun J1 w1 g1 => ?_)
    have p1 := m_pns_gp hp g1 (fun f k p => by unfold m_pwy at p; omega)
    intro v44 e44 _
    rw [p1.1] at e44
    refine r_counting w1 ht.1.1 ?_
    intro _
    have g1' : m_gp m_psh I J1 := m_gp_sub g1 (fun f k p => Or.inl p)
    refine ⟨fun c => ⟨t_dp T + 1, ?_⟩, fun c => q0 J1 (fun hd => c ?_) g1'⟩
    · have up : ∀ {J}, m_gp m_prs J1 J → m_gp m_psh I J := fun {J} g => m_gp_trans g1' (m_gp_sub g (fun f k p => Or.inr p))
      exact r_sh_26 hl hr hm (by omega) (fun J hd g => q1 J hd (fun _ => m_wy_prs w1 g) (up g)) (fun J hd g => q0 J hd (up g)) _ 0 (m_gp_refl _ _) w1 p1 (m_tr_gp ht g1 (fun f k p q => by unfold m_pl at p; unfold m_pwy at q; omega)) (by rw [g1 1000 83 (by unfold m_pwy; omega)]; exact h83) (by omega) (by omega) (fun i j x hi => by cases hi)
    · have := hd.1
      omega
end
