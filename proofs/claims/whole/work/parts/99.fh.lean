/-! ===== the reference: putProposals ===== -/
noncomputable section
variable {I I0 J X : sr_V} {nn nm s u k h us : Nat} {K K' K2 : Wt → Prop} {tl tl' mk mm l0 l1 l2 lw : List Wt} {a b c y n m msk lf : Int} {Q : Int → sr_V → Prop} {R : sr_V → Prop} {x i e l : Nat} {P : Nat → Nat → Prop} {S : Wt → Prop} {w ls n0 : Wt} {L : List w_Ch} {d : w_Ch}
/-- the list stays where terms are made and text is written behind the messages -/
theorem m_li_up (h : m_li I mk K L) (hJ : m_L J mm nm K2 tl') (hl : w_le mk mm) (hu : I 1000 23 = (us : Nat)) (g : m_gp P I J) (hP : ∀ f k, P f k → (f = 26 → us ≤ k) ∧ f ≠ 16 ∧ ¬ (77 ≤ f ∧ f ≤ 82) ∧ ¬ (f = 1000 ∧ (k = 76 ∨ k = 23))) : m_li J mm K L := by
  have ef : ∀ f, (77 ≤ f ∧ f ≤ 82) → J f = I f := fun f hf => funext (fun k => g f k (fun c => (hP f k c).2.2.1 hf))
  have e16 : J 16 = I 16 := funext (fun k => g 16 k (fun c => (hP _ _ c).2.1 rfl))
  have e76 : J 1000 76 = I 1000 76 := g 1000 76 (fun c => (hP _ _ c).2.2.2 ⟨rfl, Or.inl rfl⟩)
  have e23 : J 1000 23 = I 1000 23 := g 1000 23 (fun c => (hP _ _ c).2.2.2 ⟨rfl, Or.inr rfl⟩)
  unfold m_li at h ⊢
  rw [e76, e23]
  refine ⟨h.1, h.2.1, h.2.2.1, fun k c hk => ?_⟩
  obtain ⟨⟨fr, l, i, e, s, t1, t2, t3, t4, t5⟩, r2, r3, r4, r5, r6, r7, r8⟩ := h.2.2.2 k c hk
  unfold m_le
  rw [e23, ef 77 (by omega), ef 78 (by omega), ef 79 (by omega), ef 80 (by omega), ef 81 (by omega), ef 82 (by omega)]
  rw [hu] at t2
  exact ⟨⟨fr, l, i, e, s, m_tk_up t1 hJ hl (fun j hj => g 26 _ (fun c => by have := (hP _ _ c).1 rfl; omega)) e16, by rw [hu]; exact t2, t3, t4, t5⟩, r2, r3, r4, r5, r6, w_le_az hl r7, r8⟩
theorem m_at_sl2 {n : Int} {d : Nat → Wt} {f : Nat → Int} {fr i j : Nat} {l : List Wt} (h : m_at n d f fr l) : m_at n d f (fr + i) (w_sli l i j) := by
  intro k w hk
  have hkl : k < j - i := by
    have h1 := (List.getElem?_eq_some_iff.mp hk).1
    unfold w_sli at h1
    rw [List.length_take] at h1
    omega
  rw [w_sli_at (by omega)] at hk
  have := h (i + k) w hk
  rw [Nat.add_assoc]
  exact this
def m_ppr (f k : Nat) : Prop := f = 55 ∨ (f = 1000 ∧ 56 ≤ k ∧ k ≤ 75)
theorem r_pr_11 (hll : L.length ≤ 40) (hh : ∀ c ∈ L, c.2.2 ≠ []) (bm : mk.length ≤ 44999) : ∀ (n k : Nat) {I : sr_V}, m_li I mk K L → m_L I mk nn K' tl → m_rr I mk (w_by 0 :: w_by 0 :: w_pps lf (L.take k)) → k ≤ L.length → L.length - k < n → (∀ J, m_L J mk nn K' tl → m_rr J mk (w_b16 ((w_pps lf L).length : Nat) ++ w_pps lf L) → m_gp m_ppr I J → rm_78 J R) → rl_98_11 R n lf k I
  | 0, _, _, _, _, _, _, h, _ => by omega
  | n + 1, k, I, hli, hL, hr, hk, hn, q => by
    have hok : ∀ c ∈ L, p_cok c.1 := fun c hc => by
      obtain ⟨j, hj⟩ := List.mem_iff_getElem?.mp hc
      exact (hli.2.2.2 j c hj).2.2.2.2.1
    have pl := w_pps_len (lf := lf) hok k hk
    unfold rl_98_11
    intro v47 e47 _
    rw [hli.1] at e47
    subst e47
    refine ⟨fun c => ?_, fun c => ?_⟩
    · have ek : k = L.length := by omega
      subst ek
      rw [List.take_length] at hr pl
      have ln := m_rr_len hr
      rw [List.length_cons, List.length_cons] at ln
      intro v50 e50 _ y53 e53
      rw [ln] at e50
      have e53' : y53 = ((w_pps lf L).length : Nat) := by rw [e53, e50, sw_w_s (by omega) (by omega)]; omega
      refine ⟨by decide, ?_⟩
      intro I58 e58
      refine ⟨by decide, ?_⟩
      intro I63 e63
      have r63 : m_rr I63 mk (w_b16 ((w_pps lf L).length : Nat) ++ w_pps lf L) := by
        rw [e63, e58]
        exact m_rr_fill hr e53' (by omega)
      have g63 : m_gp m_ppr I I63 := by
        rw [e63, e58]
        exact m_gp_trans (m_gp_sub (m_gp_su _ _ _ _) (fun f k p => Or.inl p.1)) (m_gp_sub (m_gp_su _ _ _ _) (fun f k p => Or.inl p.1))
      exact q I63 (m_L_gp hL g63 (fun f k p => by unfold m_ppr at p; omega)) r63 g63
    · obtain ⟨d, hd⟩ := h_get (L := L) (k := k) (by omega)
      have dm := List.mem_of_getElem? hd
      obtain ⟨_, e78, _, _, dok, dfl, e81, _⟩ := hli.2.2.2 k d hd
      have rl : (w_by 0 :: w_by 0 :: w_pps lf (L.take k)).length ≤ 600 := by rw [List.length_cons, List.length_cons]; omega
      have step : ∀ {J : sr_V}, m_li J mk K L → m_L J mk nn K' tl → m_rr J mk ((w_by 0 :: w_by 0 :: w_pps lf (L.take k)) ++ w_pp1 lf d) → m_gp m_ppr I J → rb_98_50 R (rl_98_11 R n) lf k J := fun {J} li LJ rJ gJ => by
        unfold rb_98_50
        intro y1 e1
        rw [sw_s1 (by omega)] at e1
        subst e1
        refine r_pr_11 hll hh bm n (k + 1) li LJ ?_ (by omega) (by omega) (fun Z LZ rZ gZ => q Z LZ rZ (m_gp_trans gJ gZ))
        rw [w_pps_s hd]
        exact rJ
      refine ⟨by omega, by omega, ?_⟩
      intro v74 e74 _
      rw [Int.toNat_natCast, e78] at e74
      subst e74
      refine ⟨fun c1 => ?_, fun c1 => ?_⟩
      · have ep : w_pp1 lf d = [w_by 1, d.2.2] := by unfold w_pp1; rw [if_neg c1]
        unfold rb_98_24
        refine ⟨fun _ => ?_, fun cc => absurd rfl cc⟩
        unfold rb_98_31
        refine r_b8 (x := 1) hr (by omega) (fun J rJ fJ => ?_)
        have gJ : m_gp m_ppr I J := m_gp_sub (m_fr_gp fJ) (fun f k p => by simp at p; unfold m_ppr; omega)
        refine ⟨fun cc => absurd rfl cc, fun _ => ⟨by omega, by omega, ?_⟩⟩
        intro v32 e32 _
        rw [Int.toNat_natCast, gJ 81 k (by unfold m_ppr; omega)] at e32
        have hw := w_az_at e81 (hh d dm)
        rw [← e32] at hw
        refine r_term rJ (by rw [List.length_append, List.length_singleton]; omega) bm hw (fun Z rZ fZ => ?_)
        have gZ : m_gp m_ppr I Z := m_gp_trans gJ (m_gp_sub (m_fr_gp fZ) (fun f k p => by simp at p; unfold m_ppr; omega))
        refine step (m_li_gp hli gZ (fun f k p => by unfold m_ppr at p; omega)) (m_L_gp hL gZ (fun f k p => by unfold m_ppr at p; omega)) ?_ gZ
        rw [ep]
        rw [List.append_assoc] at rZ
        exact rZ
      · have ep : w_pp1 lf d = w_by 2 :: w_ctw d.1 := by unfold w_pp1; rw [if_pos c1]
        unfold rb_98_24
        refine ⟨fun cc => absurd cc (by decide), fun _ => ?_⟩
        unfold rb_98_31
        refine r_b8 (x := 2) hr (by omega) (fun J rJ fJ => ?_)
        have gJ : m_gp m_ppr I J := m_gp_sub (m_fr_gp fJ) (fun f k p => by simp at p; unfold m_ppr; omega)
        refine ⟨fun _ => ?_, fun cc => absurd cc (by decide)⟩
        have liJ := m_li_gp hli gJ (fun f k p => by unfold m_ppr at p; omega)
        refine r_readL liJ hd (fun Y fr l i e s2 hx he hp hco h74 h57 fY => ?_)
        obtain ⟨cw, ci, cs⟩ := p_ct_w (m_tk_vl hx) he hp
        have gY : m_gp m_ppr I Y := m_gp_trans gJ (m_gp_sub (m_pd_F fY) (fun f k p => by unfold m_pd at p; unfold m_ppr; omega))
        intro v19 e19 _ v22 e22 _
        rw [h74] at e19
        rw [h57] at e22
        subst e19
        have sl : (w_sli l i s2.1).length = s2.1 - i := w_sli_len cs
        have hx2 := hx.2.1
        have cl := w_ctw_len dok
        rw [← cw, sl] at cl
        refine r_bText (m_rr_F rJ (fY.1 55 (by simp) (by decide)) (fY.2 56 (by simp [m_F1]))) (m_at_sl2 hx.1 (i := i) (j := s2.1)) (by rw [e22, sl]; omega) (by rw [sl]; omega) (by rw [sl, List.length_append, List.length_singleton]; omega) (fun Z rZ fZ => ?_)
        have gZ : m_gp m_ppr I Z := m_gp_trans gY (m_gp_sub (m_fr_gp fZ) (fun f k p => by simp at p; unfold m_ppr; omega))
        refine step (m_li_gp hli gZ (fun f k p => by unfold m_ppr at p; omega)) (m_L_gp hL gZ (fun f k p => by unfold m_ppr at p; omega)) ?_ gZ
        rw [ep]
        rw [cw, List.append_assoc] at rZ
        exact rZ
theorem r_putProposals (hll : L.length ≤ 40) (hh : ∀ c ∈ L, c.2.2 ≠ []) (bm : mk.length ≤ 44999) (hli : m_li I mk K L) (hL : m_L I mk nn K' tl) (ht : m_tx I mk us l0) (hl0 : l0.length ≤ 100) (q : ∀ J, m_L J mk nn K' tl → m_tx J mk us (l0 ++ (w_b16 ((w_pps lf L).length : Nat) ++ w_pps lf L)) → m_rr J mk [] → m_gp (fun f k => m_ppr f k ∨ m_pf us f k) I J → R J) : rm_98 lf I R := by
  have hok : ∀ c ∈ L, p_cok c.1 := fun c hc => by
    obtain ⟨j, hj⟩ := List.mem_iff_getElem?.mp hc
    exact (hli.2.2.2 j c hj).2.2.2.2.1
  have pl := w_pps_len (lf := lf) hok L.length (Nat.le_refl _)
  rw [List.take_length] at pl
  unfold rm_98
  intro I80 e80
  obtain ⟨L2, r2, f2⟩ := r_rs0 hL e80
  refine r_b8 (x := 0) r2 (by simp) (fun A rA fA => ?_)
  refine r_b8 (x := 0) rA (by simp) (fun B rB fB => ?_)
  have f3 := m_fr_trans f2 (m_fr_trans fA fB)
  have gB : m_gp m_ppr I B := m_gp_sub (m_fr_gp f3) (fun f k p => by simp at p; unfold m_ppr; omega)
  refine ⟨L.length + 1, r_pr_11 hll hh bm _ 0 (m_li_gp hli gB (fun f k p => by unfold m_ppr at p; omega)) (m_f0_L hL f3) (by simpa [w_pps] using rB) (by omega) (by omega) (fun J LJ rJ gJ => ?_)⟩
  have g2 := m_gp_trans gB gJ
  have e16 : (w_b16 ((w_pps lf L).length : Nat)).length = 2 := rfl
  refine r_flush rJ (m_tx_gp ht g2 (fun f k p => by unfold m_ppr at p; omega)) (by rw [List.length_append, e16]; omega) (fun Z tZ rZ gZ => ?_)
  exact q Z (m_L_pf LJ gZ) tZ rZ (m_gp_trans (m_gp_sub g2 (fun f k p => Or.inl p)) (m_gp_sub gZ (fun f k p => Or.inr p)))
end
