/-! ===== the reference: what is written, as one ===== -/
noncomputable section
variable {I J Z : sr_V} {nn nm fr us : Nat} {K K' : Wt → Prop} {tl tl' mk mm l l1 l2 cx L1 L2 : List Wt} {ms : List (List Wt)} {a b x y n : Int} {Q : Int → sr_V → Prop} {R : sr_V → Prop} {w g p k ph ik : Wt} {G : w_G} {P : Nat → Nat → Prop} {s m : Nat}
/-- what writing a message touches -/
def m_pw (us : Nat) (f k : Nat) : Prop := m_p2 f k ∨ (f = 26 ∧ us ≤ k) ∨ f = 108 ∨ (f = 1000 ∧ (k = 109 ∨ k = 110))
theorem m_pw_2 {f k : Nat} (h : m_p2 f k) : m_pw us f k := Or.inl h
theorem m_pw_f {f k : Nat} (h : m_pf us f k) : m_pw us f k := by
  unfold m_pf at h
  rcases h with h | h | ⟨h1, h | h⟩
  · exact Or.inr (Or.inl h)
  · exact Or.inl (by unfold m_p2; omega)
  · exact Or.inl (by unfold m_p2; omega)
  · exact Or.inr (Or.inr (Or.inr ⟨h1, Or.inr h⟩))
theorem m_pw_n {f k : Nat} (h : (18 ≤ f ∧ f ≤ 54 ∧ f ≠ 26) ∨ f = 16 ∨ (56 ≤ f ∧ f ≤ 86) ∨ (88 ≤ f ∧ f ≤ 107) ∨ (f = 1000 ∧ (k = 0 ∨ k = 22 ∨ k = 23 ∨ (57 ≤ k ∧ k ≤ 108)))) : ¬ m_pw us f k := by
  unfold m_pw m_p2
  intro c
  rcases c with c | c | c | c <;> omega
theorem m_gp_2w (h : m_gp m_p2 I J) : m_gp (m_pw us) I J := m_gp_sub h (fun _ _ p => m_pw_2 p)
theorem m_gp_fw (h : m_gp (m_pf us) I J) : m_gp (m_pw us) I J := m_gp_sub h (fun _ _ p => m_pw_f p)
theorem m_st_pw (h : m_st I mk s G) (f : m_gp (m_pw us) I J) (hl : w_le mk mm) : m_st J mm s G := m_st_le (m_st_gp h f (fun f k h c => m_pw_n (by unfold m_pl at h; omega) c)) hl
/-- terms, members, messages, and where the next message begins -/
def m_wr (I : sr_V) (mk : List Wt) (nn : Nat) (K : Wt → Prop) (tl : List Wt) (ms : List (List Wt)) (us : Nat) : Prop := m_L I mk nn K tl ∧ m_me I mk ∧ m_M I (w_d mk) ms ∧ I 1000 23 = us
theorem m_wr_us (h : m_wr I mk nn K tl ms us) : us ≤ 360000 := by
  have := h.2.2.1.2.1
  have := h.2.2.1.2.2.2.1
  have := h.2.2.2
  omega
theorem m_wr_pw (h : m_wr I mk nn K tl ms us) (hJ : m_L J mm nm K' tl') (hl : w_le mk mm) (f : m_gp (m_pw us) I J) : m_wr J mm nm K' tl' ms us := by
  obtain ⟨hL, hM, hMs, hu⟩ := h
  have sa : ∀ f' k, ((18 ≤ f' ∧ f' ≤ 54 ∧ f' ≠ 26) ∨ (f' = 1000 ∧ (k = 22 ∨ k = 23))) → J f' k = I f' k := fun f' k h => f f' k (m_pw_n (by omega))
  refine ⟨hJ, m_me_le (m_me_gp hM (P := m_pw us) f (fun f k p => ?_)) hl, ?_, by rw [sa 1000 23 (by omega)]; exact hu⟩
  · refine ⟨fun c => m_pw_n (us := us) (f := f) (k := k) (by omega) p, fun c => m_pw_n (us := us) (f := f) (k := k) (by omega) p⟩
  · obtain ⟨m1, m2, m3, m4, m5⟩ := hMs
    refine ⟨by rw [sa 1000 22 (by omega)]; exact m1, m2, by rw [sa 1000 23 (by omega)]; exact m3, by rw [sa 1000 23 (by omega)]; exact m4, fun i l hi => ?_⟩
    obtain ⟨a1, a2, a3, a4, a5⟩ := m5 i l hi
    rw [sa 24 i (by omega), sa 25 i (by omega), sa 1000 23 (by omega)]
    refine ⟨a1, a2, a3, a4, ?_⟩
    rw [hJ.2.2.2.1]
    rw [hL.2.2.2.1] at a5
    refine m_at_cg (m_at_le a5 hl) (fun k hk => f 26 _ (fun c => ?_))
    unfold m_pw m_p2 at c
    rcases c with c | c | c | c <;> omega
/-- a number is set that writing sets -/
theorem m_wr_su {f : Nat} {z : Int} (h : m_wr I mk nn K tl ms us) (e : J = su I 1000 f z) (hf : f = 109 ∨ f = 110) : m_wr J mk nn K tl ms us ∧ m_gp (m_pw us) I J := by
  have g0 := m_gp_su I 1000 f z
  rw [← e] at g0
  have g1 : m_gp (m_pw us) I J := m_gp_sub g0 (fun f' k p => Or.inr (Or.inr (Or.inr ⟨p.1, by omega⟩)))
  exact ⟨m_wr_pw h (m_L_gp h.1 g0 (fun f' k p => by omega)) (w_le_refl _) g1, g1⟩
theorem m_tx_pw (h : m_tx I mk us l) (hl : w_le mk mm) (f : m_gp m_p2 I J) : m_tx J mm us l := m_tx_le (m_tx_p2 h f) hl
theorem m_tx_0 (h : m_wr I mk nn K tl ms us) (e : I 1000 110 = us) : m_tx I mk us [] := ⟨h.2.2.2, by rw [e]; simp, fun k w hk => by simp at hk, m_wr_us h⟩
theorem m_cx_pf (h : m_cx I mk cx) (f : m_gp (m_pf us) I J) : m_cx J mk cx := m_cx_gp h f (fun f k p => by unfold m_pf at p; omega)
theorem m_cx_p2 (h : m_cx I mk cx) (f : m_gp m_p2 I J) (hl : w_le mk mm) : m_cx J mm cx := m_cx_le (m_cx_gp h f (fun f k p => by unfold m_p2 at p; omega)) hl
theorem r_kc_l (hcx : cx.length ≤ 8) {I0 : sr_V} (q : ∀ J, m_at mk.length (w_d mk) (J 108) 0 cx → m_gp (fun f k => f = 108 ∨ (f = 1000 ∧ k = 56)) I0 J → J 1000 56 = 0 → R J) : ∀ (n k : Nat) {I : sr_V}, m_rr I mk cx → k ≤ cx.length → cx.length - k < n → (∀ i, i < k → I 108 i = I 55 i) → m_gp (fun f k => f = 108) I0 I → rl_85_9 R n k I
  | 0, _, _, _, _, h, _, _ => by omega
  | n + 1, k, I, rr, hk, hn, inv, fr => by
    have rl := m_rr_len rr
    unfold rl_85_9
    intro v1 e1 _
    rw [rl] at e1
    refine ⟨fun c => ?_, fun c => ⟨by omega, by omega, ?_⟩⟩
    · intro I5 e5
      have ek : k = cx.length := by omega
      refine q I5 (fun i w hi => ?_) ?_ (by rw [e5, su_eq])
      · have hlt := (List.getElem?_eq_some_iff.mp hi).1
        rw [Nat.zero_add, e5, su_f (by decide), inv i (by omega)]
        obtain ⟨h0, h1, h2⟩ := rr
        have := m_row_at (I := I) (k := i) (by omega)
        have hm : ((m_row I).map (w_sg (w_d mk)))[i]? = some w := by rw [h2]; exact hi
        rw [List.getElem?_map, this] at hm
        exact ⟨h1 _ (List.mem_of_getElem? this), Option.some.inj hm⟩
      · refine m_gp_trans (m_gp_sub fr (fun f k p => Or.inl p)) ?_
        rw [e5]
        exact m_gp_sub (m_gp_su I 1000 56 0) (fun f k p => Or.inr p)
    · intro v9 e9 _
      refine ⟨by omega, by omega, ?_⟩
      intro I13 e13 y17 e17
      rw [Int.toNat_natCast] at e9 e13
      rw [e17, sw_w_s (by omega) (by omega), show (k : Int) + 1 = ((k + 1 : Nat) : Int) by omega]
      have r13 : m_rr I13 mk cx := by
        obtain ⟨h0, h1, h2⟩ := rr
        have e56 : I13 1000 56 = I 1000 56 := by rw [e13, su_f (by decide)]
        have er : m_row I13 = m_row I := by
          unfold m_row
          rw [e56, e13, su_f (by decide)]
        exact ⟨by rw [e56]; exact h0, by rw [er]; exact h1, by rw [er]; exact h2⟩
      refine r_kc_l hcx q n (k + 1) r13 (by omega) (by omega) (fun i hi => ?_) ?_
      · rw [e13, su_f (f := 108) (g := 55) (by decide)]
        by_cases ci : i = k
        · rw [ci, su_eq, e9]
        · rw [su_k ci]; exact inv i (by omega)
      · refine m_gp_trans fr ?_
        rw [e13]
        exact m_gp_sub (m_gp_su I 108 k v9) (fun f k p => p.1)
theorem r_keepContext (hs : s < 49) (hw : m_wr I mk nn K tl ms us) (hst : m_st I mk s G) (bd : m_bd mk) (q : ∀ J, m_wr J mk nn K tl ms us → m_cx J mk (w_cx G) → m_rr J mk [] → m_gp (m_pw us) I J → R J) : rm_85 s I R := by
  have hL := hw.1
  obtain ⟨g1, g2, g3, g4, g5, g6, _⟩ := id hst
  have hmk := m_st_mkh hst
  unfold rm_85
  refine r_rowContext hs hL g4 g1.1 g2 g6 (by rw [hmk]; exact bd) (fun J1 L1 r1 f1 => ?_)
  rw [hmk] at L1 r1
  have w1 := m_wr_pw hw L1 (w_le_refl _) (m_gp_2w (m_f2_gp f1))
  have rl := m_rr_len r1
  intro v29 e29 _ I33 e33
  obtain ⟨w2, gp2⟩ := m_wr_su w1 e33 (Or.inl rfl)
  have r2 : m_rr I33 mk (w_cx G) := by
    obtain ⟨h0, h1, h2⟩ := r1
    have e56 : I33 1000 56 = J1 1000 56 := by rw [e33, su_k (by decide)]
    have er : m_row I33 = m_row J1 := by
      unfold m_row
      rw [e56, e33, su_f (by decide)]
    exact ⟨by rw [e56]; exact h0, by rw [er]; exact h1, by rw [er]; exact h2⟩
  refine ⟨7, ?_⟩
  refine r_kc_l (I0 := I33) (cx := w_cx G) (mk := mk) (by rw [w_cx_len]; omega) (fun J2 a2 f2 e2 => ?_) 7 0 r2 (by omega) (by rw [w_cx_len]; omega) (fun i hi => by omega) (m_gp_refl _ _)
  have gpw : m_gp (m_pw us) I33 J2 := m_gp_sub f2 (fun f k p => by
    rcases p with p | p
    · exact Or.inr (Or.inr (Or.inl p))
    · exact Or.inl (by unfold m_p2; omega))
  have L2 : m_L J2 mk nn K tl := m_L_gp w2.1 f2 (fun f k p => by omega)
  refine q J2 (m_wr_pw w2 L2 (w_le_refl _) gpw) ⟨?_, by rw [w_cx_len]; omega, a2⟩ (m_rr_0 e2) (m_gp_trans (m_gp_2w (m_f2_gp f1)) (m_gp_trans gp2 gpw))
  rw [f2 1000 109 (by omega), e33, su_eq, e29, rl]
  rfl
theorem r_membership (hs : s < 49) (hL : m_L I mk nn K tl) (hst : m_st I mk s G) (bd : m_bd (w_tl mk (w_mem G))) (q : ∀ t J, m_L J (w_tl mk (w_mem G)) nn K tl → w_at (w_tl mk (w_mem G)) t (w_mem G) → m_f1 I J → Q t J) : rm_89 s I Q := by
  have h34 := hst.2.2.2.2.2.2.1
  unfold rm_89
  refine ⟨by omega, by omega, ?_⟩
  intro v1 e1 _
  rw [Int.toNat_natCast] at e1
  rw [e1]
  exact r_derived (b := 3) hL h34 (by decide) (by decide) bd (fun t J LJ fJ _ aJ _ => q t J LJ aJ fJ)
/-- proposals kept, with one more if it is another one -/
def w_kp (L : List (Wt × Nat)) (h : Wt) (n : Nat) : List (Wt × Nat) := if h ∈ L.map Prod.fst then L else L ++ [(h, n)]
theorem w_i8160 {m n : Nat} (hm : m < 24) (hn : n < 340) : sw_w ((sw_w (340 * (m : Int))) + (n : Int)) = ((340 * m + n : Nat) : Int) ∧ ((340 * m + n : Nat) : Int) < 8160 := by
  rw [sw_w_s (z := 340 * (m : Int)) (by omega) (by omega), sw_w_s (by omega) (by omega)]
  omega
def m_kq (m : Nat) (f k : Nat) : Prop := (f = 46 ∧ k = m) ∨ ((f = 51 ∨ f = 52) ∧ 340 * m ≤ k ∧ k < 340 * m + 340)
theorem r_kp_l {L : List (Wt × Nat)} {n : Nat} {h : Wt} {x2 : Int} {pm : List Wt} (hm : m < 24) (nd : mk.Nodup) (hP : m_pp I mk ms m L) (hx : w_at mk x2 h) (h3 : L.length < 340) (hn : ms[n]? = some pm) (eh : h = w_t 1 [] [] [] pm) (q : ∀ J, m_pp J mk ms m (w_kp L h n) → m_gp (m_kq m) I J → R J) : ∀ (f k : Nat), k ≤ L.length → L.length - k < f → (∀ i e, i < k → L[i]? = some e → e.1 ≠ h) → rl_92_2 R f m x2 n k I
  | 0, _, _, h, _ => by omega
  | f + 1, k, hk, hf, inv => by
    obtain ⟨p1, p2, p3⟩ := hP
    unfold rl_92_2
    refine ⟨by omega, by omega, ?_⟩
    intro v1 e1 _
    rw [Int.toNat_natCast, p1] at e1
    refine ⟨fun c => ?_, fun c => ?_⟩
    · have ek : k = L.length := by omega
      have hno : h ∉ L.map Prod.fst := fun c => by
        rw [List.mem_map] at c
        obtain ⟨e, he, ee⟩ := c
        obtain ⟨i, hi⟩ := List.getElem?_of_mem he
        exact inv i e (by have := (List.getElem?_eq_some_iff.mp hi).1; omega) hi ee
      obtain ⟨i1, i2⟩ := w_i8160 hm h3
      refine ⟨by omega, by omega, ?_⟩
      intro v4 e4 _
      rw [Int.toNat_natCast, p1] at e4
      rw [e4, i1]
      refine ⟨by omega, i2, ?_⟩
      intro I8 e8
      refine ⟨by omega, by omega, ?_⟩
      intro v12 e12 _
      rw [e8, su_f (by decide), Int.toNat_natCast, p1] at e12
      rw [e12, i1]
      refine ⟨by omega, i2, ?_⟩
      intro I16 e16
      refine ⟨by omega, by omega, ?_⟩
      intro v20 e20 _
      rw [e16, su_f (by decide), e8, su_f (by decide), Int.toNat_natCast, p1] at e20
      refine ⟨by omega, by omega, ?_⟩
      intro I24 e24
      rw [Int.toNat_natCast] at e8 e16 e24
      rw [e20, sw_w_s (by omega) (by omega)] at e24
      have gz : m_gp (fun f k => ((f = 51 ∨ f = 52) ∧ k = 340 * m + L.length) ∨ (f = 46 ∧ k = m)) I I24 := by
        intro f k hp
        rw [e24, e16, e8]
        simp only [su_at]
        rw [if_neg (by omega), if_neg (by omega), if_neg (by omega)]
      have x51 : I24 51 (340 * m + L.length) = x2 := by rw [e24, e16, e8]; simp [su_at]
      have x52 : I24 52 (340 * m + L.length) = n := by rw [e24, e16]; simp [su_at]
      have x46 : I24 46 m = L.length + 1 := by rw [e24]; simp [su_at]
      clear e8 e16 e24
      refine q I24 ?_ (m_gp_sub gz (fun f k p => by unfold m_kq; omega))
      unfold w_kp
      rw [if_neg hno]
      refine ⟨by rw [x46, List.length_append]; simp, by rw [List.length_append]; simp; omega, fun i k u hi => ?_⟩
      by_cases ci : i < L.length
      · rw [List.getElem?_append_left ci] at hi
        obtain ⟨k1, k2, k3⟩ := p3 i k u hi
        rw [gz 51 _ (by omega), gz 52 _ (by omega)]
        exact ⟨k1, k2, k3⟩
      · have ei : i = L.length := by
          have := (List.getElem?_eq_some_iff.mp hi).1
          rw [List.length_append] at this
          simp at this
          omega
        subst ei
        rw [List.getElem?_append_right (by omega), Nat.sub_self] at hi
        have hi := Option.some.inj hi
        rw [Prod.mk.injEq] at hi
        obtain ⟨j1, j2⟩ := hi
        rw [x51, x52, ← j1, ← j2]
        exact ⟨hx, rfl, pm, hn, eh⟩
    · have hkl : k < L.length := by omega
      obtain ⟨i1, i2⟩ := w_i8160 hm (show k < 340 by omega)
      rw [i1]
      clear i1
      refine ⟨by omega, i2, ?_⟩
      intro v28 e28 _
      rw [Int.toNat_natCast] at e28
      obtain ⟨⟨u, kk⟩, hu⟩ : ∃ e, L[k]? = some e := ⟨L[k]'hkl, List.getElem?_eq_getElem hkl⟩
      obtain ⟨k1, k2, k3⟩ := p3 k kk u hu
      refine ⟨fun c1 => ?_, fun c1 => ?_⟩
      · intro y31 e31
        rw [e31, sw_w_s (by omega) (by omega), show (k : Int) + 1 = ((k + 1 : Nat) : Int) by omega]
        refine r_kp_l hm nd ⟨p1, p2, p3⟩ hx h3 hn eh q f (k + 1) (by omega) (by omega) (fun i e hi he => ?_)
        by_cases ci : i = k
        · subst ci
          rw [hu] at he
          have he := Option.some.inj he
          rw [← he]
          intro c2
          have c2 : u = h := c2
          rw [c2] at k1
          exact c1 (by rw [e28]; exact w_at_inj nd k1 hx)
        · exact inv i e (by omega) he
      · refine q I ?_ (m_gp_refl _ _)
        have hin : h ∈ L.map Prod.fst := by
          rw [List.mem_map]
          refine ⟨(u, kk), List.mem_of_getElem? hu, ?_⟩
          show u = h
          rw [← e28, c1] at k1
          have u1 := w_at_d k1
          rw [w_at_d hx] at u1
          exact u1.symm
        unfold w_kp
        rw [if_pos hin]
        exact ⟨p1, p2, p3⟩
theorem r_keepProposal {L : List (Wt × Nat)} {n : Nat} {h : Wt} {x2 : Int} {pm : List Wt} (hm : m < 24) (nd : mk.Nodup) (hP : m_pp I mk ms m L) (hx : w_at mk x2 h) (h3 : L.length < 340) (hn : ms[n]? = some pm) (eh : h = w_t 1 [] [] [] pm) (q : ∀ J, m_pp J mk ms m (w_kp L h n) → m_gp (m_kq m) I J → R J) : rm_92 m x2 n I R := ⟨L.length + 1, r_kp_l hm nd hP hx h3 hn eh q (L.length + 1) 0 (by omega) (by omega) (fun i e hi => by omega)⟩
end
