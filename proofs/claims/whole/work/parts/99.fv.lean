/-! ===== the reference: mustHavePath; the head of a commit ===== -/
noncomputable section
/-- a path there must be -/
def h_mp (L : List w_Ch) : Prop := L = [] ∨ ∃ c ∈ L, c.1.1 ≠ 1
/-- the head of a COMMIT -/
def w_ch0 (G : w_G) (L : List w_Ch) : List Wt := w_by 3 :: (w_b32 (gg_ep G) ++ w_b16 (gg_lf G)) ++ (w_b16 ((w_pps (gg_lf G) L).length : Nat) ++ w_pps (gg_lf G) L)
variable {I I0 J X : sr_V} {nn nm s u k h us : Nat} {K K' K2 : Wt → Prop} {tl tl' mk mm l0 l1 l2 lw lt lp lx : List Wt} {a b c y n msk lf wp x1 x2 : Int} {Q : Int → sr_V → Prop} {R : sr_V → Prop} {x i e l m mi : Nat} {P : Nat → Nat → Prop} {S : Wt → Prop} {w ls n0 cs cm jn : Wt} {G : w_G} {T : w_T} {ms : List (List Wt)} {L C : List w_Ch} {d : w_Ch} {Lk : List (Wt × Nat)}
theorem r_mh_9 (hli : m_li I mk K L) (q1 : h_mp L → Q 1 I) (q0 : ¬ h_mp L → Q 0 I) : ∀ (n k : Nat) {b : Int}, (b = 0 ∨ b = 1) → (b = 1 ↔ (L = [] ∨ ∃ c ∈ L.take k, c.1.1 ≠ 1)) → k ≤ L.length → L.length - k < n → rl_97_9 Q n b k I
  | 0, _, _, _, _, _, hn => by omega
  | n + 1, k, b, h01, hb, hk, hn => by
    have b1 := hli.2.1
    unfold rl_97_9
    intro v8 e8 _
    rw [hli.1] at e8
    subst e8
    refine ⟨fun c => ⟨h01, ?_⟩, fun c => ?_⟩
    · have ek : k = L.length := by omega
      subst ek
      rw [List.take_length] at hb
      rcases h01 with rfl | rfl
      · exact q0 (fun hh => absurd (hb.mpr hh) (by decide))
      · exact q1 (hb.mp rfl)
    · obtain ⟨d, hd⟩ := h_get (L := L) (k := k) (by omega)
      have hne : L ≠ [] := fun cc => by rw [cc] at hd; cases hd
      have e79 := (hli.2.2.2 k d hd).2.2.1
      have tk := h_tk_s hd
      have next : ∀ b' : Int, (b' = 0 ∨ b' = 1) → (b' = 1 ↔ (L = [] ∨ ∃ c ∈ L.take (k + 1), c.1.1 ≠ 1)) → rb_97_24 Q (rl_97_9 Q n) k b' I := fun b' h01' hb' => by
        unfold rb_97_24
        intro y4 e4
        rw [sw_s1 (by omega)] at e4
        subst e4
        exact r_mh_9 hli q1 q0 n (k + 1) h01' hb' (by omega) (by omega)
      have ex : (∃ c ∈ L.take (k + 1), c.1.1 ≠ 1) ↔ ((∃ c ∈ L.take k, c.1.1 ≠ 1) ∨ d.1.1 ≠ 1) := by
        rw [tk]
        constructor
        · rintro ⟨c, hc, h1⟩
          rcases List.mem_append.mp hc with hc | hc
          · exact Or.inl ⟨c, hc, h1⟩
          · rw [List.mem_singleton] at hc
            subst hc
            exact Or.inr h1
        · rintro (⟨c, hc, h1⟩ | h1)
          · exact ⟨c, List.mem_append_left _ hc, h1⟩
          · exact ⟨d, by simp, h1⟩
      refine ⟨fun c1 => next 1 (Or.inr rfl) ⟨fun _ => ?_, fun _ => rfl⟩, fun c1 => ⟨by omega, by omega, ?_⟩⟩
      · have hb1 : b = 1 := h01.resolve_left c1
        rcases hb.mp hb1 with h | h
        · exact Or.inl h
        · exact Or.inr (ex.mpr (Or.inl h))
      · have nb : ¬ ∃ c ∈ L.take k, c.1.1 ≠ 1 := fun cc => by
          have := hb.mpr (Or.inr cc)
          rw [c1] at this
          exact absurd this (by decide)
        intro v11 e11 _
        rw [Int.toNat_natCast, e79] at e11
        subst e11
        refine ⟨fun c2 => next 0 (Or.inl rfl) ⟨fun cc => absurd cc (by decide), fun cc => ?_⟩, fun c2 => next 1 (Or.inr rfl) ⟨fun _ => Or.inr (ex.mpr (Or.inr c2)), fun _ => rfl⟩⟩
        rcases cc with cc | cc
        · exact absurd cc hne
        · rcases ex.mp cc with h | h
          · exact absurd h nb
          · exact absurd c2 h
theorem r_mustHavePath (hli : m_li I mk K L) (q1 : h_mp L → Q 1 I) (q0 : ¬ h_mp L → Q 0 I) : rm_97 I Q := by
  unfold rm_97
  intro v23 e23 _
  rw [hli.1] at e23
  subst e23
  have e0 : ¬ ∃ c ∈ L.take 0, c.1.1 ≠ 1 := fun ⟨c, hc, _⟩ => by simp at hc
  refine ⟨fun c => ?_, fun c => ?_⟩
  · unfold rb_97_6
    have hne : L ≠ [] := fun cc => c (by rw [cc]; rfl)
    exact ⟨L.length + 1, r_mh_9 hli q1 q0 _ 0 (Or.inl rfl) ⟨fun cc => absurd cc (by decide), fun cc => cc.elim (fun h => absurd h hne) (fun h => absurd h e0)⟩ (by omega) (by omega)⟩
  · unfold rb_97_6
    have he : L = [] := List.length_eq_zero_iff.mp (by omega)
    exact ⟨L.length + 1, r_mh_9 hli q1 q0 _ 0 (Or.inr rfl) ⟨fun _ => Or.inl he, fun _ => rfl⟩ (by omega) (by omega)⟩
/-- what the head touches -/
def m_phd (us f k : Nat) : Prop := m_pw us f k ∨ (f = 1000 ∧ 56 ≤ k ∧ k ≤ 75)
theorem r_cm_117 {s0 : Int} (hm : m < 24) (hw : m_wr I mk nn K' tl ms us) (hst : m_st I mk m G) (bd : m_bd mk) (hli : m_li I mk K L) (hll : L.length ≤ 40) (hh : ∀ c ∈ L, c.2.2 ≠ []) (hs0 : s0 = 0 ∨ s0 = 1) (q : ∀ J, m_wr J mk nn K' tl ms us → m_cx J mk (w_cx G) → m_li J mk K L → m_tx J mk us (w_ch0 G L) → m_rr J mk [] → m_gp (m_phd us) I J → rb_19_156 Q m m (gg_lf G) s0 1 s0 J) : rb_19_117 Q m m (gg_lf G) s0 I := by
  have us1 := m_wr_us hw
  have hlf : gg_lf G < 16 := by have := hst.1.2.1; have := t_w_4 hst.2.2.2.1.1.1; omega
  unfold rb_19_117
  refine r_keepContext (s := m) (by omega) hw hst bd (fun A wA cA rA gA => ?_)
  intro v284 e284 _ I288 e288 I293 e293
  rw [wA.2.2.2] at e284
  subst e284
  obtain ⟨w288, g288⟩ := m_wr_su wA e288 (Or.inr rfl)
  have g288' : m_gp (fun f k => f = 1000 ∧ k = 110) A I288 := by rw [e288]; exact m_gp_su _ _ _ _
  have t288 : m_tx I288 mk us [] := m_tx_0 w288 (by rw [e288, su_eq])
  obtain ⟨L293, r293, f293⟩ := r_rs0 w288.1 e293
  have gB0 : m_gp (m_pw us) I I293 := m_gp_trans gA (m_gp_trans g288 (m_gp_2w (m_f0_gp f293)))
  refine r_b8 (x := 3) r293 (by simp) (fun B rB fB => ?_)
  refine ⟨by omega, by omega, ?_⟩
  intro v304 e304 _
  have e304' : v304 = gg_ep G := by
    rw [e304, Int.toNat_natCast, congrFun (fB.1 29 (by simp) (by decide)) m, gB0 29 m (m_pw_n (by omega))]
    exact hst.2.1
  rw [e304']
  refine r_b32 hst.1.1 rB (by simp) (fun C rC fC => ?_)
  refine r_b16 (by unfold sw_c; omega) rC (by simp [w_b32, w_b16]) (fun D rD fD => ?_)
  have f4 := m_fr_trans f293 (m_fr_trans fB (m_fr_trans fC fD))
  have LD := m_f0_L w288.1 f4
  obtain ⟨lh, elh⟩ : ∃ lh, lh = w_by 3 :: (w_b32 (gg_ep G) ++ w_b16 (gg_lf G)) := ⟨_, rfl⟩
  have lhl : lh.length = 7 := by rw [elh]; rfl
  have rD2 : m_rr D mk lh := by rw [elh]; simpa using rD
  refine r_flush rD2 (m_tx_p2 t288 (m_f0_gp f4)) (by simp; omega) (fun E tE rE gE => ?_)
  rw [List.nil_append] at tE
  have gE2 : m_gp (m_pw us) I E := m_gp_trans gA (m_gp_trans g288 (m_gp_trans (m_gp_2w (m_f0_gp f4)) (m_gp_fw gE)))
  have LE := m_L_pf LD gE
  have wE : m_wr E mk nn K' tl ms us := m_wr_pw hw LE (w_le_refl _) gE2
  have liE : m_li E mk K L := m_li_up hli LE (w_le_refl _) hw.2.2.2 gE2 (fun f k p => by unfold m_pw m_p2 at p; omega)
  refine r_putProposals (lf := gg_lf G) hll hh bd.1 liE LE tE (by omega) (fun F LF tF rF gF => ?_)
  intro I336 e336
  obtain ⟨L336, r336, f336⟩ := r_rs0 LF e336
  have gF2 : m_gp (m_phd us) E F := m_gp_sub gF (fun f k p => by
    rcases p with p | p
    · unfold m_ppr at p; unfold m_phd m_pw m_p2; omega
    · exact Or.inl (m_pw_f p))
  have g6 : m_gp (m_phd us) I I336 := m_gp_trans (m_gp_sub gE2 (fun f k p => Or.inl p)) (m_gp_trans gF2 (m_gp_sub (m_f0_gp f336) (fun f k p => Or.inl (m_pw_2 p))))
  have w6 : m_wr I336 mk nn K' tl ms us := ⟨L336, m_me_gp hw.2.1 g6 (fun f k p => by unfold m_phd m_pw m_p2 at p; omega), m_M_up hw.1 L336 (w_le_refl _) hw.2.2.1 hw.2.2.2 g6 (fun f k p => by unfold m_phd m_pw m_p2 at p; omega), by rw [g6 1000 23 (by unfold m_phd m_pw m_p2; omega)]; exact hw.2.2.2⟩
  have c6 : m_cx I336 mk (w_cx G) := by
    refine m_cx_gp (m_cx_gp (m_cx_gp (m_cx_pf (m_cx_gp (m_cx_gp cA g288' (fun f k p => by omega)) (m_f0_gp f4) (fun f k p => by unfold m_p2 at p; omega)) gE) gF (fun f k p => by unfold m_ppr m_pf at p; omega)) (m_f0_gp f336) (fun f k p => by unfold m_p2 at p; omega)) (m_gp_refl (fun _ _ => False) _) (fun _ _ p => p.elim)
  have l6 : m_li I336 mk K L := m_li_up hli L336 (w_le_refl _) hw.2.2.2 g6 (fun f k p => by unfold m_phd m_pw m_p2 at p; omega)
  have t6 : m_tx I336 mk us (w_ch0 G L) := by
    have := m_tx_p2 tF (m_f0_gp f336)
    rw [elh] at this
    exact this
  rcases hs0 with rfl | rfl
  · exact ⟨fun _ => q I336 w6 c6 l6 t6 r336 g6, fun cc => absurd rfl cc⟩
  · exact ⟨fun cc => absurd cc (by decide), fun _ => q I336 w6 c6 l6 t6 r336 g6⟩
end
