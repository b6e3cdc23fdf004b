/-! ===== the reference: the end of a COMMIT that is taken ===== -/
noncomputable section
section
variable {I I0 J X : sr_V} {nn nm s u k h us : Nat} {K K' K2 : Wt → Prop} {tl tl' mk mm l0 l1 l2 lw lt : List Wt} {a b c y n m msk lf : Int} {Q : Int → sr_V → Prop} {R : sr_V → Prop} {x i e l : Nat} {P : Nat → Nat → Prop} {S : Wt → Prop} {w ls n0 cs : Wt} {L : List w_Ch} {d : w_Ch} {G : w_G} {T : w_T} {ms : List (List Wt)}
/-- as r_openNext, for a text that stands among the messages -/
theorem r_openNextM {x2 : Int} (hs : s < 24) (hL : m_L I mk nn K tl) (hb : m_bS S mk) (hst : m_st I mk s G) (hT : m_tr I mk 48 T) (hcs : w_at mk x2 cs) (ht : m_at mk.length (w_d mk) (I 26) us lt) (us1 : us ≤ 360000) (hlt : lt.length ≤ 1900) (hS1 : S (w_ini G)) (hS2 : S (w_jnr G cs)) (hS3 : S (w_cfn G lt)) (hS4 : ∀ y ∈ w_ordk (w_h (t_top T)) (t_top T) (w_h (t_top T) + 1) 0, S (w_th T 0 y)) (hS5 : S (w_esn G T cs lt)) (q : ∀ z J mm, w_mo S mk mm → m_bS S mm → m_L J mm nn K tl → w_at mm z (w_jnr G cs) → w_at mm (J 33 48) (w_cfn G lt) → J 29 48 = w_epn G → w_at mm (J 34 48) (w_esn G T cs lt) → (∀ y, y < t_w T → w_th T 0 y ∈ mm) → m_gp (fun f k => m_p2 f k ∨ ((f = 29 ∨ f = 33 ∨ f = 34) ∧ k = 48)) I J → Q z J) : rm_104 s x2 us ((us + lt.length : Nat) : Int) I Q := by
  unfold rm_104 rm_203
  refine ⟨by omega, by omega, ?_⟩
  intro v1 e1 _
  rw [Int.toNat_natCast] at e1
  have he := hst.2.2.2.2.2.2.1
  rw [← e1] at he
  refine r_derS (j := 1) hb hL he rfl (by decide) hS1 (fun t1 A ma a1 a2 LA wA fA => ?_)
  intro _ _ I12 e12
  have gA := m_f1_gp fA
  obtain ⟨L2, r2, f2⟩ := r_rs0 LA e12
  refine r_mixS a2 L2 r2 wA (w_le_at a1.1 hcs) hS2 (fun t2 B mb b1 b2 LB wB fB e56 => ?_)
  intro _
  have gB : m_gp m_p2 I B := m_gp_trans gA (m_gp_trans (m_f0_gp f2) (m_f1_gp fB))
  refine ⟨by omega, by omega, ?_⟩
  intro v26 e26 _
  rw [Int.toNat_natCast, gB 32 s (by unfold m_p2; omega)] at e26
  have hin := w_le_at (w_le_trans a1.1 b1.1) hst.2.2.2.2.1
  rw [← e26] at hin
  have bm := (b2 mb w_mo_refl (m_L_nd LB)).1
  refine r_term (m_rr_0 e56) (by simp) bm hin (fun C rC fC => ?_)
  have gC := m_f0_gp fC
  have tC : m_at mb.length (w_d mb) (C 26) us lt := m_at_le (m_at_cg ht (fun k _ => (m_gp_trans gB gC) 26 _ (by unfold m_p2; omega))) (w_le_trans a1.1 b1.1)
  refine r_bText rC tC rfl (by omega) (by simp; omega) (fun D rD fD => ?_)
  have f3 := m_fr_trans fC fD
  refine r_hashS b2 (m_f0_L LB f3) rD (by simp; omega) hS3 (fun t3 E me e1' e2' LE wE fE => ?_)
  intro _
  have gE : m_gp m_p2 I E := m_gp_trans gB (m_gp_trans (m_f0_gp f3) (m_f1_gp fE))
  refine ⟨by decide, ?_⟩
  intro I51 e51
  have g51 : m_gp (fun f k => f = 33 ∧ k = 48) E I51 := by rw [e51]; exact m_gp_su _ _ _ _
  refine ⟨by omega, by omega, ?_⟩
  intro v55 e55 _
  rw [Int.toNat_natCast, g51 29 s (by omega), gE 29 s (by unfold m_p2; omega), hst.2.1] at e55
  refine ⟨by decide, ?_⟩
  intro I59 e59
  have g59 : m_gp (fun f k => f = 29 ∧ k = 48) I51 I59 := by rw [e59]; exact m_gp_su _ _ _ _
  have gF : m_gp (fun f k => m_p2 f k ∨ ((f = 29 ∨ f = 33 ∨ f = 34) ∧ k = 48)) I I59 := m_gp_trans (m_gp_sub gE (fun f k p => Or.inl p)) (m_gp_trans (m_gp_sub g51 (fun f k p => Or.inr ⟨by omega, p.2⟩)) (m_gp_sub g59 (fun f k p => Or.inr ⟨by omega, p.2⟩)))
  have L59 : m_L I59 me nn K tl := m_L_gp (m_L_gp LE g51 (fun f k p => by omega)) g59 (fun f k p => by omega)
  have mo : w_mo S mk me := w_mo_trans a1 (w_mo_trans b1 e1')
  have T59 : m_tr I59 me 48 T := by
    refine m_tr_le ?_ mo.1
    have w31 := t_w_4 hT.1.1
    have en : ∀ f j, (36 ≤ f ∧ f ≤ 44) ∨ (f = 31 ∧ j = 48) → I59 f j = I f j := fun f j hf => gF f j (by unfold m_p2; omega)
    obtain ⟨h1, h2, h3, h4⟩ := hT
    refine ⟨h1, by rw [en _ _ (by omega)]; exact h2, fun x hx => ?_, fun k hk hne => ?_⟩
    · rw [en _ _ (by omega), en _ _ (by omega), en _ _ (by omega), en _ _ (by omega)]; exact h3 x hx
    · rw [en _ _ (by omega), en _ _ (by omega), en _ _ (by omega), en _ _ (by omega)]; exact h4 k hk hne
  have e29 : I59 29 48 = w_epn G := by rw [e59, su_eq, e55]; rfl
  have e33 : w_at me (I59 33 48) (w_cfn G lt) := by
    rw [g59 33 48 (by omega), e51, su_eq]
    exact wE
  have hmk : w_mo S me (w_mkh T 0 (t_top T) me) := w_mo_tls _ (fun v hv => by
    obtain ⟨y, hy, rfl⟩ := List.mem_map.mp hv
    exact hS4 y hy)
  have mo2 : w_mo S me (w_tl (w_mkh T 0 (t_top T) me) (w_esn G T cs lt)) := w_mo_trans hmk (w_mo_tl hS5)
  refine r_openEpoch2 (s := 48) (T := T) (ep := w_epn G) (cf := w_cfn G lt) (es := w_esn G T cs lt) rfl (by decide) L59 T59 (sw_w_c _) e29 (Or.inr e33) (w_le_at e1'.1 wB) (e2' _ mo2 (w_tl_nd (w_tls_nd _ (m_L_nd L59)))) (fun Z LZ wZ gZ => ?_)
  refine q t2 Z _ (w_mo_trans mo mo2) (m_bS_mo e2' mo2) LZ (w_le_at (w_le_trans e1'.1 mo2.1) wB) ?_ ?_ wZ (fun y hy => ?_) (m_gp_trans gF (m_gp_sub gZ (fun f k p => p.elim Or.inl (fun p => Or.inr ⟨by omega, p.2⟩))))
  · rw [gZ 33 48 (by unfold m_p2; omega)]; exact w_le_at mo2.1 e33
  · rw [gZ 29 48 (by unfold m_p2; omega)]; exact e29
  · have h1 := w_mkh_top hT.1.1 hy me
    obtain ⟨l', hl'⟩ := w_le_tl (w_mkh T 0 (t_top T) me) (w_esn G T cs lt)
    rw [hl']
    exact List.mem_append_left _ h1
end
/-- what of the message the next epoch depends on -/
def d_lt (lm : List Wt) : List Wt := w_sli lm 0 (lm.length - 2)
def d_cf (G : w_G) (lm : List Wt) : Wt := w_cfn G (d_lt lm)
def d_es (G : w_G) (T : w_T) (cs : Wt) (lm : List Wt) : Wt := w_esn G T cs (d_lt lm)
def d_cm (G : w_G) (T : w_T) (cs : Wt) (lm : List Wt) : Wt := w_cfm (d_es G T cs lm) (d_cf G lm)
/-- the next group -/
def d_G (G : w_G) (T : w_T) (cs : Wt) (lm : List Wt) (hd : Nat → Wt) : w_G := (w_epn G, gg_lf G, T, w_int (d_cf G lm) (d_cm G T cs lm), d_cf G lm, d_es G T cs lm, hd)
def d_eS (G : w_G) (T : w_T) (cs : Wt) (lm : List Wt) (v : Wt) : Prop := v = w_ini G ∨ v = w_jnr G cs ∨ v = d_cf G lm ∨ v = d_es G T cs lm ∨ v = w_dr (d_es G T cs lm) 2 ∨ v = d_cm G T cs lm ∨ v = w_int (d_cf G lm) (d_cm G T cs lm) ∨ ∃ y ∈ w_ordk (w_h (t_top T)) (t_top T) (w_h (t_top T) + 1) 0, v = w_th T 0 y
def m_pdc (m f k : Nat) : Prop := m_p2 f k ∨ m_pl 48 f k ∨ m_pl m f k ∨ ((f = 46 ∨ f = 47 ∨ f = 28) ∧ k = m)
variable {I I0 J X : sr_V} {nn us fr : Nat} {K K' : Wt → Prop} {tl mk mm lm : List Wt} {Q : Int → sr_V → Prop} {R : sr_V → Prop} {m mi l k d s p : Nat} {P : Nat → Nat → Prop} {T : w_T} {w v g cs cf : Wt} {x6 : Int} {hv : Nat → Wt} {G : w_G} {S : Wt → Prop} {ms : List (List Wt)} {Lk : List (Wt × Nat)}
theorem r_forgetEpoch (hm : m < 24) (q : ∀ J, J 46 m = 0 → J 47 m = 0 → J 28 m = 0 → m_gp (fun f k => (f = 46 ∨ f = 47 ∨ f = 28) ∧ k = m) I J → R J) : rm_70 m I R := by
  unfold rm_70
  refine ⟨by omega, by omega, ?_⟩
  intro I2 e2
  refine ⟨by omega, by omega, ?_⟩
  intro I7 e7
  refine ⟨by omega, by omega, ?_⟩
  intro I12 e12
  rw [Int.toNat_natCast] at e2 e7 e12
  refine q I12 ?_ ?_ ?_ ?_
  · rw [e12, su_f (by decide), e7, su_f (by decide), e2, su_eq]
  · rw [e12, su_f (by decide), e7, su_eq]
  · rw [e12, su_eq]
  · rw [e12, e7, e2]
    exact m_gp_trans (m_gp_trans (m_gp_sub (m_gp_su _ _ _ _) (fun f k p => by omega)) (m_gp_sub (m_gp_su _ _ _ _) (fun f k p => by omega))) (m_gp_sub (m_gp_su _ _ _ _) (fun f k p => by omega))
theorem r_leave (hm : m < 24) (q : ∀ J, J 27 m = 0 → J 46 m = 0 → J 47 m = 0 → J 28 m = 0 → m_gp (fun f k => (f = 27 ∨ f = 46 ∨ f = 47 ∨ f = 28) ∧ k = m) I J → Q 0 J) : rm_229 m I Q := by
  unfold rm_229
  refine ⟨by omega, by omega, ?_⟩
  intro I2 e2
  rw [Int.toNat_natCast] at e2
  refine r_forgetEpoch hm (fun J j1 j2 j3 gJ => q J ?_ j1 j2 j3 ?_)
  · rw [gJ 27 m (by omega), e2, su_eq]
  · exact m_gp_trans (by rw [e2]; exact m_gp_sub (m_gp_su _ _ _ _) (fun f k p => by omega)) (m_gp_sub gJ (fun f k p => by omega))
/-- the own commit is entered -/
theorem r_finish (hm : m < 24) (hst : m_st I mk (24 + m) G) (q : ∀ J, m_st J mk m G → J 46 m = 0 → J 47 m = 0 → J 28 m = 0 → m_gp (fun f k => m_pl m f k ∨ ((f = 46 ∨ f = 47 ∨ f = 28) ∧ k = m)) I J → Q 0 J) : rm_223 m I Q := by
  unfold rm_223
  rw [show sw_w (24 + (m : Int)) = ((24 + m : Nat) : Int) by rw [sw_w_s (by omega) (by omega)]; omega]
  refine r_copyState (s := 24 + m) (u := m) (by omega) (by omega) (by omega) (fun J1 h1 h2 g1 => ?_)
  refine r_forgetEpoch hm (fun J j1 j2 j3 gJ => q J ?_ j1 j2 j3 (m_gp_trans (m_gp_sub g1 (fun f k p => Or.inl p)) (m_gp_sub gJ (fun f k p => Or.inr p))))
  exact m_st_gp (m_st_eq hst h1 h2) gJ (fun f k p q => by unfold m_pl at p; omega)
theorem r_dc_189 (hm : m < 24) (hL : m_L I mk nn K tl) (hst : m_st I mk m G) (hT : m_tr I mk 48 T) (hcs : w_at mk x6 cs) (hx : m_tk I mk K' fr lm) (hfr : fr + lm.length ≤ 360000) (hl3 : 3 ≤ lm.length) (hl : lm.length ≤ 1200) (h102 : I 1000 102 = ((fr + (lm.length - 3) : Nat) : Int)) (h104 : w_at mk (I 1000 104) cf) (hv0 : ∀ x, x < t_w T → w_az mk (I 44 (1488 + x)) (hv x)) {hd : Nat → Wt} (hhd : ∀ x, x < t_w T → d_hk G T hv x = hd x) (hok : gg_ok (d_G G T cs lm hd)) (hb : m_bS S mk) (hS : ∀ v, d_eS G T cs lm v → S v) (q0 : ∀ J mm, d_cm G T cs lm = cf → w_mo S mk mm → m_bS S mm → m_L J mm nn K tl → m_st J mm m (d_G G T cs lm hd) → J 46 m = 0 → J 47 m = 0 → J 28 m = 0 → m_gp (m_pdc m) I J → Q 0 J) (q12 : ∀ J mm, d_cm G T cs lm ≠ cf → w_mo S mk mm → m_bS S mm → m_L J mm nn K tl → m_gp (fun f k => m_p2 f k ∨ m_pl 48 f k) I J → Q 12 J) : rb_110_189 Q fr m x6 I := by
  have hSS : ∀ {v}, d_eS G T cs lm v → S v := fun {v} h => hS v h
  have ln : (d_lt lm).length = lm.length - 2 := w_sli_0 (by omega)
  have at1 : m_at mk.length (w_d mk) (I 26) fr (d_lt lm) := by
    have := m_at_sli (i := 0) (j := lm.length - 2) hx.1
    rw [Nat.add_zero] at this
    exact this
  unfold rb_110_189
  intro v1 e1 _
  rw [e1, h102]
  have e2 : sw_w (((fr + (lm.length - 3) : Nat) : Int) + 1) = ((fr + (d_lt lm).length : Nat) : Int) := by rw [sw_w_s (by omega) (by omega), ln]; omega
  rw [e2]
  clear e2
  refine r_openNextM (S := S) (G := G) (T := T) (cs := cs) (lt := d_lt lm) hm hL hb hst hT hcs at1 (by omega) (by omega) (hSS (Or.inl rfl)) (hSS (Or.inr (Or.inl rfl))) (hSS (Or.inr (Or.inr (Or.inl rfl)))) (fun y hy => hSS (Or.inr (Or.inr (Or.inr (Or.inr (Or.inr (Or.inr (Or.inr ⟨y, hy, rfl⟩)))))))) (hSS (Or.inr (Or.inr (Or.inr (Or.inl rfl))))) (fun z9 J4 m4 mo4 b4 L4 wj w33 e29 w34 th4 g4 => ?_)
  intro _
  have s5a : S (w_dr (d_es G T cs lm) 2) := hSS (Or.inr (Or.inr (Or.inr (Or.inr (Or.inl rfl)))))
  have s5b : S (d_cm G T cs lm) := hSS (Or.inr (Or.inr (Or.inr (Or.inr (Or.inr (Or.inl rfl))))))
  have mo5 : w_mo S m4 (w_tl (w_tl m4 (w_dr (d_es G T cs lm) 2)) (d_cm G T cs lm)) := w_mo_trans (w_mo_tl s5a) (w_mo_tl s5b)
  refine r_confirmation (s := 48) (cf := d_cf G lm) (es := d_es G T cs lm) (by decide) L4 w34 (Or.inr w33) (b4 _ mo5 (w_tl_nd (w_tl_nd (m_L_nd L4)))) (fun z16 J5 L5 wc f5 => ?_)
  intro _
  have b5 := m_bS_mo b4 mo5
  have g5 := m_f1_gp f5
  obtain ⟨m5, em5⟩ : ∃ m5, m5 = w_tl (w_tl m4 (w_dr (d_es G T cs lm) 2)) (d_cm G T cs lm) := ⟨_, rfl⟩
  have L5 : m_L J5 m5 nn K tl := by rw [em5]; exact L5
  have wc : w_at m5 z16 (d_cm G T cs lm) := by rw [em5]; exact wc
  rw [← em5] at b5 mo5
  clear em5
  have mo15 := w_mo_trans mo4 mo5
  have g15' : m_gp (fun f k => m_p2 f k ∨ m_pl 48 f k) I J5 := m_gp_trans (m_gp_sub g4 (fun f k p => p.elim Or.inl (fun p => Or.inr (Or.inl (by omega))))) (m_gp_sub g5 (fun f k p => Or.inl p))
  have g15 : m_gp (m_pdc m) I J5 := m_gp_sub g15' (fun f k p => p.elim Or.inl (fun p => Or.inr (Or.inl p)))
  have n5 : ∀ f k, (f = 31 ∧ k = 48) ∨ (36 ≤ f ∧ f ≤ 44) ∨ (29 ≤ f ∧ f ≤ 34 ∧ k = m) ∨ (f = 1000 ∧ k = 104) → J5 f k = I f k := fun f k hf => by
    rw [g5 f k (by unfold m_p2; omega), g4 f k (by unfold m_p2; omega)]
  intro v18 e18 _
  have w104 : w_at m5 v18 cf := by
    rw [e18, n5 1000 104 (by omega)]
    exact w_le_at mo15.1 h104
  refine ⟨fun c => ?_, fun c => q12 J5 m5 (fun e => c ?_) mo15 b5 L5 g15'⟩
  rotate_left
  · rw [e] at wc
    exact w_at_inj (m_L_nd L5) wc w104
  have ecf : d_cm G T cs lm = cf := by
    rw [c] at wc
    exact w_at_fun wc w104
  have st5 : m_st J5 m5 m G := m_st_le (m_st_eq hst (fun f h1 h2 => n5 f m (by omega)) (fun f x h1 h2 h3 => n5 f _ (by omega))) mo15.1
  have T5 : m_tr J5 m5 48 T := m_tr_le (m_tr_eq hT (n5 31 48 (by omega)) (fun f x h1 h2 h3 => n5 f _ (by omega))) mo15.1
  refine r_keepSame (hv := hv) hm L5 st5 T5 (fun x hx => by rw [n5 44 _ (by omega)]; exact w_le_az mo15.1 (hv0 x hx)) (fun J6 h6 g6 => ?_)
  have L6 := m_L_gp L5 g6 (fun f k p => by unfold m_p44 at p; omega)
  intro v28 e28 _
  rw [g6 1000 104 (by unfold m_p44; omega), ← e18] at e28
  rw [← e28] at w104
  have w33' : w_at m5 (J6 33 48) (d_cf G lm) := by
    rw [g6 33 48 (by unfold m_p44; omega), g5 33 48 (by unfold m_p2; omega)]
    exact w_le_at mo5.1 w33
  have s10 : S (w_int (d_cf G lm) cf) := by
    have := hSS (v := w_int (d_cf G lm) (d_cm G T cs lm)) (Or.inr (Or.inr (Or.inr (Or.inr (Or.inr (Or.inr (Or.inl rfl)))))))
    rw [ecf] at this
    exact this
  refine r_interim (s := 48) (cf := d_cf G lm) (by decide) L6 (Or.inr w33') w104 (m_bS_tl b5 (m_L_nd L6) s10) (fun z36 J7 L7 wi f7 => ?_)
  intro _
  have mo7 := w_mo_tl (mk := m5) s10
  have b7 := m_bS_mo b5 mo7
  have g7 := m_f1_gp f7
  obtain ⟨m7, em7⟩ : ∃ m7, m7 = w_tl m5 (w_int (d_cf G lm) cf) := ⟨_, rfl⟩
  rw [← em7] at L7 wi mo7 b7
  clear em7
  refine ⟨by decide, ?_⟩
  intro I39 e39
  refine ⟨by omega, by omega, ?_⟩
  intro v43 e43 _
  refine ⟨by decide, ?_⟩
  intro I47 e47
  rw [Int.toNat_natCast, e39, su_f (by decide)] at e43
  have g47 : m_gp (fun f k => (f = 32 ∨ f = 30) ∧ k = 48) J7 I47 := by
    rw [e47, e39]
    exact m_gp_trans (m_gp_sub (m_gp_su _ _ _ _) (fun f k p => by omega)) (m_gp_sub (m_gp_su _ _ _ _) (fun f k p => by omega))
  have L47 := m_L_gp L7 g47 (fun f k p => by omega)
  have mo17 := w_mo_trans mo15 mo7
  have n67 : ∀ f k, ((f = 29 ∨ f = 33 ∨ f = 34 ∨ f = 31) ∧ k = 48) ∨ (36 ≤ f ∧ f ≤ 43) → I47 f k = J5 f k := fun f k hf => by
    rw [g47 f k (by omega), g7 f k (by unfold m_p2; omega), g6 f k (by unfold m_p44; omega)]
  have e30 : J7 30 m = gg_lf G := by
    rw [g7 30 m (by unfold m_p2; omega), g6 30 m (by unfold m_p44; omega), n5 30 m (by omega)]
    exact hst.2.2.1
  have st47 : m_st I47 m7 48 (d_G G T cs lm hd) := by
    have w31 := t_w_4 hT.1.1
    refine ⟨hok, ?_, ?_, ?_, ?_, ?_, ?_, fun x hx => ?_, fun x hx => ?_⟩
    · rw [n67 29 48 (by omega), g5 29 48 (by unfold m_p2; omega)]; exact e29
    · rw [e47, su_eq, e43]; exact e30
    · exact m_tr_le (m_tr_eq T5 (n67 31 48 (by omega)) (fun f x h1 h2 h3 => n67 f _ (by omega))) mo7.1
    · rw [e47, su_f (by decide), e39, su_eq]
      show w_at m7 z36 (w_int (d_cf G lm) (d_cm G T cs lm))
      rw [ecf]
      exact wi
    · rw [n67 33 48 (by omega), g5 33 48 (by unfold m_p2; omega)]; exact Or.inr (w_le_at (w_le_trans mo5.1 mo7.1) w33)
    · rw [n67 34 48 (by omega), g5 34 48 (by unfold m_p2; omega)]; exact w_le_at (w_le_trans mo5.1 mo7.1) w34
    · rw [g47 44 _ (by omega), g7 44 _ (by unfold m_p2; omega)]
      have := w_le_az mo7.1 (h6 x hx)
      rw [hhd x hx] at this
      exact this
    · have h1 := th4 x hx
      obtain ⟨l', hl'⟩ := w_le_trans mo5.1 mo7.1
      rw [hl']
      exact List.mem_append_left _ h1
  refine r_copyState (s := 48) (u := m) (by decide) (by omega) (by omega) (fun J8 h1 h2 g8 => ?_)
  have st8 := m_st_eq st47 h1 h2
  have L8 := m_L_gp L47 g8 (fun f k p => by unfold m_pl at p; omega)
  refine r_forgetEpoch hm (fun J9 j1 j2 j3 g9 => ?_)
  refine q0 J9 m7 ecf mo17 b7 (m_L_gp L8 g9 (fun f k p => by omega)) (m_st_gp st8 g9 (fun f k p q => by unfold m_pl at p; omega)) j1 j2 j3 ?_
  refine m_gp_trans g15 (m_gp_trans (m_gp_sub g6 (fun f k p => Or.inr (Or.inl (Or.inr (by unfold m_p44 at p; omega))))) (m_gp_trans (m_gp_sub g7 (fun f k p => Or.inl p)) (m_gp_trans (m_gp_sub g47 (fun f k p => Or.inr (Or.inl (Or.inl (by omega))))) (m_gp_trans (m_gp_sub g8 (fun f k p => Or.inr (Or.inr (Or.inl p)))) (m_gp_sub g9 (fun f k p => Or.inr (Or.inr (Or.inr p))))))))
end
