/-! ===== the reference: openNext, leafOfProposal, mustHavePath ===== -/
noncomputable section
def w_z : Wt := w_t 0 [] [] [] []
/-- what begins a next epoch: init secret, joiner secret, hash, number, epoch secret -/
def w_ini (G : w_G) : Wt := w_dr (gg_es G) 1
def w_jnr (G : w_G) (cs : Wt) : Wt := w_t 4 (w_ini G) cs [] []
def w_cfn (G : w_G) (l : List Wt) : Wt := w_t 1 [] [] [] (gg_in G :: l)
def w_epn (G : w_G) : Int := sw_w (gg_ep G + 1)
def w_esn (G : w_G) (T : w_T) (cs : Wt) (l : List Wt) : Wt := w_t 3 (w_jnr G cs) [0] [] (w_ctx T (w_epn G) (w_cfn G l))
variable {I I0 J X : sr_V} {nn nm s u k h us : Nat} {K K' K2 : Wt → Prop} {tl tl' mk mm l0 l1 l2 lw lt : List Wt} {a b c y n m msk lf : Int} {Q : Int → sr_V → Prop} {R : sr_V → Prop} {x i e l : Nat} {P : Nat → Nat → Prop} {S : Wt → Prop} {w ls n0 cs : Wt} {L : List w_Ch} {d : w_Ch} {G : w_G} {T : w_T} {ms : List (List Wt)}
theorem r_hashS (hb : m_bS S mk) (hL : m_L I mk nn K tl) (h : m_rr I mk l0) (hl : l0.length ≤ 6000) (hS : S (w_t 1 [] [] [] l0)) (q : ∀ (t : Int) J mm, w_mo S mk mm → m_bS S mm → m_L J mm nn K tl → w_at mm t (w_t 1 [] [] [] l0) → m_f1 I J → Q t J) : rm_53 1 0 0 0 I Q :=
  r_hash hL h hl (m_bS_tl hb (m_L_nd hL) hS) (fun t J LJ f _ hw => q t J _ (w_mo_tl hS) (m_bS_mo hb (w_mo_tl hS)) LJ hw f)
theorem r_mixS {x1 x2 : Int} {w1 w2 : Wt} (hb : m_bS S mk) (hL : m_L I mk nn K tl) (hr : m_rr I mk []) (h1 : w_at mk x1 w1) (h2 : w_at mk x2 w2) (hS : S (w_t 4 w1 w2 [] [])) (q : ∀ (t : Int) J mm, w_mo S mk mm → m_bS S mm → m_L J mm nn K tl → w_at mm t (w_t 4 w1 w2 [] []) → m_f1 I J → J 1000 56 = 0 → Q t J) : rm_53 4 x1 x2 0 I Q := by
  have i4 := hL.2.2.2.1
  have t1 := hL.1.1
  have b1 := w_at_le h1
  have b2 := w_at_le h2
  have er : m_row I = [] := by
    have := hr.2.2
    exact List.map_eq_nil_iff.mp this
  have e : w_tm (w_d mk) 4 x1 x2 0 (m_row I) = w_t 4 w1 w2 [] [] := by
    unfold w_tm w_t
    rw [er, if_neg (by decide), w_dz_pos (by omega), w_dz_pos (by omega), w_at_d h1, w_at_d h2]
    rfl
  refine m_mkT hL (by unfold m_va; omega) (by decide) hr.1 (by rw [m_rr_len hr]; simp) (by rw [er]; intro x hx; cases hx) (by rw [e]; exact m_bS_tl hb (m_L_nd hL) hS) (fun t J a1 a2 a3 a4 _ => ?_)
  rw [e] at a1 a4
  exact q t J _ (w_mo_tl hS) (m_bS_mo hb (w_mo_tl hS)) a1 a4 a2 a3
theorem w_mo_mkh {wo : Int} (h : ∀ y, S (w_th T wo y)) : w_mo S mk (w_mkh T wo x mk) := w_mo_tls _ (fun v hv => by
  obtain ⟨y, _, rfl⟩ := List.mem_map.mp hv
  exact h y)
theorem w_ordk_31 : ∀ x : Fin 31, ∀ y ∈ w_ordk (w_h x.val) x.val (w_h x.val + 1) 0, y < 31 ∨ 31 < x.val + 2 ^ w_h x.val := by decide +kernel
theorem r_openNext {x2 : Int} (hs : s < 24) (hL : m_L I mk nn K tl) (hb : m_bS S mk) (hst : m_st I mk s G) (hT : m_tr I mk 48 T) (hcs : w_at mk x2 cs) (ht : m_tx I mk us lt) (hlt : lt.length ≤ 1900) (hS1 : S (w_ini G)) (hS2 : S (w_jnr G cs)) (hS3 : S (w_cfn G lt)) (hS4 : ∀ y ∈ w_ordk (w_h (t_top T)) (t_top T) (w_h (t_top T) + 1) 0, S (w_th T 0 y)) (hS5 : S (w_esn G T cs lt)) (q : ∀ z J mm, w_mo S mk mm → m_bS S mm → m_L J mm nn K tl → w_at mm z (w_jnr G cs) → w_at mm (J 33 48) (w_cfn G lt) → J 29 48 = w_epn G → w_at mm (J 34 48) (w_esn G T cs lt) → (∀ y, y < t_w T → w_th T 0 y ∈ mm) → m_gp (fun f k => m_p2 f k ∨ ((f = 29 ∨ f = 33 ∨ f = 34) ∧ k = 48)) I J → Q z J) : rm_104 s x2 us ((us + lt.length : Nat) : Int) I Q := by
  have us1 := ht.2.2.2
  unfold rm_104 rm_203
  refine ⟨by omega, by omega, ?_⟩
  intro v1 e1 _
  rw [Int.toNat_natCast] at e1
  have he := hst.2.2.2.2.2.2.1
  rw [← e1] at he
  refine r_derS (j := 1) hb hL he rfl (by decide) hS1 (fun t1 A ma a1 a2 LA wA fA => ?_)
  intro _ _ I12 e12
  have gA := m_f1_gp fA
  obtain ⟨L2, r2, f2⟩ := r_rs0 LA e12
  refine r_mixS a2 L2 r2 wA (w_le_at a1.1 hcs) hS2 (fun t2 B mb b1 b2 LB wB fB e56 => ?_)
  intro _
  have gB : m_gp m_p2 I B := m_gp_trans gA (m_gp_trans (m_f0_gp f2) (m_f1_gp fB))
  refine ⟨by omega, by omega, ?_⟩
  intro v26 e26 _
  rw [Int.toNat_natCast, gB 32 s (by unfold m_p2; omega)] at e26
  have hin := w_le_at (w_le_trans a1.1 b1.1) hst.2.2.2.2.1
  rw [← e26] at hin
  have bm := (b2 mb w_mo_refl (m_L_nd LB)).1
  refine r_term (m_rr_0 e56) (by simp) bm hin (fun C rC fC => ?_)
  have gC := m_f0_gp fC
  have tC : m_tx C mb us lt := m_tx_le (m_tx_p2 ht (m_gp_trans gB gC)) (w_le_trans a1.1 b1.1)
  refine r_bText rC tC.2.2.1 rfl (by omega) (by simp; omega) (fun D rD fD => ?_)
  have f3 := m_fr_trans fC fD
  refine r_hashS b2 (m_f0_L LB f3) rD (by simp; omega) hS3 (fun t3 E me e1' e2' LE wE fE => ?_)
  intro _
  have gE : m_gp m_p2 I E := m_gp_trans gB (m_gp_trans (m_f0_gp f3) (m_f1_gp fE))
  refine ⟨by decide, ?_⟩
  intro I51 e51
  have g51 : m_gp (fun f k => f = 33 ∧ k = 48) E I51 := by rw [e51]; exact m_gp_su _ _ _ _
  refine ⟨by omega, by omega, ?_⟩
  intro v55 e55 _
  rw [Int.toNat_natCast, g51 29 s (by omega), gE 29 s (by unfold m_p2; omega), hst.2.1] at e55
  refine ⟨by decide, ?_⟩
  intro I59 e59
  have g59 : m_gp (fun f k => f = 29 ∧ k = 48) I51 I59 := by rw [e59]; exact m_gp_su _ _ _ _
  have gF : m_gp (fun f k => m_p2 f k ∨ ((f = 29 ∨ f = 33 ∨ f = 34) ∧ k = 48)) I I59 := m_gp_trans (m_gp_sub gE (fun f k p => Or.inl p)) (m_gp_trans (m_gp_sub g51 (fun f k p => Or.inr ⟨by omega, p.2⟩)) (m_gp_sub g59 (fun f k p => Or.inr ⟨by omega, p.2⟩)))
  have L59 : m_L I59 me nn K tl := m_L_gp (m_L_gp LE g51 (fun f k p => by omega)) g59 (fun f k p => by omega)
  have mo : w_mo S mk me := w_mo_trans a1 (w_mo_trans b1 e1')
  have T59 : m_tr I59 me 48 T := by
    refine m_tr_le ?_ mo.1
    have w31 := t_w_4 hT.1.1
    have en : ∀ f j, (36 ≤ f ∧ f ≤ 44) ∨ (f = 31 ∧ j = 48) → I59 f j = I f j := fun f j hf => gF f j (by unfold m_p2; omega)
    obtain ⟨h1, h2, h3, h4⟩ := hT
    refine ⟨h1, by rw [en _ _ (by omega)]; exact h2, fun x hx => ?_, fun k hk hne => ?_⟩
    · rw [en _ _ (by omega), en _ _ (by omega), en _ _ (by omega), en _ _ (by omega)]; exact h3 x hx
    · rw [en _ _ (by omega), en _ _ (by omega), en _ _ (by omega), en _ _ (by omega)]; exact h4 k hk hne
  have e29 : I59 29 48 = w_epn G := by rw [e59, su_eq, e55]; rfl
  have e33 : w_at me (I59 33 48) (w_cfn G lt) := by
    rw [g59 33 48 (by omega), e51, su_eq]
    exact wE
  have hmk : w_mo S me (w_mkh T 0 (t_top T) me) := w_mo_tls _ (fun v hv => by
    obtain ⟨y, hy, rfl⟩ := List.mem_map.mp hv
    exact hS4 y hy)
  have mo2 : w_mo S me (w_tl (w_mkh T 0 (t_top T) me) (w_esn G T cs lt)) := w_mo_trans hmk (w_mo_tl hS5)
  refine r_openEpoch2 (s := 48) (T := T) (ep := w_epn G) (cf := w_cfn G lt) (es := w_esn G T cs lt) rfl (by decide) L59 T59 (sw_w_c _) e29 (Or.inr e33) (w_le_at e1'.1 wB) (e2' _ mo2 (w_tl_nd (w_tls_nd _ (m_L_nd L59)))) (fun Z LZ wZ gZ => ?_)
  refine q t2 Z _ (w_mo_trans mo mo2) (m_bS_mo e2' mo2) LZ (w_le_at (w_le_trans e1'.1 mo2.1) wB) ?_ ?_ wZ (fun y hy => ?_) (m_gp_trans gF (m_gp_sub gZ (fun f k p => p.elim Or.inl (fun p => Or.inr ⟨by omega, p.2⟩))))
  · rw [gZ 33 48 (by unfold m_p2; omega)]; exact w_le_at mo2.1 e33
  · rw [gZ 29 48 (by unfold m_p2; omega)]; exact e29
  · have h1 := w_mkh_top hT.1.1 hy me
    obtain ⟨l', hl'⟩ := w_le_tl (w_mkh T 0 (t_top T) me) (w_esn G T cs lt)
    rw [hl']
    exact List.mem_append_left _ h1
end
