/-! ===== the reference: contexts, epochs, leaves signed ===== -/
noncomputable section
/-- what making terms touches -/
def m_p2 (f k : Nat) : Prop := (6 ≤ f ∧ f ≤ 12) ∨ f = 15 ∨ f = 17 ∨ f = 55 ∨ f = 87 ∨ (f = 1000 ∧ (k = 4 ∨ k = 5 ∨ k = 19 ∨ k = 56))
def w_pub (m : Nat) : Wt := w_t 5 (w_nm m) [] [] []
def w_b32 (x : Int) : List Wt := w_b16 (x / 65536) ++ w_b16 x
/-- a LEAF up to its signature -/
def w_lh (m : Int) (k p : Wt) (so : Int) (ph : Wt) : List Wt := w_b16 m ++ [k, p, w_by so] ++ (if so = 3 then [w_pb ph] else [])
/-- the signature of a LEAF -/
def w_lsg (m : Nat) (k : Wt) (so : Int) (ph : Wt) (leaf : Int) : Wt := w_t 7 (w_nm m) [] [] (w_lh m k (w_pub m) so ph ++ (if 1 < so then w_b16 leaf else []))
def t_top (T : w_T) : Nat := 2 ^ t_dp T - 1
/-- a group's context -/
def w_ctx (T : w_T) (ep : Int) (cf : Wt) : List Wt := w_b32 ep ++ [w_th T 0 (t_top T), w_pb cf]
def w_cfm (es cf : Wt) : Wt := w_t 2 (w_t 3 es [2] [] []) [] [] [w_pb cf]
def w_int (cf cm : Wt) : Wt := w_t 1 [] [] [] [w_pb cf, cm]
section
variable {I J : sr_V} {nn : Nat} {K : Wt → Prop} {tl mk mm l : List Wt} {a b c x wo : Int} {Q : Int → sr_V → Prop} {R : sr_V → Prop} {T : w_T} {s : Nat} {G : w_G} {P : Nat → Nat → Prop}
theorem m_f2_gp (h : m_f2 I J) : m_gp m_p2 I J := m_gp_sub (m_fr_gp h) (fun f k p => by
  unfold m_p2
  simp at p
  omega)
theorem m_f1_gp (h : m_f1 I J) : m_gp m_p2 I J := m_f2_gp (m_f1_f2 h)
theorem m_f0_gp (h : m_fr [55] [56] I J) : m_gp m_p2 I J := m_f2_gp (m_f0_f2 h)
theorem m_L_gp (h : m_L I mk nn K tl) (f : m_gp P I J) (p : ∀ f k, P f k → (f < 1000 ∧ (f < 6 ∨ 17 < f)) ∨ (f = 1000 ∧ k < 1000 ∧ k ≠ 4 ∧ k ≠ 5 ∧ k ≠ 18 ∧ k ≠ 19)) : m_L J mk nn K tl := by
  have fr : m_fr ((List.range 1000).filter (fun g => g < 6 || 17 < g)) ((List.range 1000).filter (fun g => g ≠ 4 && g ≠ 5 && g ≠ 18 && g ≠ 19)) I J := m_gp_fr f (fun f k hp => by
    rcases p f k hp with h | h
    · left
      refine ⟨by omega, ?_⟩
      rw [List.mem_filter, List.mem_range]
      simp
      omega
    · right
      refine ⟨h.1, ?_⟩
      rw [List.mem_filter, List.mem_range]
      simp
      omega)
  refine m_L_fr h fr ?_ ?_ ?_ ?_ ?_
  · intro g hg
    rw [List.mem_filter] at hg
    have := hg.2
    simp at this
    exact this
  · rw [List.mem_filter]; simp
  · rw [List.mem_filter]; simp
  · rw [List.mem_filter]; simp
  · rw [List.mem_filter]; simp
/-- members' secrets and keys -/
def m_me (I : sr_V) (mk : List Wt) : Prop := ∀ m : Nat, m < 24 → w_at mk (I 20 m) (w_nm m) ∧ w_at mk (I 21 m) (w_pub m)
theorem m_me_gp (h : m_me I mk) (f : m_gp P I J) (p : ∀ f k, P f k → f ≠ 20 ∧ f ≠ 21) : m_me J mk := by
  intro m hm
  rw [f 20 m (fun q => (p _ _ q).1 rfl), f 21 m (fun q => (p _ _ q).2 rfl)]
  exact h m hm
theorem m_me_le (h : m_me I mk) (hl : w_le mk mm) : m_me I mm := fun m hm => ⟨w_le_at hl (h m hm).1, w_le_at hl (h m hm).2⟩
theorem m_me_p2 (h : m_me I mk) (f : m_gp m_p2 I J) : m_me J mk := m_me_gp h f (fun f k p => by unfold m_p2 at p; omega)
theorem r_b32 (hx : sw_c x) (h : m_rr I mk l) (hl : l.length < 5990) (k : ∀ J, m_rr J mk (l ++ w_b32 x) → m_fr [55] [56] I J → R J) : rm_86 x I R := by
  have e : sw_shr x 16 = x / 65536 := sw_shr_k hx (k := 16) (by decide) (by decide)
  unfold rm_86
  rw [e]
  refine r_b16 (by unfold sw_c at hx ⊢; omega) h (by omega) (fun J1 r1 f1 => ?_)
  refine r_b16 hx r1 (by rw [List.length_append]; simp [w_b16]; omega) (fun J2 r2 f2 => k J2 ?_ (m_fr_trans f1 f2))
  unfold w_b32
  rw [← List.append_assoc]
  exact r2
theorem r_leafHead {m : Nat} {k ph : Wt} {so : Int} (hm : m < 24) (hL : m_L I mk nn K tl) (hM : m_me I mk) (hl5 : mk.length ≤ 44999) (hk : w_at mk a k) (h0 : 0 ≤ so) (h1 : so < 256) (hp : w_az mk b ph) (h : m_rr I mk l) (hl : l.length < 5900) (q : ∀ J, m_rr J mk (l ++ w_lh m k (w_pub m) so ph) → m_fr [55] [56] I J → R J) : rm_77 m a so b I R := by
  unfold rm_77
  refine r_b16 (by unfold sw_c; omega) h (by omega) (fun J1 r1 f1 => ?_)
  refine r_term r1 (by simp [w_b16]; omega) hl5 hk (fun J2 r2 f2 => ⟨by omega, by omega, ?_⟩)
  have f12 := m_fr_trans f1 f2
  intro v ev _
  rw [Int.toNat_natCast, f12.1 21 (by decide) (by decide)] at ev
  subst ev
  refine r_term r2 (by simp [w_b16]; omega) hl5 (hM m hm).2 (fun J3 r3 f3 => ?_)
  have f13 := m_fr_trans f12 f3
  refine r_b8 r3 (by simp [w_b16]; omega) (fun J4 r4 f4 => ?_)
  have f14 := m_fr_trans f13 f4
  rw [show so % 256 = so by omega] at r4
  refine ⟨fun c => q J4 ?_ f14, fun c => ?_⟩
  · unfold w_lh
    rw [if_neg c]
    simpa using r4
  · refine r_perhaps (m_f0_L hL f14) r4 (by simp [w_b16]; omega) hl5 hp (fun J5 r5 f5 => q J5 ?_ (m_fr_trans f14 f5))
    unfold w_lh
    rw [if_pos c]
    simpa using r5
theorem r_rs0 (hL : m_L I mk nn K tl) (e : J = su I 1000 56 0) : m_L J mk nn K tl ∧ m_rr J mk [] ∧ m_fr [55] [56] I J := by
  have E0 := m_e0_56 I 0
  rw [← e] at E0
  exact ⟨m_L_e0 hL E0, m_rr_0 (by rw [e, su_eq]), m_e0_fr E0⟩
theorem w_lh_len (m : Int) (k p : Wt) (so : Int) (ph : Wt) : (w_lh m k p so ph).length ≤ 6 := by
  unfold w_lh
  rw [List.length_append, List.length_append]
  have : ((if so = 3 then [w_pb ph] else []) : List Wt).length ≤ 1 := by split <;> simp
  simp [w_b16]
  omega
theorem r_signLeaf {m : Nat} {k ph : Wt} {so : Int} (hm : m < 24) (hL : m_L I mk nn K tl) (hM : m_me I mk) (hk : w_at mk a k) (h0 : 0 ≤ so) (h1 : so < 256) (hp : w_az mk b ph) (hc : sw_c c) (bd : m_bd (w_tl mk (w_lsg m k so ph c))) (q : ∀ t J, m_L J (w_tl mk (w_lsg m k so ph c)) nn K tl → w_at (w_tl mk (w_lsg m k so ph c)) t (w_lsg m k so ph c) → m_f1 I J → Q t J) : rm_69 m a so b c I Q := by
  have bd' := m_bd_le (w_le_tl _ _) bd
  unfold rm_69
  intro I12 e12
  obtain ⟨L1, r1, f1⟩ := r_rs0 hL e12
  refine r_leafHead hm L1 (m_me_p2 hM (m_f0_gp f1)) bd'.1 hk h0 h1 hp r1 (by simp) (fun J2 r2 f2 => ?_)
  have f12 := m_fr_trans f1 f2
  have ll := w_lh_len m k (w_pub m) so ph
  rw [List.nil_append] at r2
  have tail : ∀ J3 l3, m_rr J3 mk l3 → l3.length < 100 → m_fr [55] [56] I J3 → l3 = w_lh m k (w_pub m) so ph ++ (if 1 < so then w_b16 c else []) → rb_69_15 Q m J3 := by
    intro J3 l3 r3 h3 f3 e3
    unfold rb_69_15
    refine ⟨by omega, by omega, ?_⟩
    intro v ev _
    rw [Int.toNat_natCast, f3.1 20 (by decide) (by decide)] at ev
    subst ev
    have et : w_t (7 : Int).toNat (w_nm m) [] [] l3 = w_lsg m k so ph c := by rw [e3]; rfl
    refine r_part (Or.inr rfl) (m_f0_L hL f3) (hM m hm).1 r3 (by omega) (by rw [et]; exact bd) (fun t J a1 a2 a3 a4 _ => ?_)
    rw [et] at a1 a4
    exact q t J a1 a4 (m_fr_trans (m_f0_f1 f3) a2)
  refine ⟨fun cc => tail J2 _ r2 (by omega) f12 ?_, fun cc => ?_⟩
  · rw [if_neg (by omega), List.append_nil]
  · refine r_b16 hc r2 (by omega) (fun J3 r3 f3 => tail J3 _ r3 (by rw [List.length_append]; simp [w_b16]; omega) (m_fr_trans f12 f3) ?_)
    rw [if_pos (by omega)]
theorem t_top_h (h : t_dp T ≤ 4) : w_h (t_top T) = t_dp T ∧ t_top T + 2 ^ w_h (t_top T) ≤ t_w T ∧ 2 ^ w_h (t_top T) ≤ t_top T + 1 := by
  have key : ∀ d : Fin 5, w_h (2 ^ d.val - 1) = d.val ∧ (2 ^ d.val - 1) + 2 ^ w_h (2 ^ d.val - 1) ≤ 2 ^ (d.val + 1) - 1 ∧ 2 ^ w_h (2 ^ d.val - 1) ≤ (2 ^ d.val - 1) + 1 := by decide +kernel
  exact key ⟨t_dp T, by omega⟩
theorem r_rowContext {ep : Int} {cf : Wt} (hs : s < 49) (hL : m_L I mk nn K tl) (ht : m_tr I mk s T) (he : sw_c ep) (h29 : I 29 s = ep) (h33 : w_az mk (I 33 s) cf) (bd : m_bd (w_mkh T 0 (t_top T) mk)) (q : ∀ J, m_L J (w_mkh T 0 (t_top T) mk) nn K tl → m_rr J (w_mkh T 0 (t_top T) mk) (w_ctx T ep cf) → m_f2 I J → R J) : rm_157 s I R := by
  have hd := ht.1.1
  obtain ⟨h1, h2, h3⟩ := t_top_h hd
  have hle : w_le mk (w_mkh T 0 (t_top T) mk) := w_tls_le _ _
  unfold rm_157
  refine r_top hs ht.2.1 hd (fun _ => ?_)
  refine r_treeHash hs h2 h3 hL ht (by unfold sw_c; omega) bd (fun t J1 a1 a2 a3 _ => ?_)
  intro I19 e19
  obtain ⟨L2, r2, f2⟩ := r_rs0 a1 e19
  have f02 := m_fr_trans a3 (m_f0_f2 f2)
  refine ⟨by omega, by omega, ?_⟩
  intro v ev _
  rw [Int.toNat_natCast, f02.1 29 (by decide) (by decide), h29] at ev
  subst ev
  refine r_b32 he r2 (by simp) (fun J3 r3 f3 => ?_)
  refine r_term r3 (by simp [w_b32, w_b16]) bd.1 a2 (fun J4 r4 f4 => ⟨by omega, by omega, ?_⟩)
  have f24 := m_fr_trans f3 f4
  have f04 := m_fr_trans f02 (m_f0_f2 f24)
  intro w ew _
  rw [Int.toNat_natCast, f04.1 33 (by decide) (by decide)] at ew
  subst ew
  refine r_perhaps (m_f0_L L2 f24) r4 (by simp [w_b32, w_b16]) bd.1 (w_le_az hle h33) (fun J5 r5 f5 => ?_)
  refine q J5 (m_f0_L L2 (m_fr_trans f24 f5)) ?_ (m_fr_trans f04 (m_f0_f2 f5))
  have e5 : [] ++ w_b32 v ++ [w_th T 0 (2 ^ t_dp T - 1)] ++ [w_pb cf] = w_b32 v ++ [w_th T 0 (2 ^ t_dp T - 1), w_pb cf] := by simp
  rw [e5] at r5
  exact r5
theorem r_openEpoch {ep : Int} {cf j : Wt} (hs : s < 49) (hL : m_L I mk nn K tl) (ht : m_tr I mk s T) (he : sw_c ep) (h29 : I 29 s = ep) (h33 : w_az mk (I 33 s) cf) (hj : w_at mk a j) (bd : m_bd (w_tl (w_mkh T 0 (t_top T) mk) (w_t 3 j [0] [] (w_ctx T ep cf)))) (q : ∀ J, m_L J (w_tl (w_mkh T 0 (t_top T) mk) (w_t 3 j [0] [] (w_ctx T ep cf))) nn K tl → w_at (w_tl (w_mkh T 0 (t_top T) mk) (w_t 3 j [0] [] (w_ctx T ep cf))) (J 34 s) (w_t 3 j [0] [] (w_ctx T ep cf)) → m_gp (fun f k => m_p2 f k ∨ (f = 34 ∧ k = s)) I J → R J) : rm_71 s a I R := by
  have hle : w_le mk (w_mkh T 0 (t_top T) mk) := w_tls_le _ _
  unfold rm_71
  refine r_rowContext hs hL ht he h29 h33 (m_bd_le (w_le_tl _ _) bd) (fun J1 a1 a2 a3 => ?_)
  refine r_derl (b := 0) a1 (w_le_at hle hj) (by omega) (by omega) a2 (by unfold w_ctx w_b32 w_b16; simp) bd (fun t J2 b1 b2 b3 b4 _ => ⟨by omega, by omega, ?_⟩)
  intro I16 e16
  rw [Int.toNat_natCast] at e16
  have f3 := m_gp_su J2 34 s t
  rw [← e16] at f3
  refine q I16 (m_L_gp b1 f3 (fun f k p => by omega)) (by rw [e16, su_eq]; exact b4) ?_
  exact m_gp_trans (m_gp_sub (m_gp_trans (m_f2_gp a3) (m_f1_gp b2)) (fun f k p => Or.inl p)) (m_gp_sub f3 (fun f k p => Or.inr p))
theorem r_confirmation {cf es : Wt} (hs : s < 49) (hL : m_L I mk nn K tl) (h34 : w_at mk (I 34 s) es) (h33 : w_az mk (I 33 s) cf) (bd : m_bd (w_tl (w_tl mk (w_t 3 es [2] [] [])) (w_cfm es cf))) (q : ∀ t J, m_L J (w_tl (w_tl mk (w_t 3 es [2] [] [])) (w_cfm es cf)) nn K tl → w_at (w_tl (w_tl mk (w_t 3 es [2] [] [])) (w_cfm es cf)) t (w_cfm es cf) → m_f1 I J → Q t J) : rm_72 s I Q := by
  have bd1 := m_bd_le (w_le_tl _ _) bd
  unfold rm_72
  refine ⟨by omega, by omega, ?_⟩
  intro v ev _
  rw [Int.toNat_natCast] at ev
  subst ev
  refine r_derived (b := 2) hL h34 (by omega) (by omega) bd1 (fun t1 J1 a1 a2 a3 a4 _ => ?_)
  intro I15 e15
  obtain ⟨L2, r2, f2⟩ := r_rs0 a1 e15
  refine ⟨by omega, by omega, ?_⟩
  have f02 := m_fr_trans a2 (m_f0_f1 f2)
  intro w ew _
  rw [Int.toNat_natCast, f02.1 33 (by decide) (by decide)] at ew
  subst ew
  refine r_perhaps L2 r2 (by simp) bd1.1 (w_le_az (w_le_tl _ _) h33) (fun J3 r3 f3 => ?_)
  refine r_part (Or.inl rfl) (m_f0_L L2 f3) a4 r3 (by simp) bd (fun t J b1 b2 b3 b4 _ => ?_)
  exact q t J b1 b4 (m_fr_trans f02 (m_fr_trans (m_f0_f1 f3) b2))
theorem r_interim {cf cm : Wt} (hs : s < 49) (hL : m_L I mk nn K tl) (h33 : w_az mk (I 33 s) cf) (ha : w_at mk a cm) (bd : m_bd (w_tl mk (w_int cf cm))) (q : ∀ t J, m_L J (w_tl mk (w_int cf cm)) nn K tl → w_at (w_tl mk (w_int cf cm)) t (w_int cf cm) → m_f1 I J → Q t J) : rm_73 s a I Q := by
  have bd1 := m_bd_le (w_le_tl _ _) bd
  unfold rm_73
  intro I2 e2
  obtain ⟨L2, r2, f2⟩ := r_rs0 hL e2
  refine ⟨by omega, by omega, ?_⟩
  intro w ew _
  rw [Int.toNat_natCast, f2.1 33 (by decide) (by decide)] at ew
  subst ew
  refine r_perhaps L2 r2 (by simp) bd1.1 h33 (fun J3 r3 f3 => ?_)
  refine r_term r3 (by simp) bd1.1 ha (fun J4 r4 f4 => ?_)
  have f34 := m_fr_trans f3 f4
  refine r_hash (m_f0_L L2 f34) r4 (by simp) bd (fun t J b1 b2 b3 b4 _ => ?_)
  exact q t J b1 b4 (m_fr_trans (m_f0_f1 (m_fr_trans f2 f34)) b2)
/-- wanted -/
def w_wt (T : w_T) (x o : Nat) : Wt := w_t 1 [] [] [] [t_ky T x, w_pb (t_ph T x), w_th T (t_um T x) o]
theorem r_wanted {x o : Nat} (hs : s < 49) (hx : x < t_w T) (hk : t_ky T x ≠ []) (ho : o + 2 ^ w_h o ≤ t_w T) (ho0 : 2 ^ w_h o ≤ o + 1) (hL : m_L I mk nn K tl) (ht : m_tr I mk s T) (bd : m_bd (w_tl (w_mkh T (t_um T x) o mk) (w_wt T x o))) (q : ∀ t J, m_L J (w_tl (w_mkh T (t_um T x) o mk) (w_wt T x o)) nn K tl → w_at (w_tl (w_mkh T (t_um T x) o mk) (w_wt T x o)) t (w_wt T x o) → m_f2 I J → Q t J) : rm_200 s x o I Q := by
  have bd1 := m_bd_le (w_le_tl _ _) bd
  have w31 := t_w31 ht.1.1
  obtain ⟨a1, a2, a3, a4⟩ := ht.2.2.1 x hx
  have um := ht.1.2.1 x hx
  have hle : w_le mk (w_mkh T (t_um T x) o mk) := w_tls_le _ _
  unfold rm_200 rm_67
  rw [r_sp hs (show x < 31 by omega)]
  intro _
  refine ⟨by omega, by omega, ?_⟩
  intro v ev _
  rw [Int.toNat_natCast, a4] at ev
  subst ev
  refine r_treeHash hs ho ho0 hL ht (by unfold sw_c; omega) bd1 (fun t J1 b1 b2 b3 _ => ?_)
  intro I25 e25
  obtain ⟨L2, r2, f2⟩ := r_rs0 b1 e25
  have f02 := m_fr_trans b3 (m_f0_f2 f2)
  refine ⟨by omega, by omega, ?_⟩
  intro v29 e29 _
  rw [Int.toNat_natCast, f02.1 37 (by decide) (by decide)] at e29
  subst e29
  refine r_term r2 (by simp) bd1.1 (w_le_at hle (w_az_ne a2 hk)) (fun J3 r3 f3 => ⟨by omega, by omega, ?_⟩)
  have f03 := m_fr_trans f02 (m_f0_f2 f3)
  intro v39 e39 _
  rw [Int.toNat_natCast, f03.1 38 (by decide) (by decide)] at e39
  subst e39
  refine r_perhaps (m_f0_L L2 f3) r3 (by simp) bd1.1 (w_le_az hle a3) (fun J4 r4 f4 => ?_)
  refine r_term r4 (by simp) bd1.1 b2 (fun J5 r5 f5 => ?_)
  have f25 := m_fr_trans f3 (m_fr_trans f4 f5)
  refine r_hash (m_f0_L L2 f25) r5 (by simp) bd (fun t J c1 c2 c3 c4 _ => ?_)
  exact q t J c1 c4 (m_fr_trans f02 (m_fr_trans (m_f0_f2 f25) (m_f1_f2 c2)))
end
end
