/-! ===== the reference: create ===== -/
noncomputable section
/-- the tree of who creates a group -/
def w_T0 (m : Nat) (key : Wt) : w_T := (0, fun _ => key, fun _ => [], fun _ => 0, fun _ => (m : Int), fun _ => w_pub m, fun _ => 1, fun _ => w_lsg m key 1 [] 0)
def w_ky (nn : Nat) : Wt := w_t 5 (w_nm nn) [] [] []
def w_es0 (m nn : Nat) : Wt := w_t 3 (w_nm (nn + 1)) [0] [] (w_ctx (w_T0 m (w_ky nn)) 0 [])
def w_G0 (m nn : Nat) : w_G := (0, 0, w_T0 m (w_ky nn), w_int [] (w_cfm (w_es0 m nn) []), [], w_es0 m nn, fun _ => w_nm nn)
/-- what create makes -/
def w_crL (m nn : Nat) : List Wt := [w_nm nn, w_ky nn, w_lsg m (w_ky nn) 1 [] 0, w_nm (nn + 1)] ++ (w_ordk (w_h (t_top (w_T0 m (w_ky nn)))) (t_top (w_T0 m (w_ky nn))) (w_h (t_top (w_T0 m (w_ky nn))) + 1) 0).map (w_th (w_T0 m (w_ky nn)) 0) ++ [w_es0 m nn, w_t 3 (w_es0 m nn) [2] [] [], w_cfm (w_es0 m nn) [], w_int [] (w_cfm (w_es0 m nn) [])]
theorem w_t_ne (s : Nat) (a b c : Wt) (l : List Wt) : w_t s a b c l ≠ [] := by
  unfold w_t w_mk
  simp
theorem w_T0_ok (m : Nat) (hm : m < 24) (nn : Nat) : t_ok (w_T0 m (w_ky nn)) := by
  refine ⟨by show 0 ≤ 4; omega, fun x hx => ?_, fun k hk hn => ?_⟩
  · exact ⟨by show (0 : Int) ≤ 0; omega, by show (0 : Int) < 65536; omega, fun _ => rfl, fun h => absurd h (w_t_ne _ _ _ _ _)⟩
  · exact ⟨by show (0 : Int) ≤ m; omega, by show (m : Int) < 65536; omega, by show (1 : Int) ≤ 1; omega, by show (1 : Int) ≤ 3; omega, fun _ => rfl⟩
theorem w_G0_ok (m : Nat) (nn : Nat) : gg_ok (w_G0 m nn) := ⟨by show sw_c 0; unfold sw_c; omega, by show 2 * 0 < 2 ^ (0 + 1) - 1; decide, w_t_ne _ _ _ _ _, fun x hx => Or.inr ⟨_, rfl⟩, fun x hx h => absurd h (w_t_ne _ _ _ _ _)⟩
theorem w_tls_4 (mk : List Wt) (a b c d : Wt) : w_tls mk [a, b, c, d] = w_tl (w_tl (w_tl (w_tl mk a) b) c) d := rfl
theorem w_crL_tls (mk : List Wt) (m nn : Nat) : w_tls mk (w_crL m nn) = w_tl (w_tl (w_tl (w_tl (w_mkh (w_T0 m (w_ky nn)) 0 (t_top (w_T0 m (w_ky nn))) (w_tl (w_tl (w_tl (w_tl mk (w_nm nn)) (w_ky nn)) (w_lsg m (w_ky nn) 1 [] 0)) (w_nm (nn + 1)))) (w_es0 m nn)) (w_t 3 (w_es0 m nn) [2] [] [])) (w_cfm (w_es0 m nn) [])) (w_int [] (w_cfm (w_es0 m nn) [])) := by
  unfold w_crL w_mkh
  rw [w_tls_app, w_tls_app, w_tls_4, w_tls_4]
theorem w_tls_mem {w : Wt} : ∀ {L : List Wt} (mk : List Wt), (w ∈ L ∨ w ∈ mk) → w ∈ w_tls mk L
  | [], m0, h => by
    rcases h with h | h
    · simp at h
    · exact h
  | v :: L, m0, h => by
    refine w_tls_mem (L := L) (w_tl m0 v) ?_
    rcases h with h | h
    · rw [List.mem_cons] at h
      rcases h with h | h
      · rw [h]; exact Or.inr w_tl_at
      · exact Or.inl h
    · obtain ⟨l, e⟩ := w_tl_app m0 v
      rw [e]
      exact Or.inr (List.mem_append_left _ h)
theorem w_ordk_all : ∀ x : Fin 31, ∀ y : Fin 31, x.val + 1 ≤ y.val + 2 ^ w_h x.val ∧ y.val < x.val + 2 ^ w_h x.val → 2 ^ w_h x.val ≤ x.val + 1 → y.val ∈ w_ordk (w_h x.val) x.val (w_h x.val + 1) 0 := by decide +kernel
/-- every hash below x is made with that of x -/
theorem w_mkh_mem (T : w_T) (wo : Int) {x y : Nat} (hx : x < 31) (hy : y < 31) (hi : w_in x y) (h0 : 2 ^ w_h x ≤ x + 1) (mk : List Wt) : w_th T wo y ∈ w_mkh T wo x mk := w_tls_mem mk (Or.inl (List.mem_map.mpr ⟨y, w_ordk_all ⟨x, hx⟩ ⟨y, hy⟩ hi h0, rfl⟩))
/-- all hashes of a tree -/
theorem w_mkh_top {T : w_T} (hd : t_dp T ≤ 4) {y : Nat} (hy : y < t_w T) (mk : List Wt) : w_th T 0 y ∈ w_mkh T 0 (t_top T) mk := by
  obtain ⟨h1, h2, h3⟩ := t_top_h hd
  have w31 := t_w31 hd
  have key : ∀ d : Fin 5, 2 ^ (d.val + 1) - 1 = 2 ^ d.val - 1 + 2 ^ d.val := by decide +kernel
  have kd : 2 ^ (t_dp T + 1) - 1 = 2 ^ t_dp T - 1 + 2 ^ t_dp T := key ⟨t_dp T, by omega⟩
  have hp : 0 < 2 ^ t_dp T := Nat.two_pow_pos _
  have hp2 : 0 < 2 ^ w_h (t_top T) := Nat.two_pow_pos _
  refine w_mkh_mem T 0 (by omega) (by omega) ⟨?_, ?_⟩ h3 mk
  · rw [h1]
    unfold t_top
    omega
  · rw [h1]
    unfold t_top
    unfold t_w at hy
    omega
section
variable {I J : sr_V} {nn : Nat} {K : Wt → Prop} {tl mk mm l : List Wt} {a b c x wo : Int} {Q : Int → sr_V → Prop} {R : sr_V → Prop} {T : w_T} {s : Nat} {G : w_G} {P : Nat → Nat → Prop}
theorem m_nm_new (h : m_L I mk nn K tl) : w_tl mk (w_nm nn) = mk ++ [w_nm nn] := by
  refine if_neg (fun hm => ?_)
  obtain ⟨u, u1, u2⟩ := (m_L_row h).mpr hm
  obtain ⟨r1, r2, r3, r4, r5, r6, r7⟩ := h.1.2.2.2.2.1 u u1.1 u1.2
  by_cases c8 : I 6 u = 8
  · obtain ⟨i, hi, g⟩ := r7 c8
    rw [u2] at g
    have := (w_mk_inj g).2
    simp at this
    omega
  · have := r6 c8
    rw [u2] at this
    unfold w_tm at this
    have e8 := (w_mk_inj this).1
    have := r1.1
    have := r1.2.1
    omega
theorem m_nameT (h : m_L I mk nn K tl) (bd : m_bd (w_tl mk (w_nm nn))) (k : ∀ (t : Int) (J : sr_V), m_L J (w_tl mk (w_nm nn)) (nn + 1) K tl → m_f1 I J → w_at (w_tl mk (w_nm nn)) t (w_nm nn) → Q t J) : rm_55 I Q := by
  rw [m_nm_new h] at bd k
  exact m_nameL h bd (fun t J a1 a2 a3 a4 => k t J a1 a2 a4)
theorem r_openEpoch2 {ep : Int} {cf j es : Wt} (ees : es = w_t 3 j [0] [] (w_ctx T ep cf)) (hs : s < 49) (hL : m_L I mk nn K tl) (ht : m_tr I mk s T) (he : sw_c ep) (h29 : I 29 s = ep) (h33 : w_az mk (I 33 s) cf) (hj : w_at mk a j) (bd : m_bd (w_tl (w_mkh T 0 (t_top T) mk) es)) (q : ∀ J, m_L J (w_tl (w_mkh T 0 (t_top T) mk) es) nn K tl → w_at (w_tl (w_mkh T 0 (t_top T) mk) es) (J 34 s) es → m_gp (fun f k => m_p2 f k ∨ (f = 34 ∧ k = s)) I J → R J) : rm_71 s a I R := by
  subst ees
  exact r_openEpoch hs hL ht he h29 h33 hj bd q
/-- where create writes -/
def m_pc (m : Nat) (f k : Nat) : Prop := m_p2 f k ∨ m_pl m f k ∨ ((f = 27 ∨ f = 46 ∨ f = 47 ∨ f = 28) ∧ k = m) ∨ (f = 1000 ∧ k = 0)
theorem r_create_go {m : Nat} (hm : m < 24) (hL : m_L I mk nn K tl) (hM : m_me I mk) (bd : m_bd (w_tls mk (w_crL m nn))) (q : ∀ J, m_L J (w_tls mk (w_crL m nn)) (nn + 2) K tl → m_st J (w_tls mk (w_crL m nn)) m (w_G0 m nn) → J 27 m = 1 → J 46 m = 0 → J 47 m = 0 → J 28 m = 0 → J 1000 0 = 0 → m_gp (m_pc m) I J → R J) : rb_13_16 R m 0 I := by
  have tot := w_crL_tls mk m nn
  rw [tot] at bd q
  clear tot
  obtain ⟨es, ees⟩ : ∃ es, es = w_es0 m nn := ⟨_, rfl⟩
  rw [← ees] at bd q
  have b8 := m_bd_le (w_le_tl _ _) bd
  have b7 := m_bd_le (w_le_tl _ _) b8
  have b6 := m_bd_le (w_le_tl _ _) b7
  have b5 := m_bd_le (w_le_tl _ _) b6
  have b4 := m_bd_le (w_tls_le _ _) b5
  have b3 := m_bd_le (w_le_tl _ _) b4
  have b2 := m_bd_le (w_le_tl _ _) b3
  have b1 := m_bd_le (w_le_tl _ _) b2
  unfold rb_13_16
  intro I1 e1
  have g1 := m_gp_su I 1000 0 0
  rw [← e1] at g1
  have L1 := m_L_gp hL g1 (fun f k p => by omega)
  have M1 := m_me_gp hM g1 (fun f k p => by omega)
  intro v ev _
  have ev : v = 0 := by rw [ev, e1, su_eq]
  refine ⟨fun _ => ?_, fun c => by omega⟩
  refine m_nameT L1 b1 (fun t1 J2 L2 f2 a2 _ => ?_)
  refine r_public L2 a2 b2 (fun t2 J3 L3 f3 _ a3 _ => ?_)
  have g3 : m_gp (m_pc m) I J3 := m_gp_trans (m_gp_sub g1 (fun f k p => by unfold m_pc; omega)) (m_gp_sub (m_gp_trans (m_f1_gp f2) (m_f1_gp f3)) (fun f k p => Or.inl p))
  have M3 : m_me J3 (w_tl (w_tl mk (w_nm nn)) (w_ky nn)) := m_me_le (m_me_p2 M1 (m_gp_trans (m_f1_gp f2) (m_f1_gp f3))) (w_le_trans (w_le_tl _ _) (w_le_tl _ _))
  have z3 : J3 1000 0 = 0 := by rw [f3.2 0 (by decide), f2.2 0 (by decide), e1, su_eq]
  unfold rm_67
  rw [show sw_w (sw_w (31 * (m : Int)) + 0) = ((31 * m : Nat) : Int) from by have := r_sp (s := m) (x := 0) (by omega) (by omega); exact this]
  intro _
  refine ⟨by omega, by omega, ?_⟩
  intro I4 e4
  rw [Int.toNat_natCast] at e4
  have g4' := m_gp_su J3 31 m 0
  rw [← e4] at g4'
  have g4 : m_gp (m_pc m) I I4 := m_gp_trans g3 (m_gp_sub g4' (fun f k p => by unfold m_pc m_pl; omega))
  have L4 := m_L_gp L3 g4' (fun f k p => by omega)
  have M4 := m_me_gp M3 g4' (fun f k p => by omega)
  -- the blanks
  have lp : ∀ (n k : Nat) {G : sr_V}, k ≤ 31 → 31 - k < n → m_L G (w_tl (w_tl mk (w_nm nn)) (w_ky nn)) (nn + 1) K tl → m_me G (w_tl (w_tl mk (w_nm nn)) (w_ky nn)) → m_gp (m_pc m) I G → G 31 m = 0 → G 1000 0 = 0 → (∀ f x, f = 36 ∨ f = 37 ∨ f = 38 ∨ f = 39 ∨ f = 44 → x < k → G f (31 * m + x) = 0) → rl_13_42 R n m m t1 t2 ((31 * m : Nat) : Int) k G := by
    intro n
    induction n with
    | zero => intro k G h1 h2; omega
    | succ n ih =>
      intro k G h1 h2 LG MG gG d31 z0 hz
      unfold rl_13_42
      refine ⟨fun c => ?_, fun c => ?_⟩
      · have ek : k = 31 := by omega
        subst ek
        refine ⟨by omega, by omega, ?_⟩
        intro I2 e2
        refine ⟨by omega, by omega, ?_⟩
        intro I7 e7
        refine ⟨by omega, by omega, ?_⟩
        intro I12 e12
        refine ⟨by omega, by omega, ?_⟩
        intro v16 e16 _
        refine ⟨by omega, by omega, ?_⟩
        intro I20 e20
        refine ⟨by omega, by omega, ?_⟩
        intro I25 e25
        rw [Int.toNat_natCast] at e2 e7 e12 e16 e20 e25
        have ev16 : v16 = G 21 m := by
          rw [e16, e12, e7, e2]
          simp [su_at]
        have gs : m_gp (fun f k => (f = 36 ∨ f = 37 ∨ f = 40 ∨ f = 43 ∨ f = 41) ∧ k = 31 * m) G I25 := by
          intro f k hp
          rw [e25, e20, e12, e7, e2]
          simp only [su_at]
          rw [if_neg (by omega), if_neg (by omega), if_neg (by omega), if_neg (by omega), if_neg (by omega)]
        have w36 : I25 36 (31 * m) = 1 := by rw [e25, e20, e12, e7, e2]; simp [su_at]
        have w37 : I25 37 (31 * m) = t2 := by rw [e25, e20, e12, e7]; simp [su_at]
        have w40 : I25 40 (31 * m) = m := by rw [e25, e20, e12]; simp [su_at]
        have w43 : I25 43 (31 * m) = G 21 m := by rw [e25, e20, ev16]; simp [su_at]
        have w41 : I25 41 (31 * m) = 1 := by rw [e25]; simp [su_at]
        clear e2 e7 e12 e16 e20 e25
        have L25 := m_L_gp LG gs (fun f k p => by omega)
        have M25 := m_me_gp MG gs (fun f k p => by omega)
        have g25 : m_gp (m_pc m) I I25 := m_gp_trans gG (m_gp_sub gs (fun f k p => by unfold m_pc m_pl; omega))
        refine r_signLeaf (ph := []) hm L25 M25 a3 (by omega) (by omega) (Or.inl ⟨rfl, rfl⟩) (by unfold sw_c; omega) b3 (fun t3 J5 L5 a5 f5 _ => ?_)
        have h5 := m_f1_gp f5
        refine ⟨by omega, by omega, ?_⟩
        intro I37 e37
        refine ⟨by omega, by omega, ?_⟩
        intro I42 e42
        refine ⟨by omega, by omega, ?_⟩
        intro I47 e47
        refine ⟨by omega, by omega, ?_⟩
        intro I52 e52
        refine ⟨by omega, by omega, ?_⟩
        intro I57 e57
        refine ⟨by omega, by omega, ?_⟩
        intro I62 e62
        unfold rm_70
        refine ⟨by omega, by omega, ?_⟩
        intro I63 e63
        refine ⟨by omega, by omega, ?_⟩
        intro I64 e64
        refine ⟨by omega, by omega, ?_⟩
        intro I65 e65
        rw [Int.toNat_natCast] at e37 e42 e47 e52 e57 e62 e63 e64 e65
        have gt : m_gp (fun f k => ((f = 42 ∨ f = 44) ∧ k = 31 * m) ∨ ((f = 27 ∨ f = 29 ∨ f = 30 ∨ f = 33 ∨ f = 46 ∨ f = 47 ∨ f = 28) ∧ k = m)) J5 I65 := by
          intro f k hp
          rw [e65, e64, e63, e62, e57, e52, e47, e42, e37]
          simp only [su_at]
          rw [if_neg (by omega), if_neg (by omega), if_neg (by omega), if_neg (by omega), if_neg (by omega), if_neg (by omega), if_neg (by omega), if_neg (by omega), if_neg (by omega)]
        have x42 : I65 42 (31 * m) = t3 := by rw [e65, e64, e63, e62, e57, e52, e47, e42, e37]; simp [su_at]
        have x44 : I65 44 (31 * m) = t1 := by rw [e65, e64, e63, e62, e57, e52, e47, e42]; simp [su_at]
        have x27 : I65 27 m = 1 := by rw [e65, e64, e63, e62, e57, e52, e47]; simp [su_at]
        have x29 : I65 29 m = 0 := by rw [e65, e64, e63, e62, e57, e52]; simp [su_at]
        have x30 : I65 30 m = 0 := by rw [e65, e64, e63, e62, e57]; simp [su_at]
        have x33 : I65 33 m = 0 := by rw [e65, e64, e63, e62]; simp [su_at]
        have x46 : I65 46 m = 0 := by rw [e65, e64, e63]; simp [su_at]
        have x47 : I65 47 m = 0 := by rw [e65, e64]; simp [su_at]
        have x28 : I65 28 m = 0 := by rw [e65]; simp [su_at]
        clear e37 e42 e47 e52 e57 e62 e63 e64 e65
        have L6 := m_L_gp L5 gt (fun f k p => by omega)
        have g65 : m_gp (m_pc m) I I65 := m_gp_trans (m_gp_trans g25 (m_gp_sub h5 (fun f k p => Or.inl p))) (m_gp_sub gt (fun f k p => by unfold m_pc m_pl; omega))
        refine m_nameT L6 b4 (fun t4 J7 L7 f7 a7 _ => ?_)
        have h7 := m_f1_gp f7
        have k7 : ∀ f k, (29 ≤ f ∧ f ≤ 47) ∨ f = 27 ∨ f = 28 → J7 f k = I65 f k := fun f k h => h7 f k (by unfold m_p2; omega)
        have k5 : ∀ f k, (29 ≤ f ∧ f ≤ 47) → J5 f k = I25 f k := fun f k h => h5 f k (by unfold m_p2; omega)
        have le7 : w_le (w_tl (w_tl mk (w_nm nn)) (w_ky nn)) (w_tl (w_tl (w_tl (w_tl mk (w_nm nn)) (w_ky nn)) (w_lsg m (w_ky nn) 1 [] 0)) (w_nm (nn + 1))) := w_le_trans (w_le_tl _ _) (w_le_tl _ _)
        have tr7 : m_tr J7 (w_tl (w_tl (w_tl (w_tl mk (w_nm nn)) (w_ky nn)) (w_lsg m (w_ky nn) 1 [] 0)) (w_nm (nn + 1))) m (w_T0 m (w_ky nn)) := by
          refine ⟨w_T0_ok m hm nn, ?_, fun x hx => ?_, fun k hk hn => ?_⟩
          · rw [k7 31 m (by omega), gt 31 m (by omega), k5 31 m (by omega), gs 31 m (by omega), d31]
            rfl
          · have hx0 : x = 0 := by
              have : x < 1 := hx
              omega
            subst hx0
            rw [k7 36 _ (by omega), gt 36 _ (by omega), k5 36 _ (by omega), k7 37 _ (by omega), gt 37 _ (by omega), k5 37 _ (by omega), k7 38 _ (by omega), gt 38 _ (by omega), k5 38 _ (by omega), gs 38 _ (by omega), k7 39 _ (by omega), gt 39 _ (by omega), k5 39 _ (by omega), gs 39 _ (by omega), hz 38 0 (by omega) (by omega), hz 39 0 (by omega) (by omega)]
            refine ⟨?_, ?_, Or.inl ⟨rfl, rfl⟩, rfl⟩
            · show I25 36 (31 * m) = _
              rw [w36, if_neg (show t_ky (w_T0 m (w_ky nn)) 0 ≠ [] from w_t_ne _ _ _ _ _)]
              rfl
            · show w_az _ (I25 37 (31 * m)) _
              rw [w37]
              exact Or.inr (w_le_at le7 a3)
          · have hk0 : k = 0 := by
              have : 2 * k < 1 := hk
              omega
            subst hk0
            show J7 40 (31 * m) = _ ∧ w_at _ (J7 43 (31 * m)) _ ∧ J7 41 (31 * m) = _ ∧ w_at _ (J7 42 (31 * m)) _
            rw [k7 40 _ (by omega), gt 40 _ (by omega), k5 40 _ (by omega), w40, k7 43 _ (by omega), gt 43 _ (by omega), k5 43 _ (by omega), w43, k7 41 _ (by omega), gt 41 _ (by omega), k5 41 _ (by omega), w41, k7 42 _ (by omega), x42]
            exact ⟨rfl, w_le_at le7 (MG m hm).2, rfl, w_le_at (w_le_tl _ _) a5⟩
        refine r_openEpoch2 (T := w_T0 m (w_ky nn)) (ep := 0) (cf := []) ees (by omega) L7 tr7 (by unfold sw_c; omega) (by rw [k7 29 m (by omega), x29]) (by rw [k7 33 m (by omega), x33]; exact Or.inl ⟨rfl, rfl⟩) a7 b6 (fun J8 L8 a8 g8 => ?_)
        have le8 : w_le (w_tl (w_tl (w_tl (w_tl mk (w_nm nn)) (w_ky nn)) (w_lsg m (w_ky nn) 1 [] 0)) (w_nm (nn + 1))) (w_tl (w_mkh (w_T0 m (w_ky nn)) 0 (t_top (w_T0 m (w_ky nn))) (w_tl (w_tl (w_tl (w_tl mk (w_nm nn)) (w_ky nn)) (w_lsg m (w_ky nn) 1 [] 0)) (w_nm (nn + 1)))) es) := w_le_trans (w_tls_le _ _) (w_le_tl _ _)
        have k8 : ∀ f k, (29 ≤ f ∧ f ≤ 47 ∧ f ≠ 34) ∨ f = 27 ∨ f = 28 → J8 f k = I65 f k := fun f k h => by rw [g8 f k (by unfold m_p2; omega), k7 f k (by omega)]
        refine r_confirmation (cf := []) (es := es) (by omega) L8 a8 (by rw [k8 33 m (by omega), x33]; exact Or.inl ⟨rfl, rfl⟩) b8 (fun t9 J9 L9 a9 f9 _ => ?_)
        have h9 := m_f1_gp f9
        have k9 : ∀ f k, (29 ≤ f ∧ f ≤ 47 ∧ f ≠ 34) ∨ f = 27 ∨ f = 28 → J9 f k = I65 f k := fun f k h => by rw [h9 f k (by unfold m_p2; omega), k8 f k h]
        refine r_interim (cf := []) (cm := w_cfm (es) []) (by omega) L9 (by rw [k9 33 m (by omega), x33]; exact Or.inl ⟨rfl, rfl⟩) a9 bd (fun t10 J10 L10 a10 f10 _ => ?_)
        have h10 := m_f1_gp f10
        have k10 : ∀ f k, (29 ≤ f ∧ f ≤ 47 ∧ f ≠ 34) ∨ f = 27 ∨ f = 28 → J10 f k = I65 f k := fun f k h => by rw [h10 f k (by unfold m_p2; omega), k9 f k h]
        refine ⟨by omega, by omega, ?_⟩
        intro I11 e11
        rw [Int.toNat_natCast] at e11
        have g11' := m_gp_su J10 32 m t10
        rw [← e11] at g11'
        have k11 : ∀ f k, (29 ≤ f ∧ f ≤ 47 ∧ f ≠ 34 ∧ f ≠ 32) ∨ f = 27 ∨ f = 28 → I11 f k = I65 f k := fun f k h => by rw [g11' f k (by omega), k10 f k (by omega)]
        have le9 : w_le (w_tl (w_mkh (w_T0 m (w_ky nn)) 0 (t_top (w_T0 m (w_ky nn))) (w_tl (w_tl (w_tl (w_tl mk (w_nm nn)) (w_ky nn)) (w_lsg m (w_ky nn) 1 [] 0)) (w_nm (nn + 1)))) (es)) (w_tl (w_tl (w_tl (w_tl (w_mkh (w_T0 m (w_ky nn)) 0 (t_top (w_T0 m (w_ky nn))) (w_tl (w_tl (w_tl (w_tl mk (w_nm nn)) (w_ky nn)) (w_lsg m (w_ky nn) 1 [] 0)) (w_nm (nn + 1)))) (es)) (w_t 3 (es) [2] [] [])) (w_cfm (es) [])) (w_int [] (w_cfm (es) []))) := w_le_trans (w_le_tl _ _) (w_le_trans (w_le_tl _ _) (w_le_tl _ _))
        refine q I11 (m_L_gp L10 g11' (fun f k p => by omega)) ?_ ?_ ?_ ?_ ?_ ?_ ?_
        · refine ⟨w_G0_ok m nn, ?_, ?_, ?_, ?_, ?_, ?_, fun x hx => ?_, fun x hx => ?_⟩
          · rw [k11 29 m (by omega), x29]; rfl
          · rw [k11 30 m (by omega), x30]; rfl
          · refine m_tr_eq (s := m) (I := J7) (m_tr_le tr7 (w_le_trans le8 le9)) ?_ (fun f x h1 h2 h3 => ?_)
            · rw [k11 31 m (by omega), k7 31 m (by omega)]
            · rw [k11 f _ (by omega), k7 f _ (by omega)]
          · rw [e11, su_eq, show gg_in (w_G0 m nn) = w_int [] (w_cfm es []) from by rw [ees]; rfl]
            exact a10
          · rw [k11 33 m (by omega), x33]; exact Or.inl ⟨rfl, rfl⟩
          · rw [g11' 34 m (by omega), h10 34 m (by unfold m_p2; omega), h9 34 m (by unfold m_p2; omega)]
            rw [show gg_es (w_G0 m nn) = es from by rw [ees]; rfl]
            exact w_le_at le9 a8
          · have hx0 : x = 0 := by
              have : x < 1 := hx
              omega
            subst hx0
            show w_az _ (I11 44 (31 * m)) _
            rw [k11 44 _ (by omega), x44]
            refine Or.inr (w_le_at ?_ a2)
            exact w_le_trans (w_le_tl _ _) (w_le_trans le7 (w_le_trans le8 le9))
          · obtain ⟨l9, e9⟩ := le9
            rw [e9]
            refine List.mem_append_left _ ?_
            obtain ⟨l8, e8⟩ := w_le_tl (w_mkh (w_T0 m (w_ky nn)) 0 (t_top (w_T0 m (w_ky nn))) (w_tl (w_tl (w_tl (w_tl mk (w_nm nn)) (w_ky nn)) (w_lsg m (w_ky nn) 1 [] 0)) (w_nm (nn + 1)))) (es)
            rw [e8]
            exact List.mem_append_left _ (w_mkh_top (w_T0_ok m hm nn).1 hx _)
        · rw [k11 27 m (by omega), x27]
        · rw [k11 46 m (by omega), x46]
        · rw [k11 47 m (by omega), x47]
        · rw [k11 28 m (by omega), x28]
        · rw [g11' 1000 0 (by omega), h10 1000 0 (by unfold m_p2; omega), h9 1000 0 (by unfold m_p2; omega), g8 1000 0 (by unfold m_p2; omega), h7 1000 0 (by unfold m_p2; omega), gt 1000 0 (by omega), h5 1000 0 (by unfold m_p2; omega), gs 1000 0 (by omega), z0]
        · refine m_gp_trans g65 (m_gp_trans (m_gp_sub h7 (fun f k p => Or.inl p)) (m_gp_trans (m_gp_sub g8 (fun f k p => ?_)) (m_gp_trans (m_gp_sub h9 (fun f k p => Or.inl p)) (m_gp_trans (m_gp_sub h10 (fun f k p => Or.inl p)) (m_gp_sub g11' (fun f k p => ?_))))))
          · rcases p with p | p
            · exact Or.inl p
            · unfold m_pc m_pl
              omega
          · unfold m_pc m_pl
            omega
      · refine r_blank (by omega) (by omega) ?_
        intro y113 e113
        rw [sw_w_s (by omega) (by omega)] at e113
        rw [e113, show (k : Int) + 1 = ((k + 1 : Nat) : Int) by omega]
        have gb : m_gp (fun f i => (f = 36 ∨ f = 37 ∨ f = 38 ∨ f = 39 ∨ f = 44) ∧ i = 31 * m + k) G (m_bl G (31 * m + k)) := by
          intro f i hp
          unfold m_bl
          rw [if_neg hp]
        refine ih (k + 1) (by omega) (by omega) (m_L_gp LG gb (fun f k p => by omega)) (m_me_gp MG gb (fun f k p => by omega)) (m_gp_trans gG (m_gp_sub gb (fun f i p => by unfold m_pc m_pl; omega))) (by rw [gb 31 m (by omega)]; exact d31) (by rw [gb 1000 0 (by omega)]; exact z0) (fun f x hf hx => ?_)
        by_cases c2 : x = k
        · subst c2
          unfold m_bl
          rw [if_pos ⟨hf, rfl⟩]
        · rw [gb f _ (by omega)]
          exact hz f x hf (by omega)
  exact ⟨32, lp 32 0 (by omega) (by omega) L4 M4 g4 (by rw [e4, su_eq]) (by rw [g4' 1000 0 (by omega)]; exact z3) (fun f x _ h => by omega)⟩
theorem r_create (hL : m_L I mk nn K tl) (hM : m_me I mk) (h01 : ∀ m : Nat, m < 24 → I 27 m = 0 ∨ I 27 m = 1) (bd : ∀ m : Nat, x = m → m < 24 → I 27 m = 0 → m_bd (w_tls mk (w_crL m nn))) (q1 : ¬ (0 ≤ x ∧ x < 24) → R (su I 1000 0 1)) (q2 : ∀ m : Nat, x = m → m < 24 → I 27 m = 1 → R (su I 1000 0 2)) (q : ∀ (m : Nat) J, x = m → m < 24 → I 27 m = 0 → m_L J (w_tls mk (w_crL m nn)) (nn + 2) K tl → m_st J (w_tls mk (w_crL m nn)) m (w_G0 m nn) → J 27 m = 1 → J 46 m = 0 → J 47 m = 0 → J 28 m = 0 → J 1000 0 = 0 → m_gp (m_pc m) I J → R J) : rm_13 x I R := by
  have thr : ∀ z : Int, 0 < z → R (su I 1000 0 z) → rb_13_16 R x z I := by
    intro z hz hR
    unfold rb_13_16
    intro I1 e1 v ev _
    have ev : v = z := by rw [ev, e1, su_eq]
    refine ⟨fun c => by omega, fun _ => ?_⟩
    rw [e1]
    exact hR
  unfold rm_13
  refine ⟨fun c => thr 1 (by omega) (q1 (by omega)), fun c => ⟨fun c1 => ⟨by omega, by omega, ?_⟩, fun c1 => thr 1 (by omega) (q1 (by omega))⟩⟩
  obtain ⟨m, em⟩ : ∃ m : Nat, x = m := ⟨x.toNat, by omega⟩
  subst em
  intro v ev _
  rw [Int.toNat_natCast] at ev
  have h := h01 m (by omega)
  refine ⟨fun c2 => ?_, fun c2 => ?_⟩
  · exact r_create_go (by omega) hL hM (bd m rfl (by omega) (by omega)) (fun J => q m J rfl (by omega) (by omega))
  · exact thr 2 (by omega) (q2 m rfl (by omega) (by omega))
end
end
