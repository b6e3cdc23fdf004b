/-! ===== a path is put into a tree; the reference: putPath ===== -/
noncomputable section
def t_sk1 (T : w_T) (x : Nat) (w : Wt) : w_T := (t_dp T, fu (t_ky T) x w, t_ph T, t_um T, t_ow T, t_sk T, t_so T, t_sg T)
def t_sp (T : w_T) (x : Nat) (w : Wt) : w_T := (t_dp T, t_ky T, fu (t_ph T) x w, t_um T, t_ow T, t_sk T, t_so T, t_sg T)
/-- the keys of the path, below height k -/
def t_kpn (C : Nat → Int) (T : w_T) (l : Nat) (kf : Nat → Wt) : Nat → w_T
  | 0 => T
  | k + 1 => if C k = 0 then t_bl (t_kpn C T l kf k) (t_ab l (k + 1)) else t_sk1 (t_bl (t_kpn C T l kf k) (t_ab l (k + 1))) (t_ab l (k + 1)) (kf k)
/-- parent hashes from the top on: m heights are done -/
def t_pp (C : Nat → Int) (T : w_T) (l : Nat) : Nat → w_T × Wt
  | 0 => (T, [])
  | m + 1 => if C (t_dp T - 1 - m) = 0 then t_pp C T l m else (t_sp (t_pp C T l m).1 (t_ab l (t_dp T - 1 - m + 1)) (t_pp C T l m).2, w_wt (t_sp (t_pp C T l m).1 (t_ab l (t_dp T - 1 - m + 1)) (t_pp C T l m).2) (t_ab l (t_dp T - 1 - m + 1)) (t_si l (t_dp T - 1 - m)))
section
variable {T : w_T} {l k m x : Nat} {kf : Nat → Wt} {C : Nat → Int} {w : Wt}
theorem t_kpn_0 (c : C k = 0) : t_kpn C T l kf (k + 1) = t_bl (t_kpn C T l kf k) (t_ab l (k + 1)) := if_pos c
theorem t_kpn_1 (c : C k ≠ 0) : t_kpn C T l kf (k + 1) = t_sk1 (t_bl (t_kpn C T l kf k) (t_ab l (k + 1))) (t_ab l (k + 1)) (kf k) := if_neg c
theorem t_pp_0 (c : C (t_dp T - 1 - m) = 0) : t_pp C T l (m + 1) = t_pp C T l m := if_pos c
theorem t_pp_1 (c : C (t_dp T - 1 - m) ≠ 0) : t_pp C T l (m + 1) = (t_sp (t_pp C T l m).1 (t_ab l (t_dp T - 1 - m + 1)) (t_pp C T l m).2, w_wt (t_sp (t_pp C T l m).1 (t_ab l (t_dp T - 1 - m + 1)) (t_pp C T l m).2) (t_ab l (t_dp T - 1 - m + 1)) (t_si l (t_dp T - 1 - m))) := if_neg c
theorem t_kpn_dp : ∀ k, t_dp (t_kpn C T l kf k) = t_dp T
  | 0 => rfl
  | k + 1 => by
    by_cases c : C k = 0
    · rw [t_kpn_0 c]; exact t_kpn_dp k
    · rw [t_kpn_1 c]; exact t_kpn_dp k
theorem t_pp_dp : ∀ m, t_dp (t_pp C T l m).1 = t_dp T
  | 0 => rfl
  | m + 1 => by
    by_cases c : C (t_dp T - 1 - m) = 0
    · rw [t_pp_0 c]; exact t_pp_dp m
    · rw [t_pp_1 c]; exact t_pp_dp m
theorem t_pp_ky : ∀ m, t_ky (t_pp C T l m).1 = t_ky T
  | 0 => rfl
  | m + 1 => by
    by_cases c : C (t_dp T - 1 - m) = 0
    · rw [t_pp_0 c]; exact t_pp_ky m
    · rw [t_pp_1 c]; exact t_pp_ky m
theorem t_pp_um : ∀ m, t_um (t_pp C T l m).1 = t_um T
  | 0 => rfl
  | m + 1 => by
    by_cases c : C (t_dp T - 1 - m) = 0
    · rw [t_pp_0 c]; exact t_pp_um m
    · rw [t_pp_1 c]; exact t_pp_um m
theorem t_ok_sk1 (h : t_ok T) (hx : x % 2 = 1) (hw : w ≠ []) : t_ok (t_sk1 T x w) := by
  obtain ⟨h1, h2, h3⟩ := h
  refine ⟨h1, fun y hy => ?_, fun k hk hne => ?_⟩
  · obtain ⟨a, b, c, d⟩ := h2 y hy
    refine ⟨a, b, c, fun e => d ?_⟩
    have e : fu (t_ky T) x w y = [] := e
    by_cases ey : y = x
    · rw [ey, fu_eq] at e; exact absurd e hw
    · rw [fu_ne ey] at e; exact e
  · have hne : fu (t_ky T) x w (2 * k) ≠ [] := hne
    rw [fu_ne (by omega)] at hne
    exact h3 k hk hne
theorem t_ok_sp (h : t_ok T) (hx : x % 2 = 1) (hk : t_ky T x ≠ []) : t_ok (t_sp T x w) := by
  obtain ⟨h1, h2, h3⟩ := h
  refine ⟨h1, fun y hy => ?_, fun k hk2 hne => ?_⟩
  · obtain ⟨a, b, c, d⟩ := h2 y hy
    refine ⟨a, b, c, fun e => ?_⟩
    have ey : y ≠ x := fun ey => hk (ey ▸ e)
    show fu (t_ph T) x w y = [] ∧ t_um T y = 0
    rw [fu_ne ey]
    exact d e
  · show 0 ≤ t_ow T k ∧ t_ow T k < 65536 ∧ 1 ≤ t_so T k ∧ t_so T k ≤ 3 ∧ (t_so T k ≠ 3 → fu (t_ph T) x w (2 * k) = [])
    rw [fu_ne (by omega)]
    exact h3 k hk2 hne
theorem t_ab_i : ∀ l : Fin 16, ∀ i : Fin 5, ∀ j : Fin 5, t_ab l.val i.val = t_ab l.val j.val → i.val = j.val := by decide +kernel
theorem t_ab_inj {i j : Nat} (hl : l < 16) (hi : i ≤ 4) (hj : j ≤ 4) (h : t_ab l i = t_ab l j) : i = j := t_ab_i ⟨l, hl⟩ ⟨i, by omega⟩ ⟨j, by omega⟩ h
/-- keys and sets of the way, once the keys are put -/
theorem t_kpn_ky (hl : l < 16) (hd : k ≤ 4) : ∀ n, n ≤ k → ∀ j, j < n → t_ky (t_kpn C T l kf n) (t_ab l (j + 1)) = (if C j = 0 then [] else kf j) ∧ t_um (t_kpn C T l kf n) (t_ab l (j + 1)) = 0
  | 0, _, j, hj => by omega
  | n + 1, hn, j, hj => by
    by_cases e : j = n
    · subst e
      by_cases c : C j = 0
      · rw [t_kpn_0 c, if_pos c]; exact ⟨fu_eq, fu_eq⟩
      · rw [t_kpn_1 c, if_neg c]; exact ⟨fu_eq, fu_eq⟩
    · have ne : t_ab l (j + 1) ≠ t_ab l (n + 1) := fun h => e (by have := t_ab_inj hl (by omega) (by omega) h; omega)
      have ih := t_kpn_ky hl hd n (by omega) j (by omega)
      by_cases c : C n = 0
      · rw [t_kpn_0 c]
        show fu _ _ _ _ = _ ∧ fu _ _ _ _ = _
        rw [fu_ne ne, fu_ne ne]; exact ih
      · rw [t_kpn_1 c]
        show fu (fu _ _ _) _ _ _ = _ ∧ fu _ _ _ _ = _
        rw [fu_ne ne, fu_ne ne, fu_ne ne]; exact ih
end
variable {I I0 J X : sr_V} {nn s u k h : Nat} {K K' : Wt → Prop} {tl mk mm : List Wt} {a b c y n m : Int} {Q : Int → sr_V → Prop} {R : sr_V → Prop} {x i e l : Nat} {T T0 T' T'' : w_T} {P : Nat → Nat → Prop} {S : Wt → Prop} {w ls : Wt} {kf : Nat → Wt}
theorem m_tr_sk1 {z : Int} (h : m_tr I mk s T) (hx : x % 2 = 1) (hw : w ≠ []) (hz : w_at mk z w) : m_tr (su (su I 36 (31 * s + x) 2) 37 (31 * s + x) z) mk s (t_sk1 T x w) := by
  obtain ⟨h1, h2, h3, h4⟩ := h
  refine ⟨t_ok_sk1 h1 hx hw, by rw [su_f (by decide), su_f (by decide)]; exact h2, fun y hy => ?_, fun k hk hne => ?_⟩
  · obtain ⟨a1, a2, a3, a4⟩ := h3 y hy
    rw [su_f (f := 37) (g := 36) (by decide), su_f (f := 37) (g := 38) (by decide), su_f (f := 36) (g := 38) (by decide), su_f (f := 37) (g := 39) (by decide), su_f (f := 36) (g := 39) (by decide)]
    show su I 36 (31 * s + x) 2 36 (31 * s + y) = (if fu (t_ky T) x w y = [] then 0 else if y % 2 = 0 then 1 else 2) ∧ w_az mk _ (fu (t_ky T) x w y) ∧ w_az mk _ (t_ph T y) ∧ _ = t_um T y
    by_cases e : y = x
    · subst e
      rw [fu_eq, su_eq, su_eq, if_neg hw, if_neg (by omega)]
      exact ⟨rfl, Or.inr hz, a3, a4⟩
    · rw [fu_ne e, su_k (by omega), su_k (by omega), su_f (by decide)]
      exact ⟨a1, a2, a3, a4⟩
  · have hne : fu (t_ky T) x w (2 * k) ≠ [] := hne
    rw [fu_ne (by omega)] at hne
    rw [su_f (f := 37) (by decide), su_f (f := 36) (by decide), su_f (f := 37) (by decide), su_f (f := 36) (by decide), su_f (f := 37) (by decide), su_f (f := 36) (by decide), su_f (f := 37) (by decide), su_f (f := 36) (by decide)]
    exact h4 k hk hne
theorem m_tr_sp {z : Int} (h : m_tr I mk s T) (hx : x % 2 = 1) (hk : t_ky T x ≠ []) (hz : w_az mk z w) : m_tr (su I 38 (31 * s + x) z) mk s (t_sp T x w) := by
  obtain ⟨h1, h2, h3, h4⟩ := h
  refine ⟨t_ok_sp h1 hx hk, by rw [su_f (by decide)]; exact h2, fun y hy => ?_, fun k hk hne => ?_⟩
  · obtain ⟨a1, a2, a3, a4⟩ := h3 y hy
    rw [su_f (f := 38) (g := 36) (by decide), su_f (f := 38) (g := 37) (by decide), su_f (f := 38) (g := 39) (by decide)]
    refine ⟨a1, a2, ?_, a4⟩
    show w_az mk _ (fu (t_ph T) x w y)
    by_cases e : y = x
    · subst e; rw [fu_eq, su_eq]; exact hz
    · rw [fu_ne e, su_k (by omega)]; exact a3
  · rw [su_f (by decide), su_f (by decide), su_f (by decide), su_f (by decide)]
    exact h4 k hk hne
/-- what putPath touches -/
def m_ppp (s l f k : Nat) : Prop := m_p2 f k ∨ (36 ≤ f ∧ f ≤ 44 ∧ ∃ j, j < 4 ∧ k = 31 * s + t_ab l (j + 1))
def m_pp0 (s l f k : Nat) : Prop := 36 ≤ f ∧ f ≤ 44 ∧ ∃ j, j < 4 ∧ k = 31 * s + t_ab l (j + 1)
theorem m_pp0_p (g : m_gp (m_pp0 s l) I J) : m_gp (m_ppp s l) I J := m_gp_sub g (fun _ _ p => Or.inr p)
theorem m_wy_ppp (h : m_wy I T l) (g : m_gp (m_ppp s u) I J) : m_wy J T l := ⟨by rw [g 1000 93 (by unfold m_ppp m_p2; omega)]; exact h.1, fun j hj => by rw [g 90 j (by unfold m_ppp m_p2; omega), g 91 j (by unfold m_ppp m_p2; omega), g 94 j (by unfold m_ppp m_p2; omega)]; exact h.2 j hj⟩
/-- the keys of the path -/
def m_kf (I : sr_V) (mk : List Wt) (C : Nat → Int) (kf : Nat → Wt) (d : Nat) : Prop := ∀ j, j < d → C j ≠ 0 → w_at mk (I 96 j) (kf j) ∧ kf j ≠ []
theorem m_kf_ppp {C : Nat → Int} {d : Nat} (h : m_kf I mk C kf d) (g : m_gp (m_ppp s u) I J) : m_kf J mk C kf d := fun j hj hc => by rw [g 96 j (by unfold m_ppp m_p2; omega)]; exact h j hj hc
theorem r_pp_2 (hs : s < 49) (hl : l < 2 ^ t_dp T) (h4 : t_dp T ≤ 4) : ∀ (n k : Nat) {I : sr_V}, m_tr I mk s (t_kpn (t_cb T0 l) T l kf k) → t_dp T0 = t_dp T → m_wy I T0 l → m_kf I mk (t_cb T0 l) kf (t_dp T) → (∀ j, j < k → I 44 (31 * s + t_ab l (j + 1)) = 0) → k ≤ t_dp T → t_dp T - k < n → (∀ J, m_tr J mk s (t_kpn (t_cb T0 l) T l kf (t_dp T)) → (∀ j, j < t_dp T → J 44 (31 * s + t_ab l (j + 1)) = 0) → m_gp (m_pp0 s l) I J → ∃ n55, rl_101_55 Q n55 s (-1) 0 ((t_dp T : Int) - 1) J) → rl_101_2 Q n s k I
  | 0, _, _, _, _, _, _, _, _, h, _ => by omega
  | n + 1, k, I, hT, hd, hw, hf, hz, hk, hn, q => by
    have d16 := t_d_16 h4
    unfold rl_101_2
    intro v49 e49 _
    rw [hw.1, hd] at e49
    subst e49
    refine ⟨fun c => ?_, fun c => ?_⟩
    · have e : k = t_dp T := by omega
      subst e
      intro y52 e52 v59 e59 _ y62 e62
      rw [hw.1, hd] at e59
      rw [e59, sw_w_s (by omega) (by omega)] at e62
      subst e52
      subst e62
      exact q I hT hz (m_gp_refl _ _)
    · have ed := t_kpn_dp (C := t_cb T0 l) (T := T) (l := l) (kf := kf) k
      obtain ⟨w1, w2, w3⟩ := hw.2 k (by omega)
      have aw := t_ab_w h4 hl (h := k + 1) (by omega)
      have w31 := t_w_4 h4
      have ao := t_ab_o (k := l) (h := k + 1) (by omega) (by omega) (by omega)
      refine ⟨by omega, by omega, ?_⟩
      intro v66 e66 _
      rw [Int.toNat_natCast, w1] at e66
      subst e66
      refine r_blank hs (by omega) ?_
      have tB := m_tr_bl (x := t_ab l (k + 1)) hT
      have gB : m_gp (m_pp0 s l) I (m_bl I (31 * s + t_ab l (k + 1))) := m_gp_sub m_bl_gp (fun f j p => ⟨p.1.1, p.1.2, k, by omega, p.2⟩)
      have zB : ∀ j, j < k + 1 → m_bl I (31 * s + t_ab l (k + 1)) 44 (31 * s + t_ab l (j + 1)) = 0 := fun j hj => by
        by_cases e : j = k
        · subst e; rw [m_bl_at, if_pos ⟨by omega, rfl⟩]
        · have ne : t_ab l (j + 1) ≠ t_ab l (k + 1) := fun h => e (by have := t_ab_inj (l := l) (by omega) (by omega) (by omega) h; omega)
          rw [m_bl_ne (by omega)]; exact hz j (by omega)
      refine ⟨by omega, by omega, ?_⟩
      intro v76 e76 _
      rw [Int.toNat_natCast, m_bl_ne (by omega), w3] at e76
      subst e76
      refine ⟨fun c1 => ?_, fun c1 => ?_⟩
      · refine ⟨by omega, by omega, ?_⟩
        intro v79 e79 _
        rw [Int.toNat_natCast, m_bl_ne (by omega), w1] at e79
        subst e79
        refine r_spot hs (by omega) ?_
        intro _
        refine ⟨by omega, by omega, ?_⟩
        intro I90 e90
        rw [Int.toNat_natCast] at e90
        refine ⟨by omega, by omega, ?_⟩
        intro v94 e94 _
        rw [Int.toNat_natCast, e90, su_f (by decide), m_bl_ne (by omega), w1] at e94
        subst e94
        refine r_spot hs (by omega) ?_
        intro _
        refine ⟨by omega, by omega, ?_⟩
        intro v104 e104 _
        rw [Int.toNat_natCast, e90, su_f (by decide), m_bl_ne (by omega)] at e104
        refine ⟨by omega, by omega, ?_⟩
        intro I108 e108
        rw [Int.toNat_natCast] at e108
        obtain ⟨f1, f2⟩ := hf k (by omega) c1
        rw [← e104] at f1
        have t108 : m_tr I108 mk s (t_kpn (t_cb T0 l) T l kf (k + 1)) := by
          rw [t_kpn_1 c1, e108, e90]
          exact m_tr_sk1 tB ao f2 f1
        have g108 : m_gp (m_pp0 s l) I I108 := by
          refine m_gp_trans gB ?_
          rw [e108, e90]
          exact m_gp_trans (m_gp_sub (m_gp_su _ _ _ _) (fun f j p => ⟨by omega, by omega, k, by omega, p.2⟩)) (m_gp_sub (m_gp_su _ _ _ _) (fun f j p => ⟨by omega, by omega, k, by omega, p.2⟩))
        unfold rb_101_44
        intro y45 e45
        rw [sw_s1 (by omega)] at e45
        subst e45
        exact r_pp_2 hs hl h4 n (k + 1) t108 hd (m_wy_ppp hw (m_pp0_p g108)) (m_kf_ppp hf (m_pp0_p g108)) (fun j hj => by rw [e108, su_f (by decide), e90, su_f (by decide)]; exact zB j hj) (by omega) (by omega) (fun J tJ zJ gJ => q J tJ zJ (m_gp_trans g108 gJ))
      · unfold rb_101_44
        intro y45 e45
        rw [sw_s1 (by omega)] at e45
        subst e45
        exact r_pp_2 hs hl h4 n (k + 1) (by rw [t_kpn_0 c1]; exact tB) hd (m_wy_ppp hw (m_pp0_p gB)) (m_kf_ppp hf (m_pp0_p gB)) zB (by omega) (by omega) (fun J tJ zJ gJ => q J tJ zJ (m_gp_trans gB gJ))
end
