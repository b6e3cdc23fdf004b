/-! ===== the reference: putInfo ===== -/
noncomputable section
/-- a node as it is written -/
def w_nw (T : w_T) (x : Nat) : List Wt := if t_ky T x = [] then [w_by 0] else if x % 2 = 0 then w_by 1 :: w_leaf T (x / 2) else w_by 2 :: t_ky T x :: w_pb (t_ph T x) :: w_set (t_um T x)
def w_nws (T : w_T) : Nat → List Wt
  | 0 => []
  | k + 1 => w_nws T k ++ w_nw T k
/-- what is signed of a WELCOME -/
def w_inf (G : w_G) (cm : Wt) : List Wt := w_b32 (gg_ep G) ++ (w_th (gg_T G) 0 (t_top (gg_T G)) :: w_pb (gg_cf G) :: w_b16 (gg_lf G)) ++ (w_b16 ((w_nws (gg_T G) (t_w (gg_T G))).length : Nat) ++ w_nws (gg_T G) (t_w (gg_T G))) ++ [cm]
variable {I I0 J X : sr_V} {nn nm s u k h us : Nat} {K K' K2 : Wt → Prop} {tl tl' mk mm l0 l1 l2 lw lt lp : List Wt} {a b c y n msk lf : Int} {Q : Int → sr_V → Prop} {R : sr_V → Prop} {x i e l m : Nat} {P : Nat → Nat → Prop} {S : Wt → Prop} {w ls n0 cs cm : Wt} {G : w_G} {T : w_T} {ms : List (List Wt)}
theorem w_set_len (z : Int) : (w_set z).length ≤ 34 := by
  have key : ∀ k, k ≤ 16 → ((List.range k).flatMap (fun l => if w_bit z l = 1 then w_b16 (l : Int) else [])).length ≤ 2 * k := by
    intro k
    induction k with
    | zero => intro _; simp
    | succ k ih =>
      intro hk
      rw [List.range_succ, List.flatMap_append, List.length_append]
      have := ih (by omega)
      have : ([k].flatMap (fun l => if w_bit z l = 1 then w_b16 (l : Int) else [])).length ≤ 2 := by
        simp only [List.flatMap_cons, List.flatMap_nil, List.append_nil]
        split
        · exact Nat.le_refl _
        · simp
      omega
  unfold w_set
  rw [List.length_append]
  have := key 16 (by omega)
  have e : (w_b16 (2 * w_ones z)).length = 2 := rfl
  omega
theorem w_nw_len : (w_nw T x).length ≤ (if x % 2 = 0 then 9 else 37) := by
  unfold w_nw
  by_cases c : t_ky T x = []
  · rw [if_pos c]; split <;> simp
  · rw [if_neg c]
    by_cases c2 : x % 2 = 0
    · rw [if_pos c2, if_pos c2]
      unfold w_leaf
      by_cases c3 : t_so T (x / 2) = 3
      · simp [c3, w_b16]
      · simp [c3, w_b16]
    · rw [if_neg c2, if_neg c2]
      have := w_set_len (t_um T x)
      simp
      omega
theorem w_nws_len : ∀ k, (w_nws T k).length ≤ 9 * ((k + 1) / 2) + 37 * (k / 2)
  | 0 => Nat.le_refl _
  | k + 1 => by
    have ih := w_nws_len k
    have h := w_nw_len (T := T) (x := k)
    show (w_nws T k ++ w_nw T k).length ≤ _
    rw [List.length_append]
    by_cases c : k % 2 = 0
    · rw [if_pos c] at h; omega
    · rw [if_neg c] at h; omega
theorem r_in_105 {k48 : Int → Int → Int → Int → Int → Int → sr_V → Prop} {x1 x2 x3 x4 x6 x7 : Int} {p : Nat} {z : Int} (hz : sw_c z) (hp : p < 1519) (q : ∀ J, m_rr J mk (l0 ++ (List.range 16).flatMap (fun i => if w_bit z i = 1 then w_b16 i else [])) → m_fr [55] [56] I J → rb_206_123 R k48 x1 x2 x3 x4 x6 x7 J) (hl : l0.length < 5900) : ∀ (n k : Nat) {A : sr_V}, k ≤ 16 → 16 - k < n → m_fr [55] [56] I A → A 39 p = z → m_rr A mk (l0 ++ (List.range k).flatMap (fun i => if w_bit z i = 1 then w_b16 i else [])) → rl_206_105 R k48 n x1 x2 x3 x4 x6 x7 p k A
  | 0, _, _, _, h, _, _, _ => by omega
  | n + 1, k, A, hk, hn, fA, h39, hr => by
    have key : ∀ k, k ≤ 16 → ((List.range k).flatMap (fun l => if w_bit z l = 1 then w_b16 (l : Int) else [])).length ≤ 2 * k := by
      intro k
      induction k with
      | zero => intro _; simp
      | succ k ih =>
        intro hk
        rw [List.range_succ, List.flatMap_append, List.length_append]
        have := ih (by omega)
        have : ([k].flatMap (fun l => if w_bit z l = 1 then w_b16 (l : Int) else [])).length ≤ 2 := by
          simp only [List.flatMap_cons, List.flatMap_nil, List.append_nil]
          split
          · exact Nat.le_refl _
          · simp
        omega
    have kl := key k hk
    unfold rl_206_105
    refine ⟨fun c => ?_, fun c => ?_⟩
    · have : k = 16 := by omega
      subst this
      exact q A hr fA
    · have es : (List.range (k + 1)).flatMap (fun i => if w_bit z i = 1 then w_b16 (i : Int) else []) = (List.range k).flatMap (fun i => if w_bit z i = 1 then w_b16 (i : Int) else []) ++ (if w_bit z k = 1 then w_b16 (k : Int) else []) := by
        rw [List.range_succ, List.flatMap_append]
        simp
      refine ⟨by omega, by omega, ?_⟩
      intro v16 e16 _
      rw [Int.toNat_natCast, h39] at e16
      rw [e16, sw_bit hz (by omega)]
      refine ⟨fun c2 => ?_, fun c2 => ?_⟩
      · unfold rb_206_121
        intro y12 e12
        rw [sw_s1 (by omega)] at e12
        subst e12
        exact r_in_105 hz hp q hl n (k + 1) (by omega) (by omega) fA h39 (by rw [es, if_neg c2, List.append_nil]; exact hr)
      · refine r_b16 (by unfold sw_c; omega) hr (by rw [List.length_append]; omega) (fun B rB fB => ?_)
        unfold rb_206_121
        intro y12 e12
        rw [sw_s1 (by omega)] at e12
        subst e12
        exact r_in_105 hz hp q hl n (k + 1) (by omega) (by omega) (m_fr_trans fA fB) (by rw [fB.1 39 (by simp) (by decide)]; exact h39) (by rw [es, if_pos c2, ← List.append_assoc]; exact rB)
/-- the nodes are written -/
theorem r_in_48 {x2 x3 x4 : Int} {x6 : Nat} (hs : s < 49) (hl0 : l0.length ≤ 400) : ∀ (n x : Nat) {I : sr_V}, m_L I mk nn K tl → mk.length ≤ 44999 → m_tr I mk s T → m_th I mk us l0 (w_nws T x) → x ≤ t_w T → t_w T - x < n → (∀ J, m_L J mk nn K tl → m_th J mk us l0 (w_nws T (t_w T)) → m_gp (m_pf us) I J → ∀ v79, v79 = J 1000 110 → sw_c v79 → ∀ y82, y82 = sw_w ((sw_w (v79 - x6)) - 2) → 0 ≤ (x6 : Int) ∧ (x6 : Int) < 362000 ∧ ∀ I87, I87 = su J 26 (x6 : Int).toNat (sw_shr y82 8) → 0 ≤ sw_w ((x6 : Int) + 1) ∧ sw_w ((x6 : Int) + 1) < 362000 ∧ ∀ I92, I92 = su I87 26 (sw_w ((x6 : Int) + 1)).toNat (sw_and y82 255) → rm_80 x2 I92 (fun I97 => ∀ I104, I104 = su I97 1000 56 0 → ∀ v108, v108 = I104 1000 110 → sw_c v108 → rm_88 x4 v108 I104 (fun I112 => 0 ≤ x3 ∧ x3 < 24 ∧ ∀ v118, v118 = I112 20 x3.toNat → sw_c v118 → rm_53 7 v118 0 0 I112 (fun z126 I122 => sw_c z126 → rm_80 z126 I122 (fun I129 => R I129))))) → rl_206_48 R n s x2 x3 x4 x6 x I
  | 0, _, _, _, _, _, _, _, h, _ => by omega
  | n + 1, x, I, hL, bm, hT, ht, hx, hn, q => by
    have w31 := t_w_4 hT.1.1
    have nl := w_nws_len (T := T) x
    unfold rl_206_48
    refine r_width hs hT.2.1 hT.1.1 ?_
    intro _
    have ew : 2 ^ (t_dp T + 1) - 1 = t_w T := rfl
    rw [ew]
    refine ⟨fun c => ?_, fun c => ?_⟩
    · have ex : x = t_w T := by omega
      subst ex
      exact q I hL ht (m_gp_refl _ _)
    · have hxw : x < t_w T := by omega
      obtain ⟨k1, k2, k3, k4⟩ := hT.2.2.1 x hxw
      refine r_spot hs (by omega) ?_
      intro _ I146 e146
      obtain ⟨L2, r2, f2⟩ := r_rs0 hL e146
      refine ⟨by omega, by omega, ?_⟩
      intro v150 e150 _
      rw [Int.toNat_natCast, f2.1 36 (by simp) (by decide), k1] at e150
      refine r_b8 r2 (by simp) (fun A rA fA => ?_)
      have f3 := m_fr_trans f2 fA
      have LA := m_f0_L hL f3
      have TA := m_tr_fr hT f3 (by simp)
      rw [List.nil_append] at rA
      refine ⟨by omega, by omega, ?_⟩
      intro v160 e160 _
      rw [Int.toNat_natCast, f3.1 36 (by simp) (by decide), k1] at e160
      have fin : ∀ {B : sr_V}, m_rr B mk (w_nw T x) → m_fr [55] [56] I B → rb_206_123 R (rl_206_48 R n) s x2 x3 x4 x6 x B := fun {B} rB fB => by
        have wl := w_nw_len (T := T) (x := x)
        have wl2 : (w_nw T x).length ≤ 37 := by split at wl <;> omega
        unfold rb_206_123
        refine r_flushH rB (m_th_p2 ht (m_f0_gp fB)) (by omega) (fun Z tZ rZ gZ => ?_)
        intro y8 e8
        rw [sw_s1 (by omega)] at e8
        subst e8
        have gB : m_gp (m_pf us) I B := m_gp_sub (m_fr_gp fB) (fun f k p => by simp at p; unfold m_pf; omega)
        have g2 := m_gp_trans gB gZ
        exact r_in_48 hs hl0 n (x + 1) (m_L_pf (m_f0_L hL fB) gZ) bm (m_tr_gp hT g2 (fun f k p c => by unfold m_pl at p; unfold m_pf at c; omega)) tZ (by omega) (by omega) (fun J LJ tJ gJ => q J LJ tJ (m_gp_trans g2 gJ))
      by_cases c0 : t_ky T x = []
      · rw [if_pos c0] at e150 e160
        subst e150
        have en : w_nw T x = [w_by 0] := by unfold w_nw; rw [if_pos c0]
        rw [e160]
        refine ⟨fun _ => ?_, fun cc => absurd cc (by decide)⟩
        unfold rb_206_76
        refine ⟨by omega, by omega, ?_⟩
        intro v28 e28 _
        rw [Int.toNat_natCast, f3.1 36 (by simp) (by decide), k1, if_pos c0] at e28
        rw [e28]
        exact ⟨fun _ => fin (by rw [en]; exact rA) f3, fun cc => absurd cc (by decide)⟩
      · rw [if_neg c0] at e150 e160
        by_cases c1 : x % 2 = 0
        · rw [if_pos c1] at e150 e160
          subst e150
          have en : w_nw T x = w_by 1 :: w_leaf T (x / 2) := by unfold w_nw; rw [if_neg c0, if_pos c1]
          obtain ⟨x', ex'⟩ : ∃ x', x = 2 * x' := ⟨x / 2, by omega⟩
          have ex2 : x / 2 = x' := by omega
          rw [ex2] at en
          rw [e160]
          refine ⟨fun cc => absurd rfl cc, fun _ => ?_⟩
          have ep : 31 * s + x = 31 * s + 2 * x' := by omega
          rw [ep]
          refine r_rowLeaf hs LA bm TA (by omega) (by rw [← ex']; exact c0) rA (by simp) (fun B rB fB => ?_)
          have f4 := m_fr_trans f3 fB
          unfold rb_206_76
          refine ⟨by omega, by omega, ?_⟩
          intro v28 e28 _
          rw [Int.toNat_natCast, f4.1 36 (by simp) (by decide), ← ep, k1, if_neg c0, if_pos c1] at e28
          rw [e28]
          refine ⟨fun _ => fin (by rw [en]; exact rB) f4, fun cc => absurd cc (by decide)⟩
        · rw [if_neg c1] at e150 e160
          subst e150
          have en : w_nw T x = w_by 2 :: t_ky T x :: w_pb (t_ph T x) :: w_set (t_um T x) := by unfold w_nw; rw [if_neg c0, if_neg c1]
          have hum := hT.1.2.1 x hxw
          have hz : sw_c (t_um T x) := by unfold sw_c; omega
          rw [e160]
          refine ⟨fun _ => ?_, fun cc => absurd cc (by decide)⟩
          unfold rb_206_76
          refine ⟨by omega, by omega, ?_⟩
          intro v28 e28 _
          rw [Int.toNat_natCast, f3.1 36 (by simp) (by decide), k1, if_neg c0, if_neg c1] at e28
          rw [e28]
          refine ⟨fun cc => absurd rfl cc, fun _ => ⟨by omega, by omega, ?_⟩⟩
          intro v31 e31 _
          rw [Int.toNat_natCast, f3.1 37 (by simp) (by decide)] at e31
          have ky := w_az_at k2 c0
          rw [← e31] at ky
          refine r_term rA (by simp) bm ky (fun B rB fB => ?_)
          have f4 := m_fr_trans f3 fB
          refine ⟨by omega, by omega, ?_⟩
          intro v41 e41 _
          rw [Int.toNat_natCast, f4.1 38 (by simp) (by decide)] at e41
          rw [← e41] at k3
          refine r_perhaps (m_f0_L hL f4) rB (by simp) bm k3 (fun D rD fD => ?_)
          have f5 := m_fr_trans f4 fD
          refine ⟨by omega, by omega, ?_⟩
          intro v51 e51 _
          rw [Int.toNat_natCast, f5.1 39 (by simp) (by decide), k4] at e51
          rw [e51]
          refine r_ones hz ?_
          intro _
          have ob : 0 ≤ w_ones (t_um T x) ∧ w_ones (t_um T x) ≤ 16 := w_ones_b _
          rw [sw_w_s (by omega) (by omega)]
          refine r_b16 (by unfold sw_c; omega) rD (by simp) (fun E rE fE => ?_)
          have f6 := m_fr_trans f5 fE
          refine ⟨17, r_in_105 (mk := mk) (I := E) (z := t_um T x) (l0 := [w_by (2 % 256)] ++ [t_ky T x] ++ [w_pb (t_ph T x)] ++ w_b16 (2 * w_ones (t_um T x))) hz (by omega) (fun Z rZ fZ => ?_) (by simp [w_b16]) 17 0 (by omega) (by omega) (m_fr_refl _ _ _) (by rw [f6.1 39 (by simp) (by decide)]; exact k4) (by rw [List.range_zero, List.flatMap_nil, List.append_nil]; exact rE)⟩
          refine fin ?_ (m_fr_trans f6 fZ)
          rw [en]
          unfold w_set
          simpa using rZ
end
