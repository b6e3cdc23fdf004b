/-! ===== the reference: states of groups, copied, blanked ===== -/
noncomputable section
/-- only the places of P have changed -/
def m_gp (P : Nat → Nat → Prop) (I J : sr_V) : Prop := ∀ f k, ¬ P f k → J f k = I f k
theorem m_gp_refl (P : Nat → Nat → Prop) (I : sr_V) : m_gp P I I := fun _ _ _ => rfl
theorem m_gp_trans {P : Nat → Nat → Prop} {I J K : sr_V} (a : m_gp P I J) (b : m_gp P J K) : m_gp P I K := fun f k h => (b f k h).trans (a f k h)
theorem m_gp_sub {P P' : Nat → Nat → Prop} {I J : sr_V} (a : m_gp P I J) (h : ∀ f k, P f k → P' f k) : m_gp P' I J := fun f k n => a f k (fun p => n (h f k p))
theorem m_gp_su (I : sr_V) (f k : Nat) (z : Int) : m_gp (fun g i => g = f ∧ i = k) I (su I f k z) := fun g i h => by rw [su_at, if_neg h]
theorem m_fr_gp {A F : List Nat} {I J : sr_V} (h : m_fr A F I J) : m_gp (fun f k => (f ≠ 1000 ∧ f ∈ A) ∨ (f = 1000 ∧ k ∈ F)) I J := by
  intro f k n
  by_cases hf : f = 1000
  · subst hf
    exact h.2 k (fun hk => n (Or.inr ⟨rfl, hk⟩))
  · rw [h.1 f (fun hk => n (Or.inl ⟨hf, hk⟩)) hf]
theorem m_gp_fr {P : Nat → Nat → Prop} {A F : List Nat} {I J : sr_V} (h : m_gp P I J) (p : ∀ f k, P f k → (f ≠ 1000 ∧ f ∈ A) ∨ (f = 1000 ∧ k ∈ F)) : m_fr A F I J := by
  refine ⟨fun g h1 h2 => funext fun k => h g k (fun hp => ?_), fun f hf => h 1000 f (fun hp => ?_)⟩
  · rcases p g k hp with q | q
    · exact h1 q.2
    · exact h2 q.1
  · rcases p 1000 f hp with q | q
    · exact q.1 rfl
    · exact hf q.2
/-- a member's view of its group: epoch, leaf, tree, interim and confirmed hash, epoch's secret, secrets had -/
abbrev w_G : Type := Int × Nat × w_T × Wt × Wt × Wt × (Nat → Wt)
def gg_ep (G : w_G) : Int := G.1
def gg_lf (G : w_G) : Nat := G.2.1
def gg_T (G : w_G) : w_T := G.2.2.1
def gg_in (G : w_G) : Wt := G.2.2.2.1
def gg_cf (G : w_G) : Wt := G.2.2.2.2.1
def gg_es (G : w_G) : Wt := G.2.2.2.2.2.1
def gg_hd (G : w_G) : Nat → Wt := G.2.2.2.2.2.2
/-- a term of sort s -/
def w_is (s : Nat) (w : Wt) : Prop := ∃ a b c l, w = w_t s a b c l
/-- keys are PUBLIC -/
def t_pk (T : w_T) : Prop := ∀ x, x < t_w T → t_ky T x = [] ∨ ∃ a, t_ky T x = w_t 5 a [] [] []
def gg_ok (G : w_G) : Prop := sw_c (gg_ep G) ∧ 2 * gg_lf G < t_w (gg_T G) ∧ t_ky (gg_T G) (2 * gg_lf G) ≠ [] ∧ t_pk (gg_T G) ∧ (∀ x, x < t_w (gg_T G) → t_ky (gg_T G) x = [] → gg_hd G x = [])
/-- the places of state s -/
def m_pl (s : Nat) (f k : Nat) : Prop := (29 ≤ f ∧ f ≤ 34 ∧ k = s) ∨ (36 ≤ f ∧ f ≤ 44 ∧ 31 * s ≤ k ∧ k < 31 * s + 31)
/-- the reference's state s is G -/
def m_st (I : sr_V) (mk : List Wt) (s : Nat) (G : w_G) : Prop := gg_ok G ∧ I 29 s = gg_ep G ∧ I 30 s = gg_lf G ∧ m_tr I mk s (gg_T G) ∧ w_at mk (I 32 s) (gg_in G) ∧ w_az mk (I 33 s) (gg_cf G) ∧ w_at mk (I 34 s) (gg_es G) ∧ (∀ x, x < t_w (gg_T G) → w_az mk (I 44 (31 * s + x)) (gg_hd G x)) ∧ ∀ x, x < t_w (gg_T G) → w_th (gg_T G) 0 x ∈ mk
section
variable {I J : sr_V} {nn : Nat} {K : Wt → Prop} {tl mk mm l : List Wt} {a b c x wo : Int} {Q : Int → sr_V → Prop} {R : sr_V → Prop} {T : w_T} {s : Nat} {G : w_G}
/-- places of a tree alone -/
theorem m_tr_eq {u : Nat} (h : m_tr I mk s T) (e1 : J 31 u = I 31 s) (e : ∀ f x, 36 ≤ f → f ≤ 43 → x < 31 → J f (31 * u + x) = I f (31 * s + x)) : m_tr J mk u T := by
  have w31 := t_w31 h.1.1
  obtain ⟨h1, h2, h3, h4⟩ := h
  refine ⟨h1, by rw [e1]; exact h2, fun x hx => ?_, fun k hk hn => ?_⟩
  · rw [e 36 x (by omega) (by omega) (by omega), e 37 x (by omega) (by omega) (by omega), e 38 x (by omega) (by omega) (by omega), e 39 x (by omega) (by omega) (by omega)]
    exact h3 x hx
  · rw [e 40 _ (by omega) (by omega) (by omega), e 41 _ (by omega) (by omega) (by omega), e 42 _ (by omega) (by omega) (by omega), e 43 _ (by omega) (by omega) (by omega)]
    exact h4 k hk hn
theorem m_st_eq {u : Nat} (h : m_st I mk s G) (e1 : ∀ f, 29 ≤ f → f ≤ 34 → J f u = I f s) (e : ∀ f x, 36 ≤ f → f ≤ 44 → x < 31 → J f (31 * u + x) = I f (31 * s + x)) : m_st J mk u G := by
  have w31 := t_w31 h.2.2.2.1.1.1
  obtain ⟨h1, h2, h3, h4, h5, h6, h7, h8, h9⟩ := h
  refine ⟨h1, by rw [e1 29 (by omega) (by omega)]; exact h2, by rw [e1 30 (by omega) (by omega)]; exact h3, m_tr_eq h4 (e1 31 (by omega) (by omega)) (fun f x a b c => e f x a (by omega) c), by rw [e1 32 (by omega) (by omega)]; exact h5, by rw [e1 33 (by omega) (by omega)]; exact h6, by rw [e1 34 (by omega) (by omega)]; exact h7, fun x hx => ?_, h9⟩
  rw [e 44 x (by omega) (by omega) (by omega)]
  exact h8 x hx
theorem m_st_gp {P : Nat → Nat → Prop} (h : m_st I mk s G) (f : m_gp P I J) (p : ∀ f k, m_pl s f k → ¬ P f k) : m_st J mk s G := m_st_eq h (fun g h1 h2 => f g s (p g s (Or.inl ⟨h1, h2, rfl⟩))) (fun g x h1 h2 h3 => f g _ (p g _ (Or.inr ⟨h1, h2, by omega, by omega⟩)))
theorem m_st_le (h : m_st I mk s G) (hl : w_le mk mm) : m_st I mm s G := by
  obtain ⟨h1, h2, h3, h4, h5, h6, h7, h8, h9⟩ := h
  refine ⟨h1, h2, h3, m_tr_le h4 hl, w_le_at hl h5, w_le_az hl h6, w_le_at hl h7, fun x hx => w_le_az hl (h8 x hx), fun x hx => ?_⟩
  obtain ⟨l, e⟩ := hl
  rw [e]
  exact List.mem_append_left _ (h9 x hx)
theorem r_sp {s x : Nat} (hs : s < 49) (hx : x < 31) : sw_w ((sw_w (31 * (s : Int))) + (x : Int)) = ((31 * s + x : Nat) : Int) := by
  rw [sw_w_s (z := 31 * (s : Int)) (by omega) (by omega), sw_w_s (by omega) (by omega)]
  omega
/-- what blank leaves -/
def m_bl (I : sr_V) (n : Nat) : sr_V := fun f k => if (f = 36 ∨ f = 37 ∨ f = 38 ∨ f = 39 ∨ f = 44) ∧ k = n then 0 else I f k
theorem r_blank {s x : Nat} (hs : s < 49) (hx : x < 31) (q : R (m_bl I (31 * s + x))) : rm_68 s x I R := by
  have e := r_sp hs hx
  unfold rm_68 rm_67
  rw [e]
  intro _
  refine ⟨by omega, by omega, ?_⟩
  intro I9 e9 _
  refine ⟨by omega, by omega, ?_⟩
  intro I21 e21 _
  refine ⟨by omega, by omega, ?_⟩
  intro I33 e33 _
  refine ⟨by omega, by omega, ?_⟩
  intro I45 e45 _
  refine ⟨by omega, by omega, ?_⟩
  intro I57 e57
  have : I57 = m_bl I (31 * s + x) := by
    rw [e57, e45, e33, e21, e9, Int.toNat_natCast]
    funext f k
    unfold m_bl
    simp only [su_at]
    by_cases hk : k = 31 * s + x
    · by_cases h1 : f = 37
      · simp [h1, hk]
      · by_cases h2 : f = 38
        · simp [h2, hk]
        · by_cases h3 : f = 44
          · simp [h3, hk]
          · by_cases h4 : f = 39
            · simp [h4, hk]
            · by_cases h5 : f = 36
              · simp [h5, hk]
              · simp [h1, h2, h3, h4, h5]
    · simp [hk]
  rw [this]
  exact q
/-- what copyNode leaves -/
def m_cn (I : sr_V) (n u : Nat) : sr_V := fun f k => if (36 ≤ f ∧ f ≤ 44) ∧ k = u then I f n else I f k
theorem r_copyNode {n u : Nat} (hn : n < 1519) (hu : u < 1519) (q : R (m_cn I n u)) : rm_204 n u I R := by
  unfold rm_204
  refine ⟨by omega, by omega, ?_⟩
  intro v1 e1 _
  refine ⟨by omega, by omega, ?_⟩
  intro I5 e5
  refine ⟨by omega, by omega, ?_⟩
  intro v9 e9 _
  refine ⟨by omega, by omega, ?_⟩
  intro I13 e13
  refine ⟨by omega, by omega, ?_⟩
  intro v17 e17 _
  refine ⟨by omega, by omega, ?_⟩
  intro I21 e21
  refine ⟨by omega, by omega, ?_⟩
  intro v25 e25 _
  refine ⟨by omega, by omega, ?_⟩
  intro I29 e29
  refine ⟨by omega, by omega, ?_⟩
  intro v33 e33 _
  refine ⟨by omega, by omega, ?_⟩
  intro I37 e37
  refine ⟨by omega, by omega, ?_⟩
  intro v41 e41 _
  refine ⟨by omega, by omega, ?_⟩
  intro I45 e45
  refine ⟨by omega, by omega, ?_⟩
  intro v49 e49 _
  refine ⟨by omega, by omega, ?_⟩
  intro I53 e53
  refine ⟨by omega, by omega, ?_⟩
  intro v57 e57 _
  refine ⟨by omega, by omega, ?_⟩
  intro I61 e61
  refine ⟨by omega, by omega, ?_⟩
  intro v65 e65 _
  refine ⟨by omega, by omega, ?_⟩
  intro I69 e69
  rw [Int.toNat_natCast] at e1 e5 e9 e13 e17 e21 e25 e29 e33 e37 e41 e45 e49 e53 e57 e61 e65 e69
  have : I69 = m_cn I n u := by
    have g5 : ∀ f, f ≠ 36 → I5 f = I f := fun f h => by rw [e5, su_f h]
    have g13 : ∀ f, f ≠ 36 → f ≠ 37 → I13 f = I f := fun f h h1 => by rw [e13, su_f h1, g5 f h]
    have g21 : ∀ f, f ≠ 36 → f ≠ 37 → f ≠ 38 → I21 f = I f := fun f h h1 h2 => by rw [e21, su_f h2, g13 f h h1]
    have g29 : ∀ f, 39 < f → I29 f = I f := fun f h => by rw [e29, su_f (by omega), g21 f (by omega) (by omega) (by omega)]
    have g37 : ∀ f, 40 < f → I37 f = I f := fun f h => by rw [e37, su_f (by omega), g29 f (by omega)]
    have g45 : ∀ f, 41 < f → I45 f = I f := fun f h => by rw [e45, su_f (by omega), g37 f (by omega)]
    have g53 : ∀ f, 42 < f → I53 f = I f := fun f h => by rw [e53, su_f (by omega), g45 f (by omega)]
    have g61 : ∀ f, 43 < f → I61 f = I f := fun f h => by rw [e61, su_f (by omega), g53 f (by omega)]
    rw [g5 37 (by decide)] at e9
    rw [g13 38 (by decide) (by decide)] at e17
    rw [g21 39 (by decide) (by decide) (by decide)] at e25
    rw [g29 40 (by decide)] at e33
    rw [g37 41 (by decide)] at e41
    rw [g45 42 (by decide)] at e49
    rw [g53 43 (by decide)] at e57
    rw [g61 44 (by decide)] at e65
    clear g5 g13 g21 g29 g37 g45 g53 g61
    rw [e69, e61, e53, e45, e37, e29, e21, e13, e5, e1, e9, e17, e25, e33, e41, e49, e57, e65]
    funext f k
    unfold m_cn
    simp only [su_at]
    by_cases hk : k = u
    · have : f < 36 ∨ f = 36 ∨ f = 37 ∨ f = 38 ∨ f = 39 ∨ f = 40 ∨ f = 41 ∨ f = 42 ∨ f = 43 ∨ f = 44 ∨ 44 < f := by omega
      rcases this with h | h | h | h | h | h | h | h | h | h | h
      · rw [if_neg (by omega), if_neg (by omega), if_neg (by omega), if_neg (by omega), if_neg (by omega), if_neg (by omega), if_neg (by omega), if_neg (by omega), if_neg (by omega), if_neg (by omega)]
      · simp [h, hk]
      · simp [h, hk]
      · simp [h, hk]
      · simp [h, hk]
      · simp [h, hk]
      · simp [h, hk]
      · simp [h, hk]
      · simp [h, hk]
      · simp [h, hk]
      · rw [if_neg (by omega), if_neg (by omega), if_neg (by omega), if_neg (by omega), if_neg (by omega), if_neg (by omega), if_neg (by omega), if_neg (by omega), if_neg (by omega), if_neg (by omega)]
    · simp [hk]
  rw [this]
  exact q
/-- copyState -/
theorem r_copyState {s u : Nat} (hs : s < 49) (hu : u < 49) (ne : s ≠ u) (q : ∀ J, (∀ f, 29 ≤ f → f ≤ 34 → J f u = I f s) → (∀ f x, 36 ≤ f → f ≤ 44 → x < 31 → J f (31 * u + x) = I f (31 * s + x)) → m_gp (m_pl u) I J → R J) : rm_105 s u I R := by
  have lp : ∀ (n k : Nat) {G : sr_V}, k ≤ 31 → 31 - k < n → (∀ f, 29 ≤ f → f ≤ 34 → G f u = I f s) → (∀ f x, 36 ≤ f → f ≤ 44 → x < k → G f (31 * u + x) = I f (31 * s + x)) → m_gp (m_pl u) I G → rl_105_50 R n s u k G := by
    intro n
    induction n with
    | zero => intro k G h1 h2; omega
    | succ n ih =>
      intro k G h1 h2 h3 h4 h5
      unfold rl_105_50
      refine ⟨fun c => ?_, fun c => ?_⟩
      · have e : k = 31 := by omega
        subst e
        exact q G h3 h4 h5
      · unfold rm_67
        rw [r_sp hs (show k < 31 by omega), r_sp hu (show k < 31 by omega)]
        intro _ _
        refine r_copyNode (by omega) (by omega) ?_
        intro y22 e22
        rw [sw_w_s (by omega) (by omega)] at e22
        rw [e22, show (k : Int) + 1 = ((k + 1 : Nat) : Int) by omega]
        refine ih (k + 1) (by omega) (by omega) (fun f a b => ?_) (fun f x a b c => ?_) (fun f i hp => ?_)
        · unfold m_cn
          rw [if_neg (by omega)]
          exact h3 f a b
        · unfold m_cn
          by_cases hx : x = k
          · subst hx
            rw [if_pos ⟨⟨a, b⟩, rfl⟩]
            exact h5 f _ (by unfold m_pl; omega)
          · rw [if_neg (by omega)]
            exact h4 f x a b (by omega)
        · unfold m_cn
          rw [if_neg (by unfold m_pl at hp; omega)]
          exact h5 f i hp
  unfold rm_105
  refine ⟨by omega, by omega, ?_⟩
  intro v27 e27 _
  refine ⟨by omega, by omega, ?_⟩
  intro I31 e31
  refine ⟨by omega, by omega, ?_⟩
  intro v35 e35 _
  refine ⟨by omega, by omega, ?_⟩
  intro I39 e39
  refine ⟨by omega, by omega, ?_⟩
  intro v43 e43 _
  refine ⟨by omega, by omega, ?_⟩
  intro I47 e47
  refine ⟨by omega, by omega, ?_⟩
  intro v51 e51 _
  refine ⟨by omega, by omega, ?_⟩
  intro I55 e55
  refine ⟨by omega, by omega, ?_⟩
  intro v59 e59 _
  refine ⟨by omega, by omega, ?_⟩
  intro I63 e63
  refine ⟨by omega, by omega, ?_⟩
  intro v67 e67 _
  refine ⟨by omega, by omega, ?_⟩
  intro I71 e71
  rw [Int.toNat_natCast] at e27 e31 e35 e39 e43 e47 e51 e55 e59 e63 e67 e71
  have g31 : ∀ f, f ≠ 29 → I31 f = I f := fun f h => by rw [e31, su_f h]
  have g39 : ∀ f, 30 < f → I39 f = I f := fun f h => by rw [e39, su_f (by omega), g31 f (by omega)]
  have g47 : ∀ f, 31 < f → I47 f = I f := fun f h => by rw [e47, su_f (by omega), g39 f (by omega)]
  have g55 : ∀ f, 32 < f → I55 f = I f := fun f h => by rw [e55, su_f (by omega), g47 f (by omega)]
  have g63 : ∀ f, 33 < f → I63 f = I f := fun f h => by rw [e63, su_f (by omega), g55 f (by omega)]
  rw [g31 30 (by decide)] at e35
  rw [g39 31 (by decide)] at e43
  rw [g47 32 (by decide)] at e51
  rw [g55 33 (by decide)] at e59
  rw [g63 34 (by decide)] at e67
  clear g31 g39 g47 g55 g63
  have eJ : I71 = fun f k => if (29 ≤ f ∧ f ≤ 34) ∧ k = u then I f s else I f k := by
    rw [e71, e63, e55, e47, e39, e31, e27, e35, e43, e51, e59, e67]
    funext f k
    simp only [su_at]
    by_cases hk : k = u
    · have : f < 29 ∨ f = 29 ∨ f = 30 ∨ f = 31 ∨ f = 32 ∨ f = 33 ∨ f = 34 ∨ 34 < f := by omega
      rcases this with h | h | h | h | h | h | h | h
      · rw [if_neg (by omega), if_neg (by omega), if_neg (by omega), if_neg (by omega), if_neg (by omega), if_neg (by omega), if_neg (by omega)]
      · simp [h, hk]
      · simp [h, hk]
      · simp [h, hk]
      · simp [h, hk]
      · simp [h, hk]
      · simp [h, hk]
      · rw [if_neg (by omega), if_neg (by omega), if_neg (by omega), if_neg (by omega), if_neg (by omega), if_neg (by omega), if_neg (by omega)]
    · simp [hk]
  refine ⟨32, lp 32 0 (by omega) (by omega) (fun f a b => ?_) (fun f x a b c => by omega) (fun f i hp => ?_)⟩
  · rw [eJ]
    show (if _ then _ else _) = _
    rw [if_pos ⟨⟨a, b⟩, rfl⟩]
  · rw [eJ]
    show (if _ then _ else _) = _
    rw [if_neg (by unfold m_pl at hp; omega)]
theorem r_top {dp : Nat} (hs : s < 49) (h : I 31 s = dp) (hd : dp ≤ 4) (q : Q ((2 ^ dp - 1 : Nat) : Int) I) : rm_134 s I Q := by
  unfold rm_134
  refine ⟨by omega, by omega, ?_⟩
  intro v ev _
  rw [Int.toNat_natCast, h] at ev
  subst ev
  have key : ∀ d : Fin 5, sw_w (sw_shl 1 (d.val : Int) - 1) = ((2 ^ d.val - 1 : Nat) : Int) := by decide +kernel
  have := key ⟨dp, by omega⟩
  rw [show sw_w (sw_shl 1 (dp : Int) - 1) = ((2 ^ dp - 1 : Nat) : Int) from this]
  exact q
theorem r_width {dp : Nat} (hs : s < 49) (h : I 31 s = dp) (hd : dp ≤ 4) (q : Q ((2 ^ (dp + 1) - 1 : Nat) : Int) I) : rm_139 s I Q := by
  unfold rm_139
  refine ⟨by omega, by omega, ?_⟩
  intro v ev _
  rw [Int.toNat_natCast, h] at ev
  subst ev
  have key : ∀ d : Fin 5, sw_w (sw_shl 2 (d.val : Int) - 1) = ((2 ^ (d.val + 1) - 1 : Nat) : Int) := by decide +kernel
  have := key ⟨dp, by omega⟩
  rw [show sw_w (sw_shl 2 (dp : Int) - 1) = ((2 ^ (dp + 1) - 1 : Nat) : Int) from this]
  exact q
theorem r_leafCount {dp : Nat} (hs : s < 49) (h : I 31 s = dp) (hd : dp ≤ 4) (q : Q ((2 ^ dp : Nat) : Int) I) : rm_216 s I Q := by
  unfold rm_216
  refine ⟨by omega, by omega, ?_⟩
  intro v ev _
  rw [Int.toNat_natCast, h] at ev
  subst ev
  rw [sw_shl_1 hd]
  exact q
theorem r_isBlank {x : Nat} (hs : s < 49) (hx : x < 31) (q1 : I 36 (31 * s + x) = 0 → Q 1 I) (q0 : I 36 (31 * s + x) ≠ 0 → Q 0 I) : rm_217 s x I Q := by
  unfold rm_217 rm_67
  rw [r_sp hs hx]
  intro _
  refine ⟨by omega, by omega, ?_⟩
  intro v ev _
  rw [Int.toNat_natCast] at ev
  subst ev
  exact ⟨q0, q1⟩
end
end
