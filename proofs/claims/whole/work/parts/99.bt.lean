/-! ===== the reference: the resolution of a node ===== -/
noncomputable section
/-- the leaves of a set, below k, as nodes -/
def w_uml (z : Int) (k : Nat) : List Nat := (List.range k).flatMap (fun l => if w_bit z l = 1 then [2 * l] else [])
theorem w_uml_s (z : Int) (k : Nat) : w_uml z (k + 1) = w_uml z k ++ (if w_bit z k = 1 then [2 * k] else []) := by
  unfold w_uml
  rw [List.range_succ, List.flatMap_append]
  simp
theorem w_uml_len (z : Int) : ∀ k : Nat, (w_uml z k).length ≤ k
  | 0 => by unfold w_uml; simp
  | k + 1 => by
    have ih := w_uml_len z k
    rw [w_uml_s, List.length_append]
    have : ((if w_bit z k = 1 then [2 * k] else []) : List Nat).length ≤ 1 := by split <;> simp
    omega
theorem w_uml_0 : ∀ k : Nat, w_uml 0 k = []
  | 0 => rfl
  | k + 1 => by
    rw [w_uml_s, w_uml_0 k, if_neg]
    · rfl
    · unfold w_bit
      rw [Int.zero_ediv]
      decide
/-- the resolution of node x, of height h -/
def w_rs (T : w_T) : Nat → Nat → List Nat
  | 0, x => if t_ky T x = [] then [] else x :: w_uml (t_um T x) 16
  | h + 1, x => if t_ky T x = [] then w_rs T h (x - 2 ^ h) ++ w_rs T h (x + 2 ^ h) else x :: w_uml (t_um T x) 16
theorem w_rs_full {T : w_T} {x : Nat} (hk : t_ky T x ≠ []) : ∀ h, w_rs T h x = x :: w_uml (t_um T x) 16
  | 0 => if_neg hk
  | _ + 1 => if_neg hk
theorem w_h_kid {y h : Nat} (hy : y < 31) (e : w_h y = h + 1) : 2 ^ h ≤ y ∧ w_h (y - 2 ^ h) = h ∧ w_h (y + 2 ^ h) = h := by
  have pp : 0 < 2 ^ w_h y := Nat.two_pow_pos _
  have kk := (w_kids ⟨y, hy⟩ ⟨y, hy⟩ ⟨by show y + 1 ≤ y + 2 ^ w_h y; omega, by show y < y + 2 ^ w_h y; omega⟩).2 (by show w_h y ≠ 0; omega)
  have z1 : 2 ^ (w_h y - 1) ≤ y := kk.1
  have z5 : w_h (y - 2 ^ (w_h y - 1)) = w_h y - 1 := kk.2.2.2.2.1
  have z6 : w_h (y + 2 ^ (w_h y - 1)) = w_h y - 1 := kk.2.2.2.2.2
  rw [e, Nat.add_sub_cancel] at z1 z5 z6
  exact ⟨z1, z5, z6⟩
theorem w_rs_len {T : w_T} (ok : t_ok T) : ∀ (h x : Nat), w_h x = h → x + 2 ^ h ≤ t_w T → (w_rs T h x).length ≤ (if h = 0 then 1 else 17 * 2 ^ (h - 1))
  | 0, x, e, hx => by
    rw [if_pos rfl]
    show (if t_ky T x = [] then [] else x :: w_uml (t_um T x) 16).length ≤ 1
    split
    · simp
    · have ev : x % 2 = 0 := by
        unfold w_h at e
        by_cases c : x % 2 = 0
        · exact c
        · rw [if_neg c] at e
          split at e
          · omega
          · split at e
            · omega
            · split at e <;> omega
      rw [(ok.2.1 x (by omega)).2.2.1 ev, w_uml_0]
      simp
  | h + 1, x, e, hx => by
    have w31 := t_w31 ok.1
    have p2 : 2 ^ (h + 1) = 2 * 2 ^ h := by rw [Nat.pow_succ]; omega
    have p0 : 0 < 2 ^ h := Nat.two_pow_pos _
    obtain ⟨k1, k2, k3⟩ := w_h_kid (by omega) e
    rw [if_neg (by omega), Nat.add_sub_cancel]
    show (if t_ky T x = [] then w_rs T h (x - 2 ^ h) ++ w_rs T h (x + 2 ^ h) else x :: w_uml (t_um T x) 16).length ≤ _
    split
    · have a := w_rs_len ok h (x - 2 ^ h) k2 (by omega)
      have b := w_rs_len ok h (x + 2 ^ h) k3 (by omega)
      rw [List.length_append]
      cases h with
      | zero => rw [if_pos rfl] at a b; omega
      | succ h =>
        rw [if_neg (by omega), Nat.add_sub_cancel] at a b
        have : 2 ^ (h + 1) = 2 * 2 ^ h := by rw [Nat.pow_succ]; omega
        omega
    · have := w_uml_len (t_um T x) 16
      rw [List.length_cons]
      omega
section
variable {I J : sr_V} {nn us : Nat} {K : Wt → Prop} {tl mk mm l : List Wt} {a b c x y : Int} {Q : Int → sr_V → Prop} {R : sr_V → Prop} {s : Nat} {G : w_G} {P : Nat → Nat → Prop} {w : Wt} {T : w_T}
/-- the nodes found so far -/
def m_rz (I : sr_V) (r : List Nat) : Prop := I 1000 92 = r.length ∧ ∀ (i v : Nat), r[i]? = some v → I 88 i = v
theorem m_rz_push {r : List Nat} {v : Nat} (h : m_rz I r) (e92 : J 1000 92 = I 1000 92 + 1) (ev : J 88 r.length = v) (eo : ∀ i, i < r.length → J 88 i = I 88 i) : m_rz J (r ++ [v]) := by
  refine ⟨by rw [e92, h.1, List.length_append]; simp, fun i u hu => ?_⟩
  rcases Nat.lt_or_ge i r.length with c | c
  · rw [List.getElem?_append_left c] at hu
    rw [eo i c]
    exact h.2 i u hu
  · rw [List.getElem?_append_right c] at hu
    have ei : i - r.length = 0 := by
      rcases Nat.eq_zero_or_pos (i - r.length) with z | z
      · exact z
      · rw [List.getElem?_eq_none (by simp; omega)] at hu
        exact absurd hu (by simp)
    rw [ei] at hu
    have hu := Option.some.inj hu
    rw [show i = r.length by omega, ev]
    omega
theorem r_res_l {s p y : Nat} {k10 : Int → Int → sr_V → Prop} {r : List Nat} (hs : s < 49) (hy : y < 31) (hu : sw_c (I 39 (31 * s + y))) (hl : r.length + 16 ≤ 200) (q : ∀ J, m_rz J (r ++ w_uml (I 39 (31 * s + y)) 16) → m_fr [88] [92] I J → k10 s p J) : ∀ (n k : Nat) {Z : sr_V}, k ≤ 16 → 16 - k < n → m_rz Z (r ++ w_uml (I 39 (31 * s + y)) k) → m_fr [88] [92] I Z → rl_141_69 R k10 n s p y k Z := by
  intro n
  induction n with
  | zero => intro k Z h1 h2; omega
  | succ n ih =>
    intro k Z h1 h2 rZ fZ
    have ul := w_uml_len (I 39 (31 * s + y)) k
    have e92 := rZ.1
    rw [List.length_append] at e92
    unfold rl_141_69
    refine ⟨fun c => ?_, fun c => ?_⟩
    · have ek : k = 16 := by omega
      rw [ek] at rZ
      exact q Z rZ fZ
    · unfold rm_67
      rw [r_sp hs hy]
      intro _
      refine ⟨by omega, by omega, ?_⟩
      intro v12 e12 _
      rw [Int.toNat_natCast, fZ.1 39 (by decide) (by decide)] at e12
      subst e12
      rw [sw_bit hu (by omega)]
      have b := w_bit_01 (I 39 (31 * s + y)) k
      have nx := w_uml_s (I 39 (31 * s + y)) k
      refine ⟨fun c1 => ?_, fun c1 => ?_⟩
      · intro v15 e15 _
        refine ⟨by omega, by omega, ?_⟩
        intro I19 e19 v23 e23 _ I27 e27
        unfold rb_141_99
        intro y1 ey1
        rw [if_pos (by omega)] at nx
        have e23' : v23 = Z 1000 92 := by rw [e23, e19, su_f (by decide)]
        rw [sw_w_s (by omega) (by omega)] at e19 ey1
        rw [e23', sw_w_s (by omega) (by omega)] at e27
        rw [ey1, show (k : Int) + 1 = ((k + 1 : Nat) : Int) by omega]
        have f27 : m_fr [88] [92] Z I27 := by
          refine ⟨fun g a1 a2 => ?_, fun f hf => ?_⟩
          · rw [e27, su_f a2, e19, su_f (by simpa using a1)]
          · rw [e27, su_k (by simpa using hf), e19, su_f (by decide)]
        refine ih (k + 1) (by omega) (by omega) ?_ (m_fr_trans fZ f27)
        rw [nx, ← List.append_assoc]
        refine m_rz_push rZ (by rw [e27, su_eq]) ?_ (fun i hi => ?_)
        · rw [e27, su_f (by decide), e19, show v15.toNat = (r ++ w_uml (I 39 (31 * s + y)) k).length by rw [List.length_append]; omega, su_eq]
          omega
        · rw [List.length_append] at hi
          rw [e27, su_f (by decide), e19, su_k (by omega)]
      · unfold rb_141_99
        intro y1 ey1
        rw [if_neg (by omega), List.append_nil] at nx
        rw [sw_w_s (by omega) (by omega)] at ey1
        rw [ey1, show (k : Int) + 1 = ((k + 1 : Nat) : Int) by omega]
        refine ih (k + 1) (by omega) (by omega) ?_ fZ
        rw [nx]
        exact rZ
/-- how many nodes of the pile that takes -/
def w_rc (T : w_T) : Nat → Nat → Nat
  | 0, _ => 1
  | h + 1, x => if t_ky T x = [] then w_rc T h (x - 2 ^ h) + w_rc T h (x + 2 ^ h) + 1 else 1
theorem w_rc_full {T : w_T} {x : Nat} (hk : t_ky T x ≠ []) : ∀ h, w_rc T h x = 1
  | 0 => rfl
  | _ + 1 => if_neg hk
/-- one node that is not BLANK -/
theorem r_res_full {s n y p : Nat} {r : List Nat} (hs : s < 49) (ht : m_tr I mk s T) (hy : y < t_w T) (hk : t_ky T y ≠ []) (hr : m_rz I r) (hl : r.length + 17 ≤ 200) (hp : p < 64) (hI : I 89 p = y) (q : ∀ J, m_rz J (r ++ (y :: w_uml (t_um T y) 16)) → m_fr [88] [92] I J → rl_141_10 R n s p J) : rl_141_10 R (n + 1) s ((p + 1 : Nat) : Int) I := by
  have w31 := t_w31 ht.1.1
  obtain ⟨a1, a2, a3, a4⟩ := ht.2.2.1 y hy
  have um := ht.1.2.1 y hy
  have e92 := hr.1
  unfold rl_141_10
  refine ⟨fun c => by omega, fun _ => ?_⟩
  intro y33 e33
  rw [sw_w_s (by omega) (by omega)] at e33
  have e33 : y33 = (p : Int) := by omega
  subst e33
  refine ⟨by omega, by omega, ?_⟩
  intro v37 e37 _
  rw [Int.toNat_natCast, hI] at e37
  subst e37
  refine r_height (by omega) (fun _ => ?_)
  refine r_isBlank hs (by omega) (fun c => ?_) (fun _ _ => ⟨fun _ => ?_, fun c => absurd rfl c⟩)
  · exfalso
    rw [a1, if_neg hk] at c
    split at c <;> omega
  · intro v60 e60 _
    refine ⟨by omega, by omega, ?_⟩
    intro I64 e64 v68 e68 _ I72 e72
    have e68' : v68 = I 1000 92 := by rw [e68, e64, su_f (by decide)]
    rw [e68', sw_w_s (by omega) (by omega)] at e72
    have f72 : m_fr [88] [92] I I72 := by
      refine ⟨fun g b1 b2 => ?_, fun f hf => ?_⟩
      · rw [e72, su_f b2, e64, su_f (by simpa using b1)]
      · rw [e72, su_k (by simpa using hf), e64, su_f (by decide)]
    have i39 : I72 39 (31 * s + y) = t_um T y := by rw [f72.1 39 (by decide) (by decide)]; exact a4
    have r72 : m_rz I72 (r ++ [y]) := by
      refine m_rz_push hr (by rw [e72, su_eq]) ?_ (fun i hi => ?_)
      · rw [e72, su_f (by decide), e64, show v60.toNat = r.length by omega, su_eq]
      · rw [e72, su_f (by decide), e64, su_k (by omega)]
    refine ⟨17, r_res_l (I := I72) (r := r ++ [y]) hs (by omega) (by rw [i39]; unfold sw_c; omega) (by rw [List.length_append]; simp; omega) (fun J rJ fJ => ?_) 17 0 (by omega) (by omega) ?_ (m_fr_refl _ _ _)⟩
    · rw [i39, List.append_assoc, List.singleton_append] at rJ
      exact q J rJ (m_fr_trans f72 fJ)
    · rw [show w_uml (I72 39 (31 * s + y)) 0 = [] from rfl, List.append_nil]
      exact r72
/-- a leaf of the pile that is BLANK -/
theorem r_res_0 {s n y p : Nat} (hs : s < 49) (ht : m_tr I mk s T) (hy : y < t_w T) (hh : w_h y = 0) (hk : t_ky T y = []) (hp : p < 64) (hI : I 89 p = y) (q : rl_141_10 R n s p I) : rl_141_10 R (n + 1) s ((p + 1 : Nat) : Int) I := by
  have w31 := t_w31 ht.1.1
  obtain ⟨a1, a2, a3, a4⟩ := ht.2.2.1 y hy
  unfold rl_141_10
  refine ⟨fun c => by omega, fun _ => ?_⟩
  intro y33 e33
  rw [sw_w_s (by omega) (by omega)] at e33
  have e33 : y33 = (p : Int) := by omega
  subst e33
  refine ⟨by omega, by omega, ?_⟩
  intro v37 e37 _
  rw [Int.toNat_natCast, hI] at e37
  subst e37
  refine r_height (by omega) (fun _ => ?_)
  rw [hh]
  exact r_isBlank hs (by omega) (fun _ _ => ⟨fun c => absurd c (by decide), fun _ => ⟨fun c => absurd rfl c, fun _ => q⟩⟩) (fun c => absurd (by rw [a1, if_pos hk]) c)
/-- a parent of the pile that is BLANK -/
theorem r_res_s {s n y p h : Nat} (hs : s < 49) (ht : m_tr I mk s T) (hy : y + 2 ^ (h + 1) ≤ t_w T) (hh : w_h y = h + 1) (hk : t_ky T y = []) (hp : p + 1 < 64) (hI : I 89 p = y) (q : ∀ J, J 89 p = ((y + 2 ^ h : Nat) : Int) → J 89 (p + 1) = ((y - 2 ^ h : Nat) : Int) → (∀ i, i < p → J 89 i = I 89 i) → m_fr [89] [] I J → rl_141_10 R n s ((p + 2 : Nat) : Int) J) : rl_141_10 R (n + 1) s ((p + 1 : Nat) : Int) I := by
  have w31 := t_w31 ht.1.1
  have p0 : 0 < 2 ^ h := Nat.two_pow_pos _
  have p2 : 2 ^ (h + 1) = 2 * 2 ^ h := by rw [Nat.pow_succ]; omega
  have h4 := w_h_4 y
  obtain ⟨k1, _, _⟩ := w_h_kid (by omega) hh
  obtain ⟨a1, a2, a3, a4⟩ := ht.2.2.1 y (by omega)
  have sh : sw_shl 1 (sw_w (((h + 1 : Nat) : Int) - 1)) = ((2 ^ h : Nat) : Int) := by
    have key : ∀ k : Fin 4, sw_shl 1 (sw_w (((k.val + 1 : Nat) : Int) - 1)) = ((2 ^ k.val : Nat) : Int) := by decide +kernel
    exact key ⟨h, by omega⟩
  obtain ⟨pw, epw⟩ : ∃ pw, pw = 2 ^ h := ⟨_, rfl⟩
  rw [← epw] at p0 p2 k1 sh q
  rw [p2] at hy
  clear epw p2
  have sm : sw_w ((y : Int) + (pw : Int)) = ((y + pw : Nat) : Int) ∧ sw_w ((y : Int) - (pw : Int)) = ((y - pw : Nat) : Int) := by
    clear sh
    rw [sw_w_s (by omega) (by omega), sw_w_s (by omega) (by omega)]
    omega
  unfold rl_141_10
  refine ⟨fun c => by clear sh sm; omega, fun _ => ?_⟩
  intro y33 e33
  have e33 : y33 = (p : Int) := by
    clear sh sm
    rw [sw_w_s (by omega) (by omega)] at e33
    omega
  subst e33
  refine ⟨Int.natCast_nonneg _, by clear sh sm; omega, ?_⟩
  intro v37 e37 _
  rw [Int.toNat_natCast, hI] at e37
  subst e37
  refine r_height (by clear sh sm; omega) (fun _ => ?_)
  rw [hh]
  refine r_isBlank hs (by clear sh sm; omega) (fun _ _ => ⟨fun c => absurd c (by decide), fun _ => ⟨fun _ => ⟨Int.natCast_nonneg _, by clear sh sm; omega, ?_⟩, fun c => by clear sh sm; omega⟩⟩) (fun c => absurd (by rw [a1, if_pos hk]) c)
  rw [sh, sm.1, sm.2]
  clear sh sm
  intro I80 e80
  rw [Int.toNat_natCast] at e80
  rw [sw_w_s (z := (p : Int) + 1) (by omega) (by omega), show (p : Int) + 1 = ((p + 1 : Nat) : Int) by omega]
  refine ⟨Int.natCast_nonneg _, by omega, ?_⟩
  intro I85 e85 y89 e89
  rw [Int.toNat_natCast] at e85
  rw [sw_w_s (by omega) (by omega)] at e89
  rw [e89, show (p : Int) + 2 = ((p + 2 : Nat) : Int) by omega]
  refine q I85 ?_ ?_ (fun i hi => ?_) ⟨fun g b1 b2 => ?_, fun f _ => ?_⟩
  · rw [e85, su_k (by omega), e80, su_eq]
  · rw [e85, su_eq]
  · rw [e85, su_k (by omega), e80, su_k (by omega)]
  · rw [e85, su_f (by simpa using b1), e80, su_f (by simpa using b1)]
  · rw [e85, su_f (by decide), e80, su_f (by decide)]
/-- one node of the pile -/
theorem r_res_n {s : Nat} (hs : s < 49) : ∀ (h y p n : Nat) {I : sr_V} {r : List Nat}, m_tr I mk s T → w_h y = h → y + 2 ^ h ≤ t_w T → m_rz I r → r.length + (w_rs T h y).length ≤ 150 → p + h + 2 ≤ 64 → I 89 p = y → (∀ J, m_rz J (r ++ w_rs T h y) → (∀ i, i < p → J 89 i = I 89 i) → m_fr [88, 89] [92] I J → rl_141_10 R n s p J) → rl_141_10 R (n + w_rc T h y) s ((p + 1 : Nat) : Int) I := by
  intro h
  induction h with
  | zero =>
    intro y p n I r ht hh hy hr hl hp hI q
    by_cases kb : t_ky T y = []
    · have er : w_rs T 0 y = [] := if_pos kb
      rw [er, List.append_nil] at q
      exact r_res_0 hs ht (by omega) hh kb (by omega) hI (q I hr (fun _ _ => rfl) (m_fr_refl _ _ _))
    · rw [w_rs_full kb 0] at q hl
      rw [List.length_cons] at hl
      exact r_res_full hs ht (by omega) kb hr (by omega) (by omega) hI (fun J rJ fJ => q J rJ (fun i _ => by rw [fJ.1 89 (by decide) (by decide)]) (m_fr_sub fJ (by simp) (by simp)))
  | succ h ih =>
    intro y p n I r ht hh hy hr hl hp hI q
    have w31 := t_w31 ht.1.1
    have p0 : 0 < 2 ^ h := Nat.two_pow_pos _
    have p2 : 2 ^ (h + 1) = 2 * 2 ^ h := by rw [Nat.pow_succ]; omega
    by_cases kb : t_ky T y = []
    · have er : w_rs T (h + 1) y = w_rs T h (y - 2 ^ h) ++ w_rs T h (y + 2 ^ h) := if_pos kb
      have ec : w_rc T (h + 1) y = w_rc T h (y - 2 ^ h) + w_rc T h (y + 2 ^ h) + 1 := if_pos kb
      rw [er] at q hl
      rw [List.length_append] at hl
      obtain ⟨k1, k2, k3⟩ := w_h_kid (by omega) hh
      rw [ec, show n + (w_rc T h (y - 2 ^ h) + w_rc T h (y + 2 ^ h) + 1) = (n + w_rc T h (y + 2 ^ h) + w_rc T h (y - 2 ^ h)) + 1 by omega]
      refine r_res_s hs ht (by omega) hh kb (by omega) hI (fun J j1 j2 j3 fJ => ?_)
      have trJ : m_tr J mk s T := m_tr_fr ht fJ (by simp)
      have rJ : m_rz J r := ⟨by rw [fJ.2 92 (by simp)]; exact hr.1, fun i v hv => by rw [fJ.1 88 (by decide) (by decide)]; exact hr.2 i v hv⟩
      refine ih (y - 2 ^ h) (p + 1) (n + w_rc T h (y + 2 ^ h)) trJ k2 (by omega) rJ (by omega) (by omega) j2 (fun J2 r2 i2 f2 => ?_)
      have tr2 : m_tr J2 mk s T := m_tr_fr trJ f2 (by simp)
      refine ih (y + 2 ^ h) p n tr2 k3 (by omega) r2 (by rw [List.length_append]; omega) (by omega) (by rw [i2 p (by omega)]; exact j1) (fun J3 r3 i3 f3 => ?_)
      rw [List.append_assoc] at r3
      exact q J3 r3 (fun i hi => by rw [i3 i hi, i2 i (by omega), j3 i hi]) (m_fr_trans (m_fr_sub fJ (by simp) (by simp)) (m_fr_trans f2 f3))
    · have ec := w_rc_full kb (h + 1)
      rw [w_rs_full kb (h + 1)] at q hl
      rw [List.length_cons] at hl
      rw [ec]
      exact r_res_full hs ht (by omega) kb hr (by omega) (by omega) hI (fun J rJ fJ => q J rJ (fun i _ => by rw [fJ.1 89 (by decide) (by decide)]) (m_fr_sub fJ (by simp) (by simp)))
theorem w_rs_136 {T : w_T} (ok : t_ok T) {x : Nat} (hx : x + 2 ^ w_h x ≤ t_w T) : (w_rs T (w_h x) x).length ≤ 136 := by
  have a := w_rs_len ok (w_h x) x rfl hx
  have h4 := w_h_4 x
  have key : ∀ h : Fin 5, (if h.val = 0 then 1 else 17 * 2 ^ (h.val - 1)) ≤ 136 := by decide +kernel
  have := key ⟨w_h x, by omega⟩
  exact Nat.le_trans a this
/-- resolve -/
theorem r_resolve {s x : Nat} (hs : s < 49) (ht : m_tr I mk s T) (hx : x + 2 ^ w_h x ≤ t_w T) (q : ∀ J, m_rz J (w_rs T (w_h x) x) → m_fr [88, 89] [92] I J → R J) : rm_141 s x I R := by
  unfold rm_141
  intro I97 e97
  refine ⟨by omega, ?_⟩
  intro I105 e105
  have f : m_fr [88, 89] [92] I I105 := by
    refine ⟨fun g b1 b2 => ?_, fun f hf => ?_⟩
    · simp at b1
      rw [e105, su_f b1.2, e97, su_f b2]
    · rw [e105, su_f (by decide), e97, su_k (by simpa using hf)]
  have r0 : m_rz I105 [] := ⟨by rw [e105, su_f (by decide), e97, su_eq]; rfl, fun i v hv => by simp at hv⟩
  have h4 := w_h_4 x
  have l := w_rs_136 ht.1 hx
  refine ⟨1 + w_rc T (w_h x) x, r_res_n hs (w_h x) x 0 1 (m_tr_fr ht f (by simp)) rfl hx r0 (by simp; omega) (by omega) (by rw [e105, su_eq]) (fun J rJ _ fJ => ?_)⟩
  unfold rl_141_10
  refine ⟨fun _ => q J (by simpa using rJ) (m_fr_trans f fJ), fun c => by omega⟩
end
end
