/-! ===== the class: the resolution of a node ===== -/
noncomputable section
/-- the first leaf below a node; the node of a height above a leaf -/
def w_fl (y : Nat) : Nat := (y + 1 - 2 ^ w_h y) / 2
def w_ab (f k : Nat) : Nat := f / 2 ^ k * 2 ^ (k + 1) + 2 ^ k - 1
theorem w_ab_31 : ∀ f : Fin 16, ∀ k : Fin 5, w_ab f.val k.val < 31 := by decide +kernel
theorem w_fl_16 : ∀ y : Fin 31, w_fl y.val < 16 ∧ w_ab (w_fl y.val) (w_h y.val) = y.val ∧ w_fl y.val + 2 ^ w_h y.val ≤ 16 := by decide +kernel
theorem w_fl_kid : ∀ y : Fin 31, w_h y.val ≠ 0 → w_fl (y.val - 2 ^ (w_h y.val - 1)) = w_fl y.val ∧ w_fl (y.val + 2 ^ (w_h y.val - 1)) = w_fl y.val + 2 ^ (w_h y.val - 1) ∧ ∀ k : Fin 5, w_h y.val ≤ k.val → w_ab (w_fl (y.val - 2 ^ (w_h y.val - 1))) k.val = w_ab (w_fl y.val) k.val ∧ w_ab (w_fl (y.val + 2 ^ (w_h y.val - 1))) k.val = w_ab (w_fl y.val) k.val := by decide +kernel
theorem w_uml_mono (z : Int) {k : Nat} : ∀ (d : Nat), (w_uml z k).length ≤ (w_uml z (k + d)).length
  | 0 => Nat.le_refl _
  | d + 1 => by
    have ih := w_uml_mono z (k := k) d
    rw [← Nat.add_assoc, w_uml_s, List.length_append]
    omega
/-- how often the loop goes round -/
def w_rk (T : w_T) : Nat → Nat → Nat
  | 0, _ => 1
  | h + 1, x => if t_ky T x = [] then w_rk T h (x - 2 ^ h) + w_rk T h (x + 2 ^ h) else 1
theorem w_rk_full {T : w_T} {x : Nat} (hk : t_ky T x ≠ []) : ∀ h, w_rk T h x = 1
  | 0 => rfl
  | _ + 1 => if_neg hk
section
variable {H Z X Y : sw_H} {nn nm r ra g m p fa : Nat} {K K' S : Wt → Prop} {tl tl' tp mk mm l : List Wt} {a b c x y cn cs cn' cs' N U M wo : Int} {Q : sw_H → Prop} {P : Int → sw_H → Prop} {A B : List Nat} {w wa wb : Wt} {T : w_T}
/-- the nodes found so far -/
def c_rz (H : sw_H) (fa : Nat) (r : List Nat) : Prop := ∀ (i v : Nat), r[i]? = some v → sw_iv H fa i = v
theorem c_rz_push {r : List Nat} {v : Nat} {z : Int} (h : c_rz H fa r) (ev : z = v) : c_rz (sw_si H fa r.length z) fa (r ++ [v]) := by
  intro i u hu
  rcases Nat.lt_or_ge i r.length with c | c
  · rw [List.getElem?_append_left c] at hu
    rw [c_si_f (by omega)]
    exact h i u hu
  · rw [List.getElem?_append_right c] at hu
    have ei : i - r.length = 0 := by
      rcases Nat.eq_zero_or_pos (i - r.length) with z | z
      · exact z
      · rw [List.getElem?_eq_none (by simp; omega)] at hu
        exact absurd hu (by simp)
    rw [ei] at hu
    have hu := Option.some.inj hu
    rw [show i = r.length by omega, c_si_eq, ev]
    omega
theorem c_ky0 (hL : c_L H mk nn K tl) (ht : c_tr H mk p T) {x : Nat} (hx : x < 31) : sw_iv H (p + 1) x = 0 ↔ (t_w T ≤ x ∨ t_ky T x = []) := by
  rcases Nat.lt_or_ge x (t_w T) with c | c
  · have h := (ht.2.2.2.1 x c).1
    constructor
    · intro e
      rcases h with ⟨_, g⟩ | g
      · exact Or.inr g
      · have := w_at_le g; omega
    · rintro (h1 | h1)
      · omega
      · rcases h with ⟨g, _⟩ | g
        · exact g
        · exact absurd h1 (c_at_ne hL g)
  · exact ⟨fun _ => Or.inl c, fun _ => (ht.2.2.2.2.1 x c hx).1⟩
theorem c_putRes {y : Nat} {r : List Nat} (ht : c_tr H mk p T) (hy : y < t_w T) (hr : c_rz H fa r) (hl : r.length + (w_uml (t_um T y) 16).length + 1 ≤ sw_ln H fa) (hl2 : sw_ln H fa ≤ 1000) (hf : fa < p ∨ p + 20 < fa) (q : ∀ G, c_rz G fa (r ++ (y :: w_uml (t_um T y) 16)) → c_fr [fa] H G → P ((r ++ (y :: w_uml (t_um T y) 16)).length : Int) G) : wm_250 p y fa r.length H P := by
  have w31 := t_w31 ht.2.1.1
  obtain ⟨t1, t2, t3, t4, t5, t6, t7, t8, t9, t10, t11⟩ := ht.1
  have um := ht.2.1.2.1 y hy
  have iu := (ht.2.2.2.1 y hy).2.2
  have lp : ∀ (n k : Nat) {Z : sw_H}, k ≤ 16 → 16 - k < n → c_rz Z fa (r ++ (y :: w_uml (t_um T y) k)) → c_fr [fa] H Z → wl_250_13 P n p y fa ((r ++ (y :: w_uml (t_um T y) k)).length : Int) k Z := by
    intro n
    induction n with
    | zero => intro k Z h1 h2; omega
    | succ n ih =>
      intro k Z h1 h2 rZ fZ
      have ul := w_uml_len (t_um T y) k
      have ll : (r ++ (y :: w_uml (t_um T y) k)).length = r.length + (w_uml (t_um T y) k).length + 1 := by rw [List.length_append, List.length_cons]; omega
      unfold wl_250_13
      refine ⟨fun c => ?_, fun c => ?_⟩
      · have ek : k = 16 := by omega
        subst ek
        exact q Z rZ fZ
      · rw [fZ.2.2.2.2.1, t6]
        refine ⟨by rw [fZ.2.2.1]; exact (t8 3 (by omega) (by omega)).1, ?_⟩
        intro q5 e5
        rw [e5]
        refine ⟨by omega, by rw [fZ.2.2.2.1, (t8 3 (by omega) (by omega)).2]; omega, ?_⟩
        intro v8 e8 _
        rw [Int.toNat_natCast, fZ.2.2.2.2.2 (p + 3) (by simp; omega), iu] at e8
        subst e8
        rw [sw_bit (by unfold sw_c; omega) (by omega)]
        have b := w_bit_01 (t_um T y) k
        have nx := w_uml_s (t_um T y) k
        refine ⟨fun c1 => ?_, fun c1 => ?_⟩
        · unfold wb_250_36
          intro y1 ey1
          rw [if_neg (by omega), List.append_nil] at nx
          rw [sw_w_s (by omega) (by omega)] at ey1
          rw [ey1, show (k : Int) + 1 = ((k + 1 : Nat) : Int) by omega]
          have := ih (k + 1) (Z := Z) (by omega) (by omega) (by rw [nx]; exact rZ) fZ
          rw [nx] at this
          exact this
        · intro v11 e11 _
          have lZ := fZ.2.2.2.1 fa
          have mo : (w_uml (t_um T y) k).length + 1 ≤ (w_uml (t_um T y) 16).length := by
            have := w_uml_mono (t_um T y) (k := k + 1) (16 - (k + 1))
            rw [show k + 1 + (16 - (k + 1)) = 16 by omega, nx, if_pos (by omega), List.length_append] at this
            simp at this
            omega
          refine ⟨fun c2 => by omega, fun c2 => ⟨by omega, by omega, ?_⟩⟩
          intro H14 e14 y17 e17
          rw [Int.toNat_natCast] at e14
          unfold wb_250_36
          intro y1 ey1
          rw [if_pos (by omega)] at nx
          rw [sw_w_s (by omega) (by omega)] at e14 e17 ey1
          have ea : r ++ (y :: w_uml (t_um T y) (k + 1)) = (r ++ (y :: w_uml (t_um T y) k)) ++ [2 * k] := by rw [nx, List.append_assoc]; rfl
          have la : (r ++ (y :: w_uml (t_um T y) (k + 1))).length = (r ++ (y :: w_uml (t_um T y) k)).length + 1 := by rw [ea, List.length_append]; rfl
          have f14 : c_fr [fa] Z H14 := by rw [e14]; exact c_fr_si _ _ _ _
          have := ih (k + 1) (Z := H14) (by omega) (by omega) (by rw [ea, e14]; exact c_rz_push rZ (by omega)) (c_fr_t fZ f14)
          rw [ey1, e17, show (k : Int) + 1 = ((k + 1 : Nat) : Int) by omega, show ((r ++ (y :: w_uml (t_um T y) k)).length : Int) + 1 = ((r ++ (y :: w_uml (t_um T y) (k + 1))).length : Int) by rw [la]; omega]
          exact this
  unfold wm_250
  intro v30 e30 _
  refine ⟨fun c => by omega, fun c => ⟨by omega, by omega, ?_⟩⟩
  intro H33 e33 y36 e36
  rw [Int.toNat_natCast] at e33
  rw [sw_w_s (by omega) (by omega)] at e36
  unfold wb_250_11
  have f33 : c_fr [fa] H H33 := by rw [e33]; exact c_fr_si _ _ _ _
  have r33 : c_rz H33 fa (r ++ [y]) := by rw [e33]; exact c_rz_push hr rfl
  have := lp 17 0 (Z := H33) (by omega) (by omega) (by rw [show w_uml (t_um T y) 0 = [] from rfl]; exact r33) f33
  rw [show w_uml (t_um T y) 0 = [] from rfl] at this
  refine ⟨17, ?_⟩
  rw [e36, show (r.length : Int) + 1 = ((r ++ [y]).length : Int) by rw [List.length_append]; rfl]
  exact this
/-- highestFilled -/
theorem c_highest {at' h : Nat} (hL : c_L H mk nn K tl) (ht : c_tr H mk p T) (ha : at' < 16) (hh : h ≤ 4) (q1 : ∀ f, f ≤ h → (w_ab at' f < t_w T ∧ t_ky T (w_ab at' f) ≠ []) → (∀ k, f < k → k ≤ h → t_w T ≤ w_ab at' k ∨ t_ky T (w_ab at' k) = []) → P f H) (q0 : (∀ k, k ≤ h → t_w T ≤ w_ab at' k ∨ t_ky T (w_ab at' k) = []) → P (-1) H) : wm_248 p at' h H P := by
  obtain ⟨t1, t2, t3, t4, t5, t6, t7, t8, t9, t10, t11⟩ := ht.1
  have lp : ∀ (k : Nat), k ≤ h + 1 → (∀ j, k ≤ j → j ≤ h → t_w T ≤ w_ab at' j ∨ t_ky T (w_ab at' j) = []) → wl_248_2 P (k + 1) p at' ((k : Int) - 1) H := by
    intro k
    induction k with
    | zero =>
      intro _ hb
      unfold wl_248_2
      exact ⟨fun _ => q0 (fun j hj => hb j (by omega) hj), fun c => by omega⟩
    | succ k ih =>
      intro hk hb
      unfold wl_248_2
      rw [show ((k + 1 : Nat) : Int) - 1 = (k : Int) by omega]
      refine ⟨fun c => by omega, fun _ => ?_⟩
      rw [t4]
      refine ⟨(t8 1 (by omega) (by omega)).1, ?_⟩
      intro q1' e1
      rw [e1]
      have a31 : w_ab at' k < 31 := w_ab_31 ⟨at', ha⟩ ⟨k, by omega⟩
      refine c_above ha (show k ≤ 4 by omega) (fun _ _ => ?_)
      show 0 ≤ ((w_ab at' k : Nat) : Int) ∧ _
      refine ⟨Int.natCast_nonneg _, by rw [(t8 1 (by omega) (by omega)).2]; exact w_i31 a31, ?_⟩
      intro v9 e9 _
      have e9 : v9 = sw_iv H (p + 1) (w_ab at' k) := e9
      have kz := c_ky0 hL ht a31
      rw [← e9] at kz
      refine ⟨fun c => ?_, fun c => ?_⟩
      · intro y12 e12
        rw [sw_w_s (by omega) (by omega)] at e12
        rw [e12]
        refine ih (by omega) (fun j hj hj2 => ?_)
        by_cases cj : j = k
        · rw [cj]; exact kz.mp c
        · exact hb j (by omega) hj2
      · have nb : ¬ (t_w T ≤ w_ab at' k ∨ t_ky T (w_ab at' k) = []) := fun h => c (kz.mpr h)
        refine q1 k (by omega) ⟨by
          rcases Nat.lt_or_ge (w_ab at' k) (t_w T) with g | g
          · exact g
          · exact absurd (Or.inl g) nb, fun h => nb (Or.inr h)⟩ (fun j hj hj2 => hb j (by omega) hj2)
  have := lp (h + 1) (by omega) (fun j h1 h2 => by omega)
  rw [show ((h + 1 : Nat) : Int) - 1 = (h : Int) by omega] at this
  exact ⟨h + 2, this⟩
end
end
