/-! ===== trees that change ===== -/
noncomputable section
def fu {A : Type} (f : Nat → A) (a : Nat) (b : A) : Nat → A := fun x => if x = a then b else f x
theorem fu_eq {A : Type} {f : Nat → A} {a : Nat} {b : A} : fu f a b a = b := if_pos rfl
theorem fu_ne {A : Type} {f : Nat → A} {a x : Nat} {b : A} (h : x ≠ a) : fu f a b x = f x := if_neg h
/-- the node of height h above leaf k -/
def t_ab (k h : Nat) : Nat := k / 2 ^ h * 2 ^ (h + 1) + 2 ^ h - 1
/-- node x is blank -/
def t_bl (T : w_T) (x : Nat) : w_T := (t_dp T, fu (t_ky T) x [], fu (t_ph T) x [], fu (t_um T) x 0, t_ow T, t_sk T, t_so T, t_sg T)
/-- a LEAF is put -/
def t_put (T : w_T) (k : Nat) (f : p_L) : w_T := (t_dp T, fu (t_ky T) (2 * k) f.2.1, fu (t_ph T) (2 * k) f.2.2.2.2.1, fu (t_um T) (2 * k) 0, fu (t_ow T) k f.1, fu (t_sk T) k f.2.2.1, fu (t_so T) k f.2.2.2.1, fu (t_sg T) k f.2.2.2.2.2)
/-- the nodes above leaf k are blank, up to height h -/
def t_bwn (T : w_T) (k : Nat) : Nat → w_T
  | 0 => T
  | h + 1 => t_bl (t_bwn T k h) (t_ab k (h + 1))
def t_bw (T : w_T) (k : Nat) : w_T := t_bwn T k (t_dp T)
/-- the right half has no leaf -/
def t_rb (T : w_T) : Prop := ∀ l, 2 ^ (t_dp T - 1) ≤ l → l < 2 ^ t_dp T → t_ky T (2 * l) = []
def t_lo (T : w_T) : w_T := (t_dp T - 1, T.2)
def t_shn : Nat → w_T → w_T
  | 0, T => T
  | n + 1, T => @ite _ (0 < t_dp T ∧ t_rb T) (Classical.propDecidable _) (t_shn n (t_lo T)) T
def t_sh (T : w_T) : w_T := t_shn (t_dp T) T
/-- a taller tree -/
def t_gr (T : w_T) : w_T := (t_dp T + 1, fun x => if x < t_w T then t_ky T x else [], fun x => if x < t_w T then t_ph T x else [], fun x => if x < t_w T then t_um T x else 0, t_ow T, t_sk T, t_so T, t_sg T)
/-- leaf l is unmerged at node x -/
def t_u1 (T : w_T) (l x : Nat) : w_T := if t_ky T x = [] then T else (t_dp T, t_ky T, t_ph T, fu (t_um T) x (sw_or (t_um T x) ((2 ^ l : Nat) : Int)), t_ow T, t_sk T, t_so T, t_sg T)
def t_un (T : w_T) (l : Nat) : Nat → w_T
  | 0 => T
  | h + 1 => t_u1 (t_un T l h) l (t_ab l (h + 1))
/-- the first leaf that is free, from l on -/
def t_fn (T : w_T) : Nat → Nat → Nat
  | 0, l => l
  | n + 1, l => if l < 2 ^ t_dp T ∧ t_ky T (2 * l) ≠ [] then t_fn T n (l + 1) else l
def t_fl (T : w_T) : Nat := t_fn T 16 0
def t_room (T : w_T) (l : Nat) : w_T := if l = 2 ^ t_dp T then t_gr T else T
/-- a LEAF is added -/
def t_add (T : w_T) (f : p_L) : w_T := t_un (t_put (t_room T (t_fl T)) (t_fl T) f) (t_fl T) (t_dp (t_room T (t_fl T)))
def t_lfok (f : p_L) : Prop := 0 ≤ f.1 ∧ f.1 < 65536 ∧ 1 ≤ f.2.2.2.1 ∧ f.2.2.2.1 ≤ 3 ∧ (f.2.2.2.1 ≠ 3 → f.2.2.2.2.1 = []) ∧ f.2.1 ≠ []
section
variable {T : w_T} {k h x l n : Nat} {f : p_L}
theorem t_bl_dp : t_dp (t_bl T x) = t_dp T := rfl
theorem t_bl_w : t_w (t_bl T x) = t_w T := rfl
theorem t_put_dp : t_dp (t_put T k f) = t_dp T := rfl
theorem t_put_w : t_w (t_put T k f) = t_w T := rfl
theorem t_bwn_dp : ∀ h, t_dp (t_bwn T k h) = t_dp T
  | 0 => rfl
  | h + 1 => t_bwn_dp h
theorem t_bw_dp : t_dp (t_bw T k) = t_dp T := t_bwn_dp _
theorem t_u1_dp : t_dp (t_u1 T l x) = t_dp T := by unfold t_u1; split <;> rfl
theorem t_un_dp : ∀ h, t_dp (t_un T l h) = t_dp T
  | 0 => rfl
  | h + 1 => by show t_dp (t_u1 (t_un T l h) l (t_ab l (h + 1))) = _; rw [t_u1_dp, t_un_dp h]
theorem t_dp_w {A B : w_T} (h : t_dp A = t_dp B) : t_w A = t_w B := by unfold t_w; rw [h]
theorem t_u1_ky : t_ky (t_u1 T l x) = t_ky T := by unfold t_u1; split <;> rfl
theorem t_un_ky : ∀ h, t_ky (t_un T l h) = t_ky T
  | 0 => rfl
  | h + 1 => by show t_ky (t_u1 (t_un T l h) l (t_ab l (h + 1))) = _; rw [t_u1_ky, t_un_ky h]
theorem t_w_e (T : w_T) : t_w T = 2 * 2 ^ t_dp T - 1 := by unfold t_w; rw [Nat.pow_succ]; omega
theorem t_w_4 (h : t_dp T ≤ 4) : t_w T ≤ 31 := by
  have : 2 ^ t_dp T ≤ 2 ^ 4 := Nat.pow_le_pow_right (by decide) h
  rw [t_w_e]; omega
theorem t_lf_w (T : w_T) (k : Nat) : 2 * k < t_w T ↔ k < 2 ^ t_dp T := by
  have : 0 < 2 ^ t_dp T := Nat.two_pow_pos _
  rw [t_w_e]; omega
theorem t_ab_lt : ∀ d : Fin 5, ∀ k : Fin 16, ∀ h : Fin 5, k.val < 2 ^ d.val → h.val ≤ d.val → t_ab k.val h.val < 2 ^ (d.val + 1) - 1 := by decide +kernel
theorem t_ab_w (hd : t_dp T ≤ 4) (hk : k < 2 ^ t_dp T) (hh : h ≤ t_dp T) : t_ab k h < t_w T := by
  have : 2 ^ t_dp T ≤ 2 ^ 4 := Nat.pow_le_pow_right (by decide) hd
  exact t_ab_lt ⟨t_dp T, by omega⟩ ⟨k, by omega⟩ ⟨h, by omega⟩ hk hh
theorem t_ab_odd : ∀ k : Fin 16, ∀ h : Fin 5, 1 ≤ h.val → t_ab k.val h.val % 2 = 1 := by decide +kernel
theorem t_ab_o (hk : k < 16) (hh : 1 ≤ h) (h4 : h ≤ 4) : t_ab k h % 2 = 1 := t_ab_odd ⟨k, hk⟩ ⟨h, by omega⟩ hh
theorem t_ab_0 (k : Nat) : t_ab k 0 = 2 * k := by unfold t_ab; simp; omega
theorem t_ok_bl (h : t_ok T) : t_ok (t_bl T x) := by
  obtain ⟨h1, h2, h3⟩ := h
  refine ⟨h1, fun y hy => ?_, fun k hk hne => ?_⟩
  · show 0 ≤ fu (t_um T) x 0 y ∧ fu (t_um T) x 0 y < 65536 ∧ (y % 2 = 0 → fu (t_um T) x 0 y = 0) ∧ (fu (t_ky T) x [] y = [] → fu (t_ph T) x [] y = [] ∧ fu (t_um T) x 0 y = 0)
    by_cases c : y = x
    · subst c
      rw [fu_eq, fu_eq, fu_eq]
      exact ⟨by decide, by decide, fun _ => rfl, fun _ => ⟨rfl, rfl⟩⟩
    · rw [fu_ne c, fu_ne c, fu_ne c]; exact h2 y hy
  · have hne : fu (t_ky T) x [] (2 * k) ≠ [] := hne
    have c : 2 * k ≠ x := fun c => hne (by rw [c, fu_eq])
    rw [fu_ne c] at hne
    have := h3 k hk hne
    show 0 ≤ t_ow T k ∧ t_ow T k < 65536 ∧ 1 ≤ t_so T k ∧ t_so T k ≤ 3 ∧ (t_so T k ≠ 3 → fu (t_ph T) x [] (2 * k) = [])
    rw [fu_ne c]
    exact this
theorem t_ok_put (h : t_ok T) (hf : t_lfok f) : t_ok (t_put T k f) := by
  obtain ⟨h1, h2, h3⟩ := h
  obtain ⟨f1, f2, f3, f4, f5, f6⟩ := hf
  refine ⟨h1, fun y hy => ?_, fun j hj hne => ?_⟩
  · show 0 ≤ fu (t_um T) (2 * k) 0 y ∧ fu (t_um T) (2 * k) 0 y < 65536 ∧ (y % 2 = 0 → fu (t_um T) (2 * k) 0 y = 0) ∧ (fu (t_ky T) (2 * k) f.2.1 y = [] → fu (t_ph T) (2 * k) f.2.2.2.2.1 y = [] ∧ fu (t_um T) (2 * k) 0 y = 0)
    by_cases c : y = 2 * k
    · subst c
      rw [fu_eq, fu_eq, fu_eq]
      exact ⟨by decide, by decide, fun _ => rfl, fun c => absurd c f6⟩
    · rw [fu_ne c, fu_ne c, fu_ne c]; exact h2 y hy
  · have hne : fu (t_ky T) (2 * k) f.2.1 (2 * j) ≠ [] := hne
    show 0 ≤ fu (t_ow T) k f.1 j ∧ fu (t_ow T) k f.1 j < 65536 ∧ 1 ≤ fu (t_so T) k f.2.2.2.1 j ∧ fu (t_so T) k f.2.2.2.1 j ≤ 3 ∧ (fu (t_so T) k f.2.2.2.1 j ≠ 3 → fu (t_ph T) (2 * k) f.2.2.2.2.1 (2 * j) = [])
    by_cases c : j = k
    · subst c
      rw [fu_eq, fu_eq, fu_eq]
      exact ⟨f1, f2, f3, f4, f5⟩
    · rw [fu_ne (by omega)] at hne
      rw [fu_ne c, fu_ne c, fu_ne (by omega)]
      exact h3 j hj hne
theorem t_ok_bwn (h : t_ok T) : ∀ n, t_ok (t_bwn T k n)
  | 0 => h
  | n + 1 => t_ok_bl (t_ok_bwn h n)
theorem t_ok_bw (h : t_ok T) : t_ok (t_bw T k) := t_ok_bwn h _
theorem t_lo_w (h : 0 < t_dp T) : t_w (t_lo T) = 2 ^ t_dp T - 1 := by
  unfold t_w
  show 2 ^ (t_dp T - 1 + 1) - 1 = _
  rw [show t_dp T - 1 + 1 = t_dp T by omega]
theorem t_lo_le (h : 0 < t_dp T) : t_w (t_lo T) < t_w T := by
  have : 0 < 2 ^ t_dp T := Nat.two_pow_pos _
  rw [t_lo_w h, t_w_e]; omega
theorem t_ok_lo (h : t_ok T) (h0 : 0 < t_dp T) : t_ok (t_lo T) := by
  obtain ⟨h1, h2, h3⟩ := h
  have hw := t_lo_le h0
  exact ⟨by show t_dp T - 1 ≤ 4; omega, fun y hy => h2 y (by omega), fun k hk hne => h3 k (by omega) hne⟩
theorem t_ok_shn : ∀ n {T : w_T}, t_ok T → t_ok (t_shn n T)
  | 0, _, h => h
  | n + 1, T, h => by
    unfold t_shn
    by_cases c : 0 < t_dp T ∧ t_rb T
    · rw [if_pos c]; exact t_ok_shn n (t_ok_lo h c.1)
    · rw [if_neg c]; exact h
theorem t_ok_gr (h : t_ok T) (h3 : t_dp T ≤ 3) : t_ok (t_gr T) := by
  obtain ⟨h1, h2, h3'⟩ := h
  refine ⟨by show t_dp T + 1 ≤ 4; omega, fun y hy => ?_, fun k hk hne => ?_⟩
  · show 0 ≤ (if y < t_w T then t_um T y else 0) ∧ (if y < t_w T then t_um T y else 0) < 65536 ∧ (y % 2 = 0 → (if y < t_w T then t_um T y else 0) = 0) ∧ ((if y < t_w T then t_ky T y else []) = [] → (if y < t_w T then t_ph T y else []) = [] ∧ (if y < t_w T then t_um T y else 0) = 0)
    by_cases c : y < t_w T
    · rw [if_pos c, if_pos c, if_pos c]; exact h2 y c
    · rw [if_neg c, if_neg c, if_neg c]; exact ⟨by decide, by decide, fun _ => rfl, fun _ => ⟨rfl, rfl⟩⟩
  · have hne : (if 2 * k < t_w T then t_ky T (2 * k) else []) ≠ [] := hne
    by_cases c : 2 * k < t_w T
    · rw [if_pos c] at hne
      have := h3' k c hne
      show 0 ≤ t_ow T k ∧ t_ow T k < 65536 ∧ 1 ≤ t_so T k ∧ t_so T k ≤ 3 ∧ (t_so T k ≠ 3 → (if 2 * k < t_w T then t_ph T (2 * k) else []) = [])
      rw [if_pos c]; exact this
    · rw [if_neg c] at hne; exact absurd rfl hne
end
end
