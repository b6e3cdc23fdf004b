/-! ===== what may be made; the reference: makePath ===== -/
noncomputable section
/-- only terms of S are made -/
def w_mo (S : Wt → Prop) (mk mm : List Wt) : Prop := w_le mk mm ∧ ∀ w ∈ mm, w ∈ mk ∨ S w
def m_bS (S : Wt → Prop) (mk : List Wt) : Prop := ∀ mm, w_mo S mk mm → mm.Nodup → m_bd mm
def w_dr (w : Wt) (b : Nat) : Wt := w_t 3 w [b] [] []
def w_p5 (w : Wt) : Wt := w_t 5 w [] [] []
section
variable {S : Wt → Prop} {mk mm ml L : List Wt} {w : Wt}
theorem w_mo_refl : w_mo S mk mk := ⟨w_le_refl _, fun _ h => Or.inl h⟩
theorem w_mo_trans (a : w_mo S mk mm) (b : w_mo S mm ml) : w_mo S mk ml := ⟨w_le_trans a.1 b.1, fun w hw => (b.2 w hw).elim (fun h => a.2 w h) Or.inr⟩
theorem w_tl_mem {v : Wt} (h : v ∈ w_tl mk w) : v ∈ mk ∨ v = w := by
  unfold w_tl at h
  split at h
  · exact Or.inl h
  · rcases List.mem_append.mp h with h | h
    · exact Or.inl h
    · exact Or.inr (List.mem_singleton.mp h)
theorem w_mo_tl (h : S w) : w_mo S mk (w_tl mk w) := ⟨w_le_tl mk w, fun _ hv => (w_tl_mem hv).elim Or.inl (fun e => Or.inr (e ▸ h))⟩
theorem w_tl_nd (h : mk.Nodup) : (w_tl mk w).Nodup := by
  unfold w_tl
  split
  · exact h
  · next c =>
    rw [List.nodup_append]
    exact ⟨h, by simp, fun a ha b hb e => c (by rw [List.mem_singleton] at hb; subst hb; subst e; exact ha)⟩
theorem w_mo_tls : ∀ (L : List Wt) {mk : List Wt}, (∀ w ∈ L, S w) → w_mo S mk (w_tls mk L)
  | [], _, _ => w_mo_refl
  | w :: L, _, h => w_mo_trans (w_mo_tl (h w (List.mem_cons_self ..))) (w_mo_tls L (fun v hv => h v (List.mem_cons_of_mem _ hv)))
theorem w_tls_nd : ∀ (L : List Wt) {mk : List Wt}, mk.Nodup → (w_tls mk L).Nodup
  | [], _, h => h
  | _ :: L, _, h => w_tls_nd L (w_tl_nd h)
theorem m_bS_mo (b : m_bS S mk) (h : w_mo S mk mm) : m_bS S mm := fun ml hl => b ml (w_mo_trans h hl)
theorem m_bS_tl (b : m_bS S mk) (nd : mk.Nodup) (h : S w) : m_bd (w_tl mk w) := b _ (w_mo_tl h) (w_tl_nd nd)
theorem m_bS_tls (b : m_bS S mk) (nd : mk.Nodup) (h : ∀ w ∈ L, S w) : m_bd (w_tls mk L) := b _ (w_mo_tls L h) (w_tls_nd L nd)
end
variable {I J X : sr_V} {nn s u k h : Nat} {K K' : Wt → Prop} {tl mk mm : List Wt} {a b c y n m : Int} {Q : Int → sr_V → Prop} {R : sr_V → Prop} {x i e l : Nat} {T T' T'' : w_T} {P : Nat → Nat → Prop} {S : Wt → Prop} {w ls : Wt}
theorem r_derS (hb : m_bS S mk) (hL : m_L I mk nn K tl) (ha : w_at mk a w) {z : Int} {j : Nat} (ez : z = j) (hj : j ≤ 9) (hS : S (w_dr w j)) (q : ∀ (t : Int) J mm, w_mo S mk mm → m_bS S mm → m_L J mm nn K tl → w_at mm t (w_dr w j) → m_f1 I J → Q t J) : rm_158 a z I Q := by
  subst ez
  refine r_derived hL ha (by omega) (by omega) (m_bS_tl hb (m_L_nd hL) hS) (fun t J LJ f _ hw => ?_)
  rw [Int.toNat_natCast] at LJ hw
  exact q t J _ (w_mo_tl hS) (m_bS_mo hb (w_mo_tl hS)) LJ hw f
theorem r_pubS (hb : m_bS S mk) (hL : m_L I mk nn K tl) (ha : w_at mk a w) (hS : S (w_p5 w)) (q : ∀ (t : Int) J mm, w_mo S mk mm → m_bS S mm → m_L J mm nn K tl → w_at mm t (w_p5 w) → m_f1 I J → Q t J) : rm_66 a I Q :=
  r_public hL ha (m_bS_tl hb (m_L_nd hL) hS) (fun t J LJ f _ hw => q t J _ (w_mo_tl hS) (m_bS_mo hb (w_mo_tl hS)) LJ hw f)
theorem r_nameS (hb : m_bS S mk) (hL : m_L I mk nn K tl) (hS : S (w_nm nn)) (q : ∀ (t : Int) J mm, w_mo S mk mm → m_bS S mm → m_L J mm (nn + 1) K tl → w_at mm t (w_nm nn) → m_f1 I J → Q t J) : rm_55 I Q :=
  m_nameT hL (m_bS_tl hb (m_L_nd hL) hS) (fun t J LJ f hw => q t J _ (w_mo_tl hS) (m_bS_mo hb (w_mo_tl hS)) LJ hw f)
/-- the secret of the path, below height k -/
def t_ls (T : w_T) (l : Nat) (n0 : Wt) : Nat → Wt
  | 0 => []
  | k + 1 => if t_cb T l k = 0 then t_ls T l n0 k else if t_ls T l n0 k = [] then n0 else w_dr (t_ls T l n0 k) 4
/-- what makePath makes -/
def t_mp (T : w_T) (l : Nat) (n0 : Wt) (k : Nat) (w : Wt) : Prop := ∃ j, j < k ∧ t_cb T l j ≠ 0 ∧ (w = t_ls T l n0 (j + 1) ∨ w = w_dr (t_ls T l n0 (j + 1)) 5 ∨ w = w_p5 (w_dr (t_ls T l n0 (j + 1)) 5))
def w_ax (mk : List Wt) (x : Int) (w : Wt) : Prop := (x = 0 ∧ w = []) ∨ (w_at mk x w ∧ w ≠ [])
theorem w_ax_le (h : w_ax mk a w) (hl : w_le mk mm) : w_ax mm a w := h.elim Or.inl (fun g => Or.inr ⟨w_le_at hl g.1, g.2⟩)
theorem t_ls_0 (c : t_cb T l k = 0) : t_ls T l w (k + 1) = t_ls T l w k := if_pos c
theorem t_ls_1 (c : t_cb T l k ≠ 0) : t_ls T l w (k + 1) = if t_ls T l w k = [] then w else w_dr (t_ls T l w k) 4 := if_neg c
/-- the path so far -/
def m_pth (I : sr_V) (mk : List Wt) (T : w_T) (l : Nat) (n0 : Wt) (k : Nat) : Prop := ∀ j, j < k → t_cb T l j ≠ 0 → w_at mk (I 99 j) (t_ls T l n0 (j + 1)) ∧ w_at mk (I 96 j) (w_p5 (w_dr (t_ls T l n0 (j + 1)) 5))
def m_pmp (f k : Nat) : Prop := m_p2 f k ∨ (f = 99 ∧ k < 8) ∨ (f = 96 ∧ k < 8)
theorem m_wy_pmp (h : m_wy I T l) (g : m_gp m_pmp I J) : m_wy J T l := ⟨by rw [g 1000 93 (by unfold m_pmp m_p2; omega)]; exact h.1, fun j hj => by rw [g 90 j (by unfold m_pmp m_p2; omega), g 91 j (by unfold m_pmp m_p2; omega), g 94 j (by unfold m_pmp m_p2; omega)]; exact h.2 j hj⟩
theorem m_pth_le (h : m_pth I mk T l w k) (hl : w_le mk mm) : m_pth I mm T l w k := fun j hj hc => ⟨w_le_at hl (h j hj hc).1, w_le_at hl (h j hj hc).2⟩
theorem m_pth_gp (h : m_pth I mk T l w k) (g : m_gp P I J) (hP : ∀ f j, P f j → ¬ ((f = 99 ∨ f = 96) ∧ j < k)) : m_pth J mk T l w k := fun j hj hc => by
  rw [g 99 j (fun c => hP _ _ c ⟨Or.inl rfl, hj⟩), g 96 j (fun c => hP _ _ c ⟨Or.inr rfl, hj⟩)]
  exact h j hj hc
theorem r_mp_4 (h4 : t_dp T ≤ 4) {x1 : Int} (hS : ∀ v, t_mp T l (w_nm nn) (t_dp T) v → S v) (hSf : S (w_dr (if t_ls T l (w_nm nn) (t_dp T) = [] then ls else t_ls T l (w_nm nn) (t_dp T)) 4)) : ∀ (n k : Nat) {I : sr_V} {mk : List Wt} {x2 : Int}, m_bS S mk → m_L I mk (nn + (if t_ls T l (w_nm nn) k = [] then 0 else 1)) K tl → w_at mk x1 ls → w_ax mk x2 (t_ls T l (w_nm nn) k) → m_wy I T l → m_pth I mk T l (w_nm nn) k → k ≤ t_dp T → t_dp T - k < n → (∀ z J mm, w_mo S mk mm → m_bS S mm → m_L J mm (nn + (if t_ls T l (w_nm nn) (t_dp T) = [] then 0 else 1)) K tl → w_at mm z (w_dr (if t_ls T l (w_nm nn) (t_dp T) = [] then ls else t_ls T l (w_nm nn) (t_dp T)) 4) → m_pth J mm T l (w_nm nn) (t_dp T) → m_gp m_pmp I J → Q z J) → rl_100_4 Q n x1 x2 k I
  | 0, _, _, _, _, _, _, _, _, _, _, _, h, _ => by omega
  | n + 1, k, I, m0, x2, hb, hL, h1, h2, hw, hp, hk, hn, q => by
    unfold rl_100_4
    intro v42 e42 _
    rw [hw.1] at e42
    subst e42
    refine ⟨fun c => ?_, fun c => ?_⟩
    · have e : k = t_dp T := by omega
      subst e
      have fin : ∀ x : Int, w_at m0 x (if t_ls T l (w_nm nn) (t_dp T) = [] then ls else t_ls T l (w_nm nn) (t_dp T)) → rb_100_50 Q x I := fun x hx => by
        unfold rb_100_50
        refine r_derS (j := 4) hb hL hx rfl (by decide) hSf (fun t J mm m1 m2 LJ wt fJ => ?_)
        intro _
        have g := m_f1_gp fJ
        exact q t J mm m1 m2 LJ wt (m_pth_gp (m_pth_le hp m1.1) g (fun f j p => by unfold m_p2 at p; omega)) (m_gp_sub g (fun f j p => Or.inl p))
      rcases h2 with ⟨rfl, e2⟩ | ⟨h2, e2⟩
      · exact ⟨fun c => absurd rfl c, fun _ => fin x1 (by rw [if_pos e2]; exact h1)⟩
      · refine ⟨fun _ => fin x2 (by rw [if_neg e2]; exact h2), fun c => ?_⟩
        have := h2.1
        omega
    · obtain ⟨w1, w2, w3⟩ := hw.2 k (by omega)
      refine ⟨by omega, by omega, ?_⟩
      intro v46 e46 _
      rw [Int.toNat_natCast, w3] at e46
      subst e46
      refine ⟨fun c1 => ?_, fun c1 => ?_⟩
      · have hm : ∀ v, (v = t_ls T l (w_nm nn) (k + 1) ∨ v = w_dr (t_ls T l (w_nm nn) (k + 1)) 5 ∨ v = w_p5 (w_dr (t_ls T l (w_nm nn) (k + 1)) 5)) → S v := fun v hv => hS v ⟨k, by omega, c1, hv⟩
        have ne1 : t_ls T l (w_nm nn) (k + 1) ≠ [] := by
          rw [t_ls_1 c1]
          split
          · unfold w_nm w_mk; simp
          · exact w_t_ne _ _ _ _ _
        have body : ∀ {s0 : Int} {J : sr_V} {mm : List Wt}, w_mo S m0 mm → m_bS S mm → m_L J mm (nn + 1) K tl → w_at mm s0 (t_ls T l (w_nm nn) (k + 1)) → m_gp m_p2 I J → rb_100_26 Q (rl_100_4 Q n) x1 k s0 k J := fun {s0 J mm} m1 m2 LJ hs gJ => by
          unfold rb_100_26
          refine ⟨by omega, by omega, ?_⟩
          intro I13 e13
          rw [Int.toNat_natCast] at e13
          refine ⟨by omega, by omega, ?_⟩
          intro v17 e17 _
          rw [Int.toNat_natCast, e13, su_eq] at e17
          subst e17
          have g13 : m_gp (fun f j => f = 99 ∧ j = k) J I13 := by rw [e13]; exact m_gp_su _ _ _ _
          have L13 : m_L I13 mm (nn + 1) K tl := m_L_gp LJ g13 (fun f j p => by omega)
          refine r_derS (j := 5) m2 L13 hs rfl (by decide) (hm _ (Or.inr (Or.inl rfl))) (fun t A ml a1 a2 LA wa fA => ?_)
          intro _
          refine r_pubS a2 LA wa (hm _ (Or.inr (Or.inr rfl))) (fun t2 B mx b1 b2 LB wb fB => ?_)
          intro _
          refine ⟨by omega, by omega, ?_⟩
          intro I38 e38
          rw [Int.toNat_natCast] at e38
          have gB : m_gp m_p2 I13 B := m_gp_trans (m_f1_gp fA) (m_f1_gp fB)
          have g38 : m_gp (fun f j => f = 96 ∧ j = k) B I38 := by rw [e38]; exact m_gp_su _ _ _ _
          have mo : w_mo S m0 mx := w_mo_trans m1 (w_mo_trans a1 b1)
          have gAll : m_gp m_pmp I I38 := m_gp_trans (m_gp_trans (m_gp_sub gJ (fun f j p => Or.inl p)) (m_gp_sub g13 (fun f j p => Or.inr (Or.inl (by omega))))) (m_gp_trans (m_gp_sub gB (fun f j p => Or.inl p)) (m_gp_sub g38 (fun f j p => Or.inr (Or.inr (by omega)))))
          have gk : m_gp (fun f j => m_p2 f j ∨ ((f = 99 ∨ f = 96) ∧ j = k)) I I38 := m_gp_trans (m_gp_trans (m_gp_sub gJ (fun f j p => Or.inl p)) (m_gp_sub g13 (fun f j p => Or.inr (by omega)))) (m_gp_trans (m_gp_sub gB (fun f j p => Or.inl p)) (m_gp_sub g38 (fun f j p => Or.inr (by omega))))
          have v99 : I38 99 k = v17 := by rw [e38, su_f (by decide), gB 99 k (by unfold m_p2; omega), e13, su_eq]
          unfold rb_100_42
          intro y8 e8
          rw [sw_s1 (by omega)] at e8
          subst e8
          refine r_mp_4 h4 hS hSf n (k + 1) (I := I38) (mk := mx) b2 (by rw [if_neg ne1]; exact m_L_gp LB g38 (fun f j p => by omega)) (w_le_at mo.1 h1) (Or.inr ⟨w_le_at (w_le_trans a1.1 b1.1) hs, ne1⟩) (m_wy_pmp hw gAll) (fun j hj hc => ?_) (by omega) (by omega) (fun z Z ml c1 c2 LZ wz pz gz => q z Z ml (w_mo_trans mo c1) c2 LZ wz pz (m_gp_trans gAll gz))
          rcases Nat.lt_or_ge j k with g | g
          · rw [gk 99 j (by unfold m_p2; omega), gk 96 j (by unfold m_p2; omega)]
            exact ⟨w_le_at mo.1 (hp j g hc).1, w_le_at mo.1 (hp j g hc).2⟩
          · have ej : j = k := by omega
            subst ej
            rw [v99, e38, su_eq]
            exact ⟨w_le_at (w_le_trans a1.1 b1.1) hs, wb⟩
        rcases h2 with ⟨rfl, e2⟩ | ⟨h2, e2⟩
        · refine ⟨fun c => absurd rfl c, fun _ => ?_⟩
          have en : t_ls T l (w_nm nn) (k + 1) = w_nm nn := by rw [t_ls_1 c1, if_pos e2]
          rw [if_pos e2, Nat.add_zero] at hL
          refine r_nameS hb hL (hm _ (Or.inl en.symm)) (fun t J mm m1 m2 LJ wt fJ => ?_)
          intro _
          exact body m1 m2 LJ (by rw [en]; exact wt) (m_f1_gp fJ)
        · refine ⟨fun _ => ?_, fun c => ?_⟩
          · have en : t_ls T l (w_nm nn) (k + 1) = w_dr (t_ls T l (w_nm nn) k) 4 := by rw [t_ls_1 c1, if_neg e2]
            rw [if_neg e2] at hL
            refine r_derS (j := 4) hb hL h2 rfl (by decide) (hm _ (Or.inl en.symm)) (fun t J mm m1 m2 LJ wt fJ => ?_)
            intro _
            exact body m1 m2 LJ (by rw [en]; exact wt) (m_f1_gp fJ)
          · have := h2.1
            omega
      · unfold rb_100_42
        intro y8 e8
        rw [sw_s1 (by omega)] at e8
        subst e8
        have es : t_ls T l (w_nm nn) (k + 1) = t_ls T l (w_nm nn) k := t_ls_0 c1
        refine r_mp_4 h4 hS hSf n (k + 1) hb (by rw [es]; exact hL) h1 (by rw [es]; exact h2) hw (fun j hj hc => ?_) (by omega) (by omega) q
        rcases Nat.lt_or_ge j k with g | g
        · exact hp j g hc
        · have ej : j = k := by omega
          subst ej
          exact absurd c1 hc
theorem r_makePath (h4 : t_dp T ≤ 4) {x1 : Int} (hS : ∀ v, t_mp T l (w_nm nn) (t_dp T) v → S v) (hSf : S (w_dr (if t_ls T l (w_nm nn) (t_dp T) = [] then ls else t_ls T l (w_nm nn) (t_dp T)) 4)) (hb : m_bS S mk) (hL : m_L I mk nn K tl) (h1 : w_at mk x1 ls) (hw : m_wy I T l) (q : ∀ z J mm, w_mo S mk mm → m_bS S mm → m_L J mm (nn + (if t_ls T l (w_nm nn) (t_dp T) = [] then 0 else 1)) K tl → w_at mm z (w_dr (if t_ls T l (w_nm nn) (t_dp T) = [] then ls else t_ls T l (w_nm nn) (t_dp T)) 4) → m_pth J mm T l (w_nm nn) (t_dp T) → m_gp m_pmp I J → Q z J) : rm_100 x1 I Q := by
  unfold rm_100
  exact ⟨t_dp T + 1, r_mp_4 h4 hS hSf _ 0 (x2 := 0) hb hL h1 (Or.inl ⟨rfl, rfl⟩) hw (fun j hj => by omega) (by omega) (by omega) q⟩
end
