/-! ===== the reference: the path of a commit ===== -/
noncomputable section
section
variable {T : w_T} {l k m n x : Nat} {kf : Nat → Wt} {C : Nat → Int}
theorem t_kpn_ow : ∀ n, t_ow (t_kpn C T l kf n) = t_ow T ∧ t_sk (t_kpn C T l kf n) = t_sk T
  | 0 => ⟨rfl, rfl⟩
  | n + 1 => by
    by_cases c : C n = 0
    · rw [t_kpn_0 c]; exact t_kpn_ow n
    · rw [t_kpn_1 c]; exact t_kpn_ow n
theorem t_pp_ow : ∀ n, t_ow (t_pp C T l n).1 = t_ow T ∧ t_sk (t_pp C T l n).1 = t_sk T
  | 0 => ⟨rfl, rfl⟩
  | n + 1 => by
    by_cases c : C (t_dp T - 1 - n) = 0
    · rw [t_pp_0 c]; exact t_pp_ow n
    · rw [t_pp_1 c]; exact t_pp_ow n
/-- leaves stay -/
theorem t_kpn_lf (hl : l < 16) : ∀ n, n ≤ 4 → t_ky (t_kpn C T l kf n) (2 * x) = t_ky T (2 * x)
  | 0, _ => rfl
  | n + 1, hn => by
    have o := t_ab_o hl (h := n + 1) (by omega) hn
    by_cases c : C n = 0
    · rw [t_kpn_0 c]
      show fu _ _ _ _ = _
      rw [fu_ne (by omega)]
      exact t_kpn_lf hl n (by omega)
    · rw [t_kpn_1 c]
      show fu (fu _ _ _) _ _ _ = _
      rw [fu_ne (by omega), fu_ne (by omega)]
      exact t_kpn_lf hl n (by omega)
theorem t_pth_dp : t_dp (t_pth C T l kf).1 = t_dp T := by unfold t_pth; rw [t_pp_dp, t_kpn_dp]
theorem t_pth_ow : t_ow (t_pth C T l kf).1 = t_ow T ∧ t_sk (t_pth C T l kf).1 = t_sk T := by
  unfold t_pth
  rw [(t_pp_ow _).1, (t_pp_ow _).2]
  exact t_kpn_ow _
theorem t_pth_lf (hl : l < 16) (h4 : t_dp T ≤ 4) : t_ky (t_pth C T l kf).1 (2 * x) = t_ky T (2 * x) := by
  unfold t_pth
  rw [t_pp_ky]
  exact t_kpn_lf hl _ h4
end
/-- key, path secrets, tree and leaf of who commits -/
def w_pkf (T : w_T) (l nn j : Nat) : Wt := w_p5 (w_dr (t_ls T l (w_nm (nn + 1)) (j + 1)) 5)
def w_pth (T : w_T) (l nn : Nat) : w_T × Wt := t_pth (t_cb T l) T l (w_pkf T l nn)
def w_plf (T : w_T) (l m nn : Nat) : p_L := ((m : Int), w_p5 (w_nm nn), w_pub m, 3, (w_pth T l nn).2, w_lsg m (w_p5 (w_nm nn)) 3 (w_pth T l nn).2 l)
def w_pT2 (T : w_T) (l m nn : Nat) : w_T := t_put (w_pth T l nn).1 l (w_plf T l m nn)
def w_pcs (T : w_T) (l nn : Nat) : Wt := w_dr (if t_ls T l (w_nm (nn + 1)) (t_dp T) = [] then w_nm nn else t_ls T l (w_nm (nn + 1)) (t_dp T)) 4
def w_pnn (T : w_T) (l nn : Nat) : Nat := nn + 1 + (if t_ls T l (w_nm (nn + 1)) (t_dp T) = [] then 0 else 1)
/-- the text of the path -/
def w_ptx (T : w_T) (l m nn : Nat) (msk : Int) : List Wt := w_lfw (w_plf T l m nn) ++ (w_b16 ((w_nk T (w_pT2 T l m nn) msk l (w_nm (nn + 1)) (t_dp T)).length : Nat) ++ w_nk T (w_pT2 T l m nn) msk l (w_nm (nn + 1)) (t_dp T))
/-- what the path makes -/
def w_ptS (T : w_T) (l m nn : Nat) (msk : Int) (v : Wt) : Prop := v = w_nm nn ∨ v = w_p5 (w_nm nn) ∨ t_mp T l (w_nm (nn + 1)) (t_dp T) v ∨ v = w_pcs T l nn ∨ t_mw (t_cb T l) (t_kpn (t_cb T l) T l (w_pkf T l nn) (t_dp T)) l v ∨ v = w_lsg m (w_p5 (w_nm nn)) 3 (w_pth T l nn).2 l ∨ ∃ k, k < t_dp T ∧ t_cb T l k ≠ 0 ∧ ∃ y ∈ w_rq (w_pT2 T l m nn) msk l k, v = w_sea (w_pT2 T l m nn) (t_ls T l (w_nm (nn + 1)) (k + 1)) y
variable {I I0 J X : sr_V} {nn nm s u k h us : Nat} {K K' K2 : Wt → Prop} {tl tl' mk mm l0 l1 l2 lw lt lp : List Wt} {a b c y n msk lf wp : Int} {Q : Int → sr_V → Prop} {R : sr_V → Prop} {x i e l m : Nat} {P : Nat → Nat → Prop} {S : Wt → Prop} {w ls n0 cs cm jn : Wt} {G : w_G} {T : w_T} {ms : List (List Wt)} {f : p_L}
/-- the own leaf is put: only its key, source, parent hash and signature change -/
theorem m_tr_own {z1 z2 z3 z4 : Int} (hT : m_tr I mk s T) (hk : k < 2 ^ t_dp T) (hky : t_ky T (2 * k) ≠ []) (ho : t_ow T k = f.1) (hs : t_sk T k = f.2.2.1) (hf : t_lfok f) (h1 : w_at mk z1 f.2.1) (h2 : f.2.2.2.1 = 3) (h3 : w_az mk z3 f.2.2.2.2.1) (h4 : w_at mk z4 f.2.2.2.2.2) : m_tr (su (su (su (su (su I 37 (31 * s + 2 * k) z1) 41 (31 * s + 2 * k) 3) 38 (31 * s + 2 * k) z3) 42 (31 * s + 2 * k) z4) 44 (31 * s + 2 * k) z2) mk s (t_put T k f) := by
  have hkw := (t_lf_w T k).mpr hk
  obtain ⟨t1, t2, t3, t4⟩ := hT
  obtain ⟨p, ep⟩ : ∃ p, p = 31 * s + 2 * k := ⟨_, rfl⟩
  rw [← ep]
  have at' : ∀ g j, (su (su (su (su (su I 37 p z1) 41 p 3) 38 p z3) 42 p z4) 44 p z2) g j = if j = p then (if g = 37 then z1 else if g = 41 then 3 else if g = 38 then z3 else if g = 42 then z4 else if g = 44 then z2 else I g j) else I g j := fun g j => by
    rw [su_at, su_at, su_at, su_at, su_at]
    by_cases c : j = p
    · rw [if_pos c]
      by_cases c37 : g = 37
      · subst c37; simp [c]
      · by_cases c41 : g = 41
        · subst c41; simp [c]
        · by_cases c38 : g = 38
          · subst c38; simp [c]
          · by_cases c42 : g = 42
            · subst c42; simp [c]
            · by_cases c44 : g = 44
              · subst c44; simp [c]
              · simp [c37, c41, c38, c42, c44]
    · simp [c]
  have ne : ∀ g j, j ≠ p → (su (su (su (su (su I 37 p z1) 41 p 3) 38 p z3) 42 p z4) 44 p z2) g j = I g j := fun g j h => by rw [at', if_neg h]
  have e31 : (su (su (su (su (su I 37 p z1) 41 p 3) 38 p z3) 42 p z4) 44 p z2) 31 s = I 31 s := by
    rw [su_f (by decide), su_f (by decide), su_f (by decide), su_f (by decide), su_f (by decide)]
  refine ⟨t_ok_put t1 hf, e31.trans t2, fun j hj => ?_, fun j hj hne => ?_⟩
  · show _ = (if fu (t_ky T) (2 * k) f.2.1 j = [] then 0 else if j % 2 = 0 then 1 else 2) ∧ w_az mk _ (fu (t_ky T) (2 * k) f.2.1 j) ∧ w_az mk _ (fu (t_ph T) (2 * k) f.2.2.2.2.1 j) ∧ _ = fu (t_um T) (2 * k) 0 j
    obtain ⟨a1, a2, a3, a4⟩ := t3 j hj
    by_cases c : j = 2 * k
    · subst c
      rw [fu_eq, fu_eq, fu_eq, if_neg hf.2.2.2.2.2, if_pos (by omega), at', at', at', at', if_pos ep.symm, if_pos ep.symm, if_pos ep.symm, if_pos ep.symm]
      rw [if_neg hky, if_pos (by omega)] at a1
      have u0 := (t1.2.1 (2 * k) hj).2.2.1 (by omega)
      rw [u0] at a4
      exact ⟨a1, Or.inr h1, h3, a4⟩
    · rw [fu_ne c, fu_ne c, fu_ne c, ne _ _ (by omega), ne _ _ (by omega), ne _ _ (by omega), ne _ _ (by omega)]
      exact ⟨a1, a2, a3, a4⟩
  · have hne : fu (t_ky T) (2 * k) f.2.1 (2 * j) ≠ [] := hne
    show _ = fu (t_ow T) k f.1 j ∧ w_at mk _ (fu (t_sk T) k f.2.2.1 j) ∧ _ = fu (t_so T) k f.2.2.2.1 j ∧ w_at mk _ (fu (t_sg T) k f.2.2.2.2.2 j)
    by_cases c : j = k
    · subst c
      obtain ⟨b1, b2, b3, b4⟩ := t4 j hj hky
      rw [fu_eq, fu_eq, fu_eq, fu_eq, at', at', at', at', if_pos ep.symm, if_pos ep.symm, if_pos ep.symm, if_pos ep.symm, ← ho, ← hs, h2]
      exact ⟨b1, b2, rfl, h4⟩
    · rw [fu_ne (by omega)] at hne
      rw [fu_ne c, fu_ne c, fu_ne c, fu_ne c, ne _ _ (by omega), ne _ _ (by omega), ne _ _ (by omega), ne _ _ (by omega)]
      exact t4 j hj hne
/-- what the path touches -/
def m_pcp (us f k : Nat) : Prop := (m_p2 f k ∨ m_pf us f k) ∨ (36 ≤ f ∧ f ≤ 44 ∧ 31 * 48 ≤ k ∧ k < 31 * 48 + 31) ∨ (88 ≤ f ∧ f ≤ 99) ∨ (f = 1000 ∧ (k = 92 ∨ k = 93))
end
