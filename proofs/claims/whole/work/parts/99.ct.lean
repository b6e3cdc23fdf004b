/-! ===== the reference: propose, its refusals ===== -/
noncomputable section
/-- no such member, kind, message or leaf -/
def w_prN (x kd of : Int) (n : Nat) : Prop := x < 0 ∨ 24 ≤ x ∨ kd < 1 ∨ 3 < kd ∨ (kd = 1 ∧ (of < 0 ∨ (n : Int) ≤ of)) ∨ (kd = 3 ∧ (of < 0 ∨ 16 ≤ of))
/-- a PACKAGE that is right -/
def w_rp (K : Wt → Prop) (l : List Wt) : Prop := ∃ v, w_isP K l v ∧ w_pks v ∧ v.1 ≠ v.2.1.2.1
variable {I J Z : sr_V} {nn nm fr us : Nat} {K K' : Wt → Prop} {tl tl' mk mm l l1 l2 cx L1 L2 b c : List Wt} {ms : List (List Wt)} {a x y n kd of : Int} {Q : Int → sr_V → Prop} {R : sr_V → Prop} {w g p k ph ik : Wt} {P : Nat → Nat → Prop} {s m : Nat}
theorem r_prop_thr {j : Int} (hj : 0 < j) (q : Q 0 (su I 1000 0 j)) : rb_17_66 Q x kd of j I := by
  unfold rb_17_66
  intro I1 e1 v2 e2 _
  rw [e1, su_eq] at e2
  refine ⟨fun c => by omega, fun _ => by rw [e1]; exact q⟩
theorem r_propose {Ga : Nat → w_G} {La : Nat → List (Wt × Nat)} {Ua : Nat → List (Wt × Wt)} (hw : m_wr I mk nn K tl ms us) (bdm : m_bd mk) (h01 : ∀ m : Nat, m < 24 → I 27 m = 0 ∨ I 27 m = 1) (hst : ∀ m : Nat, m < 24 → I 27 m = 1 → m_st I mk m (Ga m)) (hP : ∀ m : Nat, m < 24 → m_pp I mk ms m (La m)) (hU : ∀ m : Nat, m < 24 → m_up I mk m (Ua m) ∧ (Ua m).length ≤ (La m).length)
    (bd : ∀ (m : Nat) l, x = m → m < 24 → I 27 m = 1 → ms.length < 300 → (La m).length < 20 → (kd = 1 → ms[of.toNat]? = some l) → m_bd (w_tls mk (w_prA m nn (Ga m) kd of l)))
    (hof : sw_c of)
    (q1 : ∀ J, w_prN x kd of ms.length → m_L J mk nn K tl → J 1000 0 = 1 → m_gp m_pi I J → Q 0 J)
    (q2 : ∀ l J, ¬ w_prN x kd of ms.length → kd = 1 → ms[of.toNat]? = some l → ¬ w_rp K l → m_L J mk nn K tl → J 1000 0 = 2 → m_gp m_pi I J → Q 0 J)
    (q3 : ∀ (m : Nat) J, ¬ w_prN x kd of ms.length → (kd = 1 → ∃ l, ms[of.toNat]? = some l ∧ w_rp K l) → x = m → m < 24 → (ms.length = 300 ∨ I 27 m = 0 ∨ 20 ≤ (La m).length) → m_L J mk nn K tl → J 1000 0 = 3 → m_gp m_pi I J → Q 0 J)
    (q : ∀ (m : Nat) l J, ¬ w_prN x kd of ms.length → (kd = 1 → ms[of.toNat]? = some l ∧ w_rp K l) → x = m → m < 24 → ms.length < 300 → I 27 m = 1 → (La m).length < 20 → m_L J (w_tls mk (w_prA m nn (Ga m) kd of l)) (if kd = 2 then nn + 1 else nn) (w_lrs K (w_prM (Ga m) m (w_prB (Ga m) kd (w_prC m nn (Ga m) kd of l)))) tl → m_M J (w_d (w_tls mk (w_prA m nn (Ga m) kd of l))) (ms ++ [w_prM (Ga m) m (w_prB (Ga m) kd (w_prC m nn (Ga m) kd of l))]) → m_pp J (w_tls mk (w_prA m nn (Ga m) kd of l)) (ms ++ [w_prM (Ga m) m (w_prB (Ga m) kd (w_prC m nn (Ga m) kd of l))]) m (w_kp (La m) (w_hs (w_prM (Ga m) m (w_prB (Ga m) kd (w_prC m nn (Ga m) kd of l)))) ms.length) → m_up J (w_tls mk (w_prA m nn (Ga m) kd of l)) m (if kd = 2 then Ua m ++ [(w_hs (w_prM (Ga m) m (w_prB (Ga m) kd (w_prC m nn (Ga m) kd of l))), w_nm nn)] else Ua m) → J 1000 0 = 0 → m_gp (m_pv m us) I J → Q ms.length J) : rm_17 x kd of I Q := by
  unfold rm_17
  refine r_infer hw.1 (fun J L0 hk f0 => ?_)
  have p0 : m_gp m_pi I J := m_gp_sub (m_fr_gp f0) (fun f k p => by
    simp only [List.mem_cons, List.not_mem_nil, or_false] at p
    unfold m_pi; omega)
  have w0 := m_wr_pi hw L0 p0
  -- a refusal
  have thr : ∀ {X : sr_V} {j : Int}, 0 < j → m_gp m_pi I X → m_L X mk nn K tl → (∀ Y, m_L Y mk nn K tl → Y 1000 0 = j → m_gp m_pi I Y → Q 0 Y) → rb_17_66 Q x kd of j X := by
    intro X j hj pX LX hq
    have gX := m_gp_su X 1000 0 j
    refine r_prop_thr hj (hq _ (m_L_gp LX gX (fun f k p => by omega)) (su_eq _ _ _ _) (m_gp_trans pX (m_gp_sub gX (fun f k p => by unfold m_pi; omega))))
  have none : w_prN x kd of ms.length → rb_17_33 Q x kd of 1 J := by
    intro h
    unfold rb_17_33
    refine ⟨fun c => absurd c (by decide), fun _ => thr (by decide) p0 L0 (fun Y LY zY pY => q1 Y h LY zY pY)⟩
  -- a member, a kind
  have go : ∀ {X : sr_V} (l : List Wt), ¬ w_prN x kd of ms.length → (kd = 1 → ms[of.toNat]? = some l ∧ w_rp K l) → m_gp m_pi I X → m_L X mk nn K tl → rb_17_48 Q x kd of X := by
    intro X l hn hl pX LX
    obtain ⟨m, em⟩ : ∃ m : Nat, x = m := ⟨x.toNat, by unfold w_prN at hn; omega⟩
    have hm : m < 24 := by unfold w_prN at hn; omega
    have hkd : 1 ≤ kd ∧ kd ≤ 3 := by unfold w_prN at hn; omega
    have sa : ∀ f k, ((17 ≤ f ∧ f ≤ 54) ∨ (f = 1000 ∧ (k = 22 ∨ k = 23))) → X f k = I f k := fun f k h => pX f k (by unfold m_pi; omega)
    have wX := m_wr_pi hw LX pX
    have m22 : X 1000 22 = ms.length := wX.2.2.1.1
    have m300 := wX.2.2.1.2.1
    have hl' : kd = 1 → ∃ l, ms[of.toNat]? = some l ∧ w_rp K l := fun c => ⟨l, hl c⟩
    subst em
    unfold rb_17_48
    intro v1 e1 _
    rw [m22] at e1
    refine ⟨fun c => thr (by decide) pX LX (fun Y LY zY pY => q3 m Y hn hl' rfl hm (Or.inl (by omega)) LY zY pY), fun c => ⟨by omega, by omega, ?_⟩⟩
    intro v2 e2 _
    rw [Int.toNat_natCast, sa 27 m (by omega)] at e2
    refine ⟨fun c2 => thr (by decide) pX LX (fun Y LY zY pY => q3 m Y hn hl' rfl hm (Or.inr (Or.inl (by omega))) LY zY pY), fun c2 => ⟨by omega, by omega, ?_⟩⟩
    have in1 : I 27 m = 1 := by have := h01 m hm; omega
    intro v3 e3 _
    rw [Int.toNat_natCast, sa 46 m (by omega), (hP m hm).1] at e3
    refine ⟨fun c3 => ?_, fun c3 => thr (by decide) pX LX (fun Y LY zY pY => q3 m Y hn hl' rfl hm (Or.inr (Or.inr (by omega))) LY zY pY)⟩
    have gq : m_gp (fun f k => ¬ (30 ≤ f ∧ f ≤ 54)) I X := fun f k h => sa f k (by have := Decidable.byContradiction h; omega)
    have hu := (hU m hm).2
    refine r_prop_go (l := l) hm wX (m_st_gp (hst m hm in1) pX (fun f k h c => by unfold m_pl at h; unfold m_pi at c; omega)) (by omega) (m_pp_gp (m := m) (hP m hm) gq (fun f k h c => h (by unfold m_kq at c; omega)) (w_le_refl _) (fun _ _ h => h)) (by omega) (m_up_gp (m := m) (hU m hm).1 gq (fun f k h => ⟨fun c => h (by omega), fun c => h (by omega)⟩) (w_le_refl _)) (by omega) ?_ (bd m l rfl hm in1 (by omega) (by omega) (fun c => (hl c).1)) (fun Y a1 a2 a3 a4 a5 a6 => q m l Y hn hl rfl hm (by omega) in1 (by omega) a1 a2 a3 a4 a5 (m_gp_trans (m_gp_sub pX (fun f k p => m_pi_v p)) a6))
    by_cases k1 : kd = 1
    · refine Or.inl ⟨k1, of.toNat, by unfold w_prN at hn; omega, (hl k1).1, ?_⟩
      obtain ⟨v, hv, _⟩ := (hl k1).2
      have := hv.1
      omega
    · by_cases k2 : kd = 2
      · exact Or.inr (Or.inl k2)
      · exact Or.inr (Or.inr ⟨by omega, hof⟩)
  have c33 : ¬ w_prN x kd of ms.length → rb_17_33 Q x kd of 0 J := by
    intro hn
    unfold rb_17_33
    refine ⟨fun _ => ⟨fun k1 => go [] hn (fun c => absurd c k1) p0 L0, fun k1 => ?_⟩, fun c => absurd rfl c⟩
    obtain ⟨oi, eo⟩ : ∃ oi : Nat, of = oi := ⟨of.toNat, by unfold w_prN at hn; omega⟩
    have olt : oi < ms.length := by unfold w_prN at hn; omega
    obtain ⟨l, hl⟩ : ∃ l, ms[oi]? = some l := ⟨ms[oi], List.getElem?_eq_getElem olt⟩
    have w0' := w0
    obtain ⟨m1, m2, m3, m4, m5⟩ := w0'.2.2.1
    obtain ⟨a1, a2, a3, a4, a5⟩ := m5 oi l hl
    have hx : m_tk J mk K (J 24 oi).toNat l := m_tk_of L0 hk (by rw [← L0.2.2.2.1]; exact a5) (by have := hw.2.2.2; have := m_wr_us hw; omega)
    subst eo
    refine r_isRightPackage L0 w0.2.1 w0.2.2.1 hl hx (fun v X hv hs hne LX fX _ => ⟨fun _ => ?_, fun c => absurd c (by decide)⟩) (fun X hno LX fX _ => ⟨fun c => absurd rfl c, fun _ => ?_⟩)
    · refine go l hn (fun _ => ⟨by rw [Int.toNat_natCast]; exact hl, v, hv, hs, hne⟩) (m_gp_trans p0 (m_gp_sub (m_fr_gp fX) (fun f k p => ?_))) LX
      simp only [List.mem_cons, List.not_mem_nil, or_false] at p
      unfold m_pi; omega
    · refine thr (by decide) (m_gp_trans p0 (m_gp_sub (m_fr_gp fX) (fun f k p => ?_))) LX (fun Y LY zY pY => q2 l Y hn k1 (by rw [Int.toNat_natCast]; exact hl) (fun h => ?_) LY zY pY)
      · simp only [List.mem_cons, List.not_mem_nil, or_false] at p
        unfold m_pi; omega
      · obtain ⟨v, h1, h2⟩ := h
        exact hno v h1 h2
  have c22 : 0 ≤ x → x < 24 → 1 ≤ kd → kd ≤ 3 → (kd = 1 → 0 ≤ of ∧ of < ms.length) → rb_17_22 Q x kd of J := by
    intro h1 h2 h3 h4 h5
    unfold rb_17_22
    refine ⟨fun c => c33 (by unfold w_prN; omega), fun c => ⟨fun c1 => none (by unfold w_prN; omega), fun c1 => ⟨fun c2 => c33 (by unfold w_prN; omega), fun c2 => none (by unfold w_prN; omega)⟩⟩⟩
  refine ⟨fun c => none (Or.inl c), fun c => ⟨fun c1 => none (Or.inr (Or.inl c1)), fun c1 => ⟨fun c2 => none (Or.inr (Or.inr (Or.inl c2))), fun c2 => ⟨fun c3 => none (Or.inr (Or.inr (Or.inr (Or.inl c3)))), fun c3 => ⟨fun c4 => c22 c c1 c2 c3 (fun h => absurd h c4), fun c4 => ⟨fun c5 => none (by unfold w_prN; omega), fun c5 => ?_⟩⟩⟩⟩⟩⟩
  intro v6 e6 _
  rw [w0.2.2.1.1] at e6
  refine ⟨fun c6 => none (by unfold w_prN; omega), fun c6 => c22 c c1 c2 c3 (fun _ => ⟨c5, by omega⟩)⟩
end
