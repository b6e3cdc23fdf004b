/-! ===== the class: the Reader's readLeaf ===== -/
noncomputable section
section
variable {H Z X Y : sw_H} {nn nm r ra g m : Nat} {K K' S : Wt → Prop} {tl mk mm l : List Wt} {a b c x y n cn cs N U M : Int} {Q : sw_H → Prop} {P : Int → sw_H → Prop} {A B : List Nat} {w : Wt} {st : p_S}
theorem c_rs_fr2 (h : c_rs H mk r ra l) (f : c_fr [18, 22] H Z) (h1 : r ≠ 22) (h2 : ra ≠ 22) : c_rs Z mk r ra l := by
  obtain ⟨k1, k2, k3, ⟨sg, g1, g2, g3⟩, h5, h6, h7, h8⟩ := h
  have n3 : c_n Z = c_n H := by unfold c_n; rw [f.2.2.2.2.2 3 (by simp)]
  exact ⟨by rw [f.2.2.1]; exact k1, by rw [f.2.2.2.2.1]; exact k2, by rw [f.2.2.2.2.1]; exact k3, ⟨sg, c_row_fr g1 f (by simp; exact ⟨h5, h1⟩) (by simp; exact ⟨h6, h2⟩), by rw [n3]; exact g2, g3⟩, h5, h6, h7, by rw [n3]; exact h8⟩
theorem c_rd_si {f : Nat} {z : Int} {p : Nat} (h : c_rd H l st) (hp : p ≠ 18) : c_rd (sw_si H p f z) l st := by
  have e : ∀ k, sw_iv (sw_si H p f z) 18 k = sw_iv H 18 k := fun k => c_si_q (fun h => hp h.symm)
  cases st with
  | none =>
    obtain ⟨h1, h2, h3, h4, h5⟩ := h
    exact ⟨by rw [e]; exact h1, by rw [e]; exact h2, by rw [e]; exact h3, by rw [e]; exact h4, by rw [e]; exact h5⟩
  | some s =>
    obtain ⟨i, e'⟩ := s
    obtain ⟨h1, h2, h3, h4, h5⟩ := h
    exact ⟨by rw [e]; exact h1, by rw [e]; exact h2, by rw [e]; exact h3, h4, h5⟩
theorem c_readLeaf {src : Int} (hV : c_V H mk nn K tl cn cs) (hml : mk.length ≤ 999999999) (hs : c_rs H mk r ra l) (r22 : r ≠ 22) (ra22 : ra ≠ 22) (rv15 : sw_rv H 18 15 = 22) (t22 : sw_ty H 22 = 48) (hsrc : 0 ≤ src) (h : c_rd H l st) (q : ∀ G, c_rd G l (p_to (p_lf K src l st)) → (∀ m k p so ph g s, p_lf K src l st = some ((m, k, p, so, ph, g), s) → c_lf G mk 22 m k p so ph ∧ w_at mk (sw_iv G 22 5) g) → c_fr [18, 22] H G → c_k5 H G → Q G) : wm_344 18 src H Q := by
  have up : ∀ {A B : sw_H}, c_fr [18] A B → c_fr [18, 22] A B := fun {A B} f => c_fr_sub f (by simp)
  have si : ∀ (A : sw_H) (f : Nat) (z : Int), c_fr [18, 22] A (sw_si A 22 f z) := fun A f z => c_fr_sub (c_fr_si A 22 f z) (by simp)
  have VV : ∀ {B : sw_H}, c_fr [18, 22] H B → c_V B mk nn K tl cn cs := fun {B} f => c_V_fr hV f (fun a ha => by simp at ha; unfold c_fix; omega)
  have SS : ∀ {B : sw_H}, c_fr [18, 22] H B → c_rs B mk r ra l ∧ sw_rv B 18 15 = 22 ∧ sw_ty B 22 = 48 := fun {B} f => ⟨c_rs_fr2 hs f r22 ra22, by rw [f.2.2.2.2.1]; exact rv15, by rw [f.2.2.1]; exact t22⟩
  have i22 : ∀ {A B : sw_H}, c_fr [18] A B → ∀ f, sw_iv B 22 f = sw_iv A 22 f := fun {A B} f k => by rw [f.2.2.2.2.2 22 (by simp)]
  unfold wm_344
  rw [rv15]
  refine ⟨t22, ?_⟩
  intro q39 e39
  rw [e39]
  refine c_u16 hV.1 hs h (fun z1 J1 r1 v1 _ _ g1 n1 _ _ => ?_)
  intro H47 e47
  have r47 : c_rd H47 l (p_to (p_16 l st)) := by rw [e47]; exact c_rd_si r1 (by decide)
  have f47 : c_fr [18, 22] H H47 := c_fr_t (up g1) (by rw [e47]; exact si _ _ _)
  have k47 : sw_iv H47 22 0 = z1 := by rw [e47, c_si_eq]
  obtain ⟨s47, rv47, ty47⟩ := SS f47
  rw [rv47]
  refine ⟨ty47, ?_⟩
  intro q50 e50
  rw [e50]
  refine c_termOf (so := 5) (by omega) (by omega) (VV f47) hml s47 r47 (fun z2 J2 r2 v2 _ _ g2 n2 _ _ => ?_)
  intro H58 e58
  have r58 : c_rd H58 l (p_to (p_t K 5 l (p_to (p_16 l st)))) := by rw [e58]; exact c_rd_si r2 (by decide)
  have f58 : c_fr [18, 22] H H58 := c_fr_t f47 (c_fr_t (up g2) (by rw [e58]; exact si _ _ _))
  have k58 : sw_iv H58 22 0 = z1 ∧ sw_iv H58 22 1 = z2 := ⟨by rw [e58, c_si_f (by decide), i22 g2, k47], by rw [e58, c_si_eq]⟩
  obtain ⟨s58, rv58, ty58⟩ := SS f58
  rw [rv58]
  refine ⟨ty58, ?_⟩
  intro q61 e61
  rw [e61]
  refine c_termOf (so := 5) (by omega) (by omega) (VV f58) hml s58 r58 (fun z3 J3 r3 v3 _ _ g3 n3 _ _ => ?_)
  intro H69 e69
  have r69 : c_rd H69 l (p_to (p_t K 5 l (p_to (p_t K 5 l (p_to (p_16 l st)))))) := by rw [e69]; exact c_rd_si r3 (by decide)
  have f69 : c_fr [18, 22] H H69 := c_fr_t f58 (c_fr_t (up g3) (by rw [e69]; exact si _ _ _))
  have k69 : sw_iv H69 22 0 = z1 ∧ sw_iv H69 22 1 = z2 ∧ sw_iv H69 22 2 = z3 := ⟨by rw [e69, c_si_f (by decide), i22 g3, k58.1], by rw [e69, c_si_f (by decide), i22 g3, k58.2], by rw [e69, c_si_eq]⟩
  obtain ⟨s69, rv69, ty69⟩ := SS f69
  rw [rv69]
  refine ⟨ty69, ?_⟩
  intro q72 e72
  rw [e72]
  refine c_u8 (VV f69).1 s69 r69 (fun z4 J4 r4 v4 z40 z41 g4 n4 _ _ => ?_)
  intro H80 e80
  have r80 : c_rd H80 l (p_to (p_8 l (p_to (p_t K 5 l (p_to (p_t K 5 l (p_to (p_16 l st)))))))) := by rw [e80]; exact c_rd_si r4 (by decide)
  have f80 : c_fr [18, 22] H H80 := c_fr_t f69 (c_fr_t (up g4) (by rw [e80]; exact si _ _ _))
  have k80 : sw_iv H80 22 0 = z1 ∧ sw_iv H80 22 1 = z2 ∧ sw_iv H80 22 2 = z3 ∧ sw_iv H80 22 3 = z4 := ⟨by rw [e80, c_si_f (by decide), i22 g4, k69.1], by rw [e80, c_si_f (by decide), i22 g4, k69.2.1], by rw [e80, c_si_f (by decide), i22 g4, k69.2.2], by rw [e80, c_si_eq]⟩
  have n80 : c_k5 H H80 := c_k5_t n1 (c_k5_t (c_k5_sq e47 (by decide)) (c_k5_t n2 (c_k5_t (c_k5_sq e58 (by decide)) (c_k5_t n3 (c_k5_t (c_k5_sq e69 (by decide)) (c_k5_t n4 (c_k5_sq e80 (by decide))))))))
  clear e47 e58 e69 e80
  -- the last term
  have last : ∀ (Z : sw_H) (S4 S5 : p_S) (z5 : Int), c_rd Z l S5 → S4 = (if z4 < 1 ∨ 3 < z4 ∨ (0 < src ∧ z4 ≠ src) then none else p_to (p_8 l (p_to (p_t K 5 l (p_to (p_t K 5 l (p_to (p_16 l st)))))))) → S5 = (if z4 = 3 then p_to (p_h K l S4) else S4) → (z4 = 3 → ∀ w s, p_h K l S4 = some (w, s) → w_az mk z5 w) → (z4 ≠ 3 → z5 = 0) → c_fr [18] H80 Z → c_k5 H80 Z → wb_344_57 Q 18 z5 22 Z := by
    intro Z S4 S5 z5 rZ e4 e5 h3 h0 fZ nZ
    obtain ⟨pl1, pl2⟩ := p_lf_st (K := K) (src := src) (z := z4) v4 S4 S5 e4 e5
    unfold wb_344_57
    intro H1 e1
    have r1' : c_rd H1 l S5 := by rw [e1]; exact c_rd_si rZ (by decide)
    have f1 : c_fr [18, 22] H H1 := c_fr_t f80 (c_fr_t (up fZ) (by rw [e1]; exact si _ _ _))
    have x4 : sw_iv H1 22 4 = z5 := by rw [e1, c_si_eq]
    have xo : ∀ k, k ≠ 4 → sw_iv H1 22 k = sw_iv H80 22 k := fun k hk => by rw [e1, c_si_f hk, i22 fZ]
    obtain ⟨s1', rv1', ty1'⟩ := SS f1
    rw [rv1']
    refine ⟨ty1', ?_⟩
    intro q4 e4'
    rw [e4']
    refine c_termOf (so := 7) (by omega) (by omega) (VV f1) hml s1' r1' (fun z7 J7 r7 v7 _ _ g7 n7 _ _ => ?_)
    intro H12 e12
    have f12 : c_fr [18, 22] J7 H12 := by rw [e12]; exact si _ _ _
    have y : ∀ k, k ≠ 5 → sw_iv H12 22 k = sw_iv H1 22 k := fun k hk => by rw [e12, c_si_f hk, i22 g7]
    refine q H12 ?_ (fun m k p so ph g s hl => ?_) (c_fr_t f1 (c_fr_t (up g7) f12)) (c_k5_t n80 (c_k5_t nZ (c_k5_t (c_k5_sq e1 (by decide)) (c_k5_t n7 (c_k5_sq e12 (by decide))))))
    · rw [pl1, e12]
      exact c_rd_si r7 (by decide)
    · obtain ⟨⟨s1, s2, s3, s4, c1, c2, c3, c4⟩, hz, b1, b3, ph3, ph0, c7⟩ := pl2 m k p so ph g s hl
      refine ⟨⟨?_, ?_, ?_, ?_, ?_, b1, b3⟩, ?_⟩
      · rw [y 0 (by decide), xo 0 (by decide), k80.1]
        exact v1 m s1 c1
      · rw [y 1 (by decide), xo 1 (by decide), k80.2.1]
        exact v2 k s2 c2
      · rw [y 2 (by decide), xo 2 (by decide), k80.2.2.1]
        exact v3 p s3 c3
      · rw [y 3 (by decide), xo 3 (by decide), k80.2.2.2]
        exact hz
      · rw [y 4 (by decide), x4]
        by_cases c : so = 3
        · obtain ⟨s5, c5⟩ := ph3 c
          exact h3 (by omega) ph s5 c5
        · exact Or.inl ⟨h0 (by omega), ph0 c⟩
      · rw [e12, c_si_eq]
        exact v7 g s c7
  -- from the source on
  have src2 : ∀ (Z : sw_H) (S4 : p_S), c_rd Z l S4 → S4 = (if z4 < 1 ∨ 3 < z4 ∨ (0 < src ∧ z4 ≠ src) then none else p_to (p_8 l (p_to (p_t K 5 l (p_to (p_t K 5 l (p_to (p_16 l st)))))))) → c_fr [18] H80 Z → c_k5 H80 Z → wb_344_42 Q 18 Z := by
    intro Z S4 rZ e4 fZ nZ
    have fZ0 := c_fr_t f80 (up fZ)
    obtain ⟨sZ, rvZ, tyZ⟩ := SS fZ0
    unfold wb_344_42
    rw [rvZ]
    refine ⟨tyZ, ?_⟩
    intro q15 e15
    refine ⟨tyZ, ?_⟩
    intro q18 e18 v21 e21 _
    rw [e15]
    have e21 : v21 = z4 := by rw [e21, e18, i22 fZ, k80.2.2.2]
    refine ⟨fun c => ?_, fun c => ?_⟩
    · exact last Z S4 S4 0 rZ e4 (by rw [if_neg (by omega)]) (fun h => by omega) (fun _ => rfl) fZ nZ
    · refine c_isZero (VV fZ0) sZ rZ (fun G rG wG fG nG _ _ => ⟨fun c2 => absurd c2 (by decide), fun _ => ?_⟩) (fun ep _ _ => ⟨fun _ => ?_, fun c2 => absurd rfl c2⟩)
      · exact last G S4 _ 0 rG e4 (by rw [if_pos (by omega)]) (fun _ w s hw => Or.inl ⟨rfl, wG w s hw⟩) (fun h => by omega) (c_fr_t fZ fG) (c_k5_t nZ nG)
      · refine c_termOf (so := 1) (by omega) (by omega) (VV fZ0) hml sZ rZ (fun z5 J5 r5 v5 _ _ g5 n5 _ _ => ?_)
        rw [← ep] at r5 v5
        exact last J5 S4 _ z5 r5 e4 (by rw [if_pos (by omega)]) (fun _ w s hw => Or.inr (v5 w s hw)) (fun h => by omega) (c_fr_t fZ g5) (c_k5_t nZ n5)
  obtain ⟨s80, rv80, ty80⟩ := SS f80
  have bad : (z4 < 1 ∨ 3 < z4 ∨ (0 < src ∧ z4 ≠ src)) → wb_344_39 Q 18 H80 := by
    intro hc
    unfold wb_344_39
    intro H36 e36
    obtain ⟨b1, b2, b3, b4⟩ := c_rd_b r80
    obtain ⟨w1, w2⟩ := c_rd_wrong b1 b2 b3 b4 e36
    exact src2 H36 none w1 (by rw [if_pos hc]) w2 (c_k5_si e36 (by omega))
  have good : ¬ (z4 < 1 ∨ 3 < z4 ∨ (0 < src ∧ z4 ≠ src)) → wb_344_42 Q 18 H80 := fun hc => src2 H80 _ r80 (by rw [if_neg hc]) (c_fr_refl _ _) (c_k5_r _)
  have k3 := k80.2.2.2
  rw [rv80]
  refine ⟨ty80, ?_⟩
  intro q83 e83 v86 e86 _
  rw [e83, k3] at e86
  refine ⟨fun c => bad (by omega), fun c => ⟨ty80, ?_⟩⟩
  intro q89 e89 v92 e92 _
  rw [e89, k3] at e92
  refine ⟨fun c1 => bad (by omega), fun c1 => ⟨fun c2 => good (by omega), fun c2 => ⟨ty80, ?_⟩⟩⟩
  intro q95 e95 v98 e98 _
  rw [e95, k3] at e98
  exact ⟨fun c3 => good (by omega), fun c3 => bad (by omega)⟩
end
end
