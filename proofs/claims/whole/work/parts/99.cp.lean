/-! ===== the reference: packages that are right ===== -/
noncomputable section
variable {I J : sr_V} {nn fr : Nat} {K K' : Wt → Prop} {tl tl' mk mm l L1 L2 : List Wt} {ms : List (List Wt)} {t key x y to m n so src : Int} {Q : Int → sr_V → Prop} {R : sr_V → Prop} {w g p k ph ik : Wt} {G : w_G} {P : Nat → Nat → Prop}
/-- a text behind infer -/
theorem m_tk_of (hL : m_L I mk nn K tl) (hk : ∀ t, m_R I t → (m_k I t ↔ K (w_d mk t))) (ha : m_at mk.length (w_d mk) (I 26) fr l) (hb : fr + l.length ≤ 362000) : m_tk I mk K fr l := by
  obtain ⟨T, hK, hN, h4, h5⟩ := hL
  refine ⟨ha, hb, by have := T.2.1; omega, fun t h1 h2 => ?_, fun i hi h256 => ?_⟩
  · obtain ⟨va, _, _, _, _, hd, hn⟩ := T.2.2.2.2.1 t h1 (by omega)
    have v0 := va.1
    have v1 := va.2.1
    refine ⟨?_, v0, v1⟩
    by_cases c : I 6 t = 8
    · obtain ⟨i, _, hi⟩ := hn c
      rw [hi, c]
      rfl
    · rw [hd c]
      rfl
  · obtain ⟨v, e⟩ := ha i _ (w_get hi)
    unfold m_vs at v
    have r : m_R I (I 26 (fr + i) - 256).toNat := ⟨by omega, by omega⟩
    refine ⟨hK.1 _, ?_⟩
    have := hk _ r
    unfold w_sg at e
    rw [if_neg (by omega)] at e
    rw [e] at this
    exact this
/-- the same when more terms were made -/
theorem m_tk_up {nm : Nat} (h : m_tk I mk K fr l) (hJ : m_L J mm nm K' tl') (hl : w_le mk mm) (e26 : ∀ i, i < l.length → J 26 (fr + i) = I 26 (fr + i)) (e16 : J 16 = I 16) : m_tk J mm K fr l := by
  obtain ⟨ha, hb, hm, hs, hk⟩ := h
  obtain ⟨T, hK, hN, h4, h5⟩ := hJ
  refine ⟨m_at_cg (m_at_le ha hl) (fun k hk => e26 k hk), hb, by have := T.2.1; omega, fun t h1 h2 => ?_, fun i hi h256 => ?_⟩
  · obtain ⟨va, _, _, _, _, hd, hn⟩ := T.2.2.2.2.1 t h1 (by omega)
    have v0 := va.1
    have v1 := va.2.1
    refine ⟨?_, v0, v1⟩
    by_cases c : J 6 t = 8
    · obtain ⟨i, _, hi⟩ := hn c
      rw [hi, c]
      rfl
    · rw [hd c]
      rfl
  · rw [e26 i hi] at h256 ⊢
    rw [e16]
    exact hk i hi h256
theorem m_tk_vl (h : m_tk I mk K fr l) : w_vl l := by
  refine w_vl_of h.1 (fun t h1 h2 c => ?_)
  obtain ⟨e, h0, h8⟩ := h.2.2.2.1 t h1 (by omega)
  rw [e] at c
  have := Option.some.inj c
  omega
theorem m_at_sli {nx : Int} {d : Nat → Wt} {f : Nat → Int} {i j : Nat} (h : m_at nx d f fr l) : m_at nx d f (fr + i) (w_sli l i j) := by
  intro k w hk
  have hlt := (List.getElem?_eq_some_iff.mp hk).1
  have : k < j - i := by
    unfold w_sli at hlt
    rw [List.length_take] at hlt
    omega
  rw [w_sli_at (by omega)] at hk
  have := h (i + k) w hk
  rw [← Nat.add_assoc] at this
  exact this
theorem r_isLeafSigned {j e : Nat} {s : Nat × Nat} (hL : m_L I mk nn K' tl) (hM : m_me I mk) (hx : m_tk I mk K fr l) (he : e ≤ l.length) (hlf : p_lf K src l (some (j, e)) = some ((m, k, p, so, ph, g), s)) (hlo : m_lo I mk fr m k p so ph g (j + (if so = 3 then 6 else 5))) (h60 : I 1000 60 = ((fr + j : Nat) : Int)) (hn : sw_c n) (q : ∀ z J, ((z = 1 ∧ w_lfs (m, k, p, so, ph, g) n) ∨ (z = 0 ∧ ¬ w_lfs (m, k, p, so, ph, g) n)) → m_L J mk nn K' tl → m_rr J mk [] → m_fr [55] [56] I J → Q z J) : rm_219 n I Q := by
  have hvl := m_tk_vl hx
  have hb := hx.2.1
  obtain ⟨x1, x2, x3, x4, x5, x6, _⟩ := p_lf_ix hlf
  obtain ⟨y1, y2, y3, y4⟩ := p_lf_sl hvl he hlf
  obtain ⟨o61, o62, o67, o63, o64, o66, o65⟩ := hlo
  have hj : j + (if so = 3 then 6 else 5) ≤ l.length := by split at x2 <;> split <;> omega
  have ln : (w_lh m k p so ph).length = (if so = 3 then 6 else 5) := by
    rw [← y1, w_sli_len hj]; omega
  have at1 : m_at mk.length (w_d mk) (I 26) (fr + j) (w_lh m k p so ph) := by rw [← y1]; exact m_at_sli hx.1
  have fin : ∀ J, m_L J mk nn K' tl → m_rr J mk (if 1 < so then w_b16 n else []) → m_fr [55] [56] I J → rb_219_10 Q J := by
    intro J LJ rJ fJ
    have sa : ∀ f, f ≠ 56 → J 1000 f = I 1000 f := fun f hf => fJ.2 f (by simpa using hf)
    unfold rb_219_10
    intro v1 e1 _ v4 e4 _ v7 e7 _ v10 e10 _ v13 e13 _
    rw [sa _ (by decide)] at e1 e4 e7 e10 e13
    rw [e1, e4, e7, e10, e13, h60, o61, o65]
    refine r_isSigned (L1 := w_lh m k p so ph) (L2 := if 1 < so then w_b16 n else []) (p := p) LJ (m_me_p2 hM (m_f0_gp fJ)) o66 o67 ?_ ?_ rJ ?_ ?_ (fun z G hz LG rG fG _ => ?_)
    · rw [fJ.1 26 (by simp) (by simp)]; exact at1
    · rw [ln]; omega
    · split
      · show 2 ≤ 6000; omega
      · show 0 ≤ 6000; omega
    · rw [ln]; omega
    · refine ⟨?_, q z G hz LG rG (m_fr_trans fJ fG)⟩
      rcases hz with ⟨e, _⟩ | ⟨e, _⟩ <;> omega
  unfold rm_219
  intro I24 e24 v28 e28 _
  obtain ⟨L24, r24, f24⟩ := r_rs0 hL e24
  rw [e24, su_k (by decide), o63] at e28
  refine ⟨fun c => fin I24 L24 (by rw [if_neg (by omega)]; exact r24) f24, fun c => ?_⟩
  refine r_b16 hn r24 (by simp) (fun J rJ fJ => fin J (m_f0_L L24 fJ) (by rw [if_pos (by omega)]; exact rJ) (m_fr_trans f24 fJ))
/-- the numbers behind a PACKAGE that was read at i -/
def m_pq (I : sr_V) (mk : List Wt) (fr i : Nat) : Wt × p_L × Wt → Prop
  | (ik, (m, k, p, so, ph, g0), g) => m_po2 I mk fr ik g (i + 8) ∧ m_lo I mk fr m k p so ph g0 (i + 7) ∧ I 1000 71 = ((fr + i : Nat) : Int) ∧ I 1000 60 = ((fr + (i + 2) : Nat) : Int)
theorem m_pq_fr {v : Wt × p_L × Wt} {i : Nat} {A F : List Nat} (h : m_pq I mk fr i v) (f : m_fr A F I J) (hF : ∀ k ∈ F, k < 60) : m_pq J mk fr i v := by
  obtain ⟨ik, ⟨m, k, p, so, ph, g0⟩, g⟩ := v
  have sa : ∀ k, 60 ≤ k → J 1000 k = I 1000 k := fun k hk => f.2 k (fun c => by have := hF k c; omega)
  unfold m_pq m_po2 m_lo at h ⊢
  rw [sa 68 (by omega), sa 70 (by omega), sa 69 (by omega), sa 72 (by omega), sa 61 (by omega), sa 62 (by omega), sa 67 (by omega), sa 63 (by omega), sa 64 (by omega), sa 66 (by omega), sa 65 (by omega), sa 71 (by omega), sa 60 (by omega)]
  exact h
theorem r_isPackageSigned {i e : Nat} {s : Nat × Nat} {v : Wt × p_L × Wt} (hL : m_L I mk nn K' tl) (hM : m_me I mk) (hx : m_tk I mk K fr l) (he : e ≤ l.length) (hpk : p_pk K l (some (i, e)) = some (v, s)) (hq : m_pq I mk fr i v) (q : ∀ z J, ((z = 1 ∧ w_pks v) ∨ (z = 0 ∧ ¬ w_pks v)) → m_L J mk nn K' tl → m_rr J mk [] → m_fr [55] [56] I J → Q z J) : rm_177 I Q := by
  obtain ⟨ik, ⟨m, k, p, so, ph, g0⟩, g⟩ := v
  have hvl := m_tk_vl hx
  have hb := hx.2.1
  obtain ⟨x1, x2, x3, x4, x5, x6⟩ := p_pk_ix hpk
  obtain ⟨y1, y2, y3, y4⟩ := p_pk_sl hvl he hpk
  obtain ⟨_, _, _, _, _, z6, _⟩ := p_lf_ix x5
  have z6 := z6 (by decide)
  subst z6
  have hq0 := hq
  obtain ⟨⟨o68, o70, o69, o72⟩, hlo, o71, o60⟩ := hq
  have hlo' := hlo
  obtain ⟨o61, o62, o67, o63, o64, o66, o65⟩ := hlo'
  unfold rm_177
  refine r_isLeafSigned (n := 0) hL hM hx he x5 (by rw [if_neg (by decide)]; exact hlo) (by rw [o60]) (by unfold sw_c; omega) (fun z J hz LJ rJ fJ _ => ⟨fun c => ?_, fun c => ?_⟩)
  · have hok : w_lfs (m, k, p, 1, ph, g0) 0 := by
      rcases hz with ⟨_, h⟩ | ⟨ez, _⟩
      · exact h
      · exact absurd ez c
    intro I9 e9
    obtain ⟨L9, r9, f9⟩ := r_rs0 LJ e9
    have f19 := m_fr_trans fJ f9
    have sa : ∀ f, f ≠ 56 → I9 1000 f = I 1000 f := fun f hf => f19.2 f (by simpa using hf)
    intro v13 e13 _ v16 e16 _ v19 e19 _ v22 e22 _ v25 e25 _
    rw [sa _ (by decide)] at e13 e16 e19 e22 e25
    rw [e13, e16, e19, e22, e25, o71, o61, o69]
    have at1 : m_at mk.length (w_d mk) (I9 26) (fr + i) (w_sli l i (i + 8)) := by
      rw [f19.1 26 (by simp) (by simp)]; exact m_at_sli hx.1
    have ln : (w_sli l i (i + 8)).length = 8 := by rw [w_sli_len (by omega)]; omega
    refine r_isSigned (L1 := w_sli l i (i + 8)) (L2 := []) (p := p) L9 (m_me_p2 hM (m_f0_gp f19)) o70 o67 at1 (by rw [ln]; omega) r9 (by simp) (by rw [ln]; omega) (fun z2 G hz2 LG rG fG _ => ?_)
    rw [List.append_nil, y1] at hz2
    refine ⟨?_, q z2 G ?_ LG rG (m_fr_trans f19 fG)⟩
    · rcases hz2 with ⟨e, _⟩ | ⟨e, _⟩ <;> omega
    · rcases hz2 with ⟨e, h⟩ | ⟨e, h⟩
      · exact Or.inl ⟨e, hok, h⟩
      · exact Or.inr ⟨e, fun c => h c.2⟩
  · refine q 0 J (Or.inr ⟨rfl, fun h => ?_⟩) LJ rJ fJ
    rcases hz with ⟨ez, _⟩ | ⟨_, hn⟩
    · omega
    · exact hn h.1
theorem r_begin {e : Nat} {x1 x2 : Int} (h1 : x1 = ((fr : Nat) : Int)) (h2 : x2 = ((fr + e : Nat) : Int)) (he : e ≤ l.length) (k : ∀ J, m_rd J fr l (some (0, e)) → m_fr [] [57, 58, 59] I J → R J) : rm_210 x1 x2 I R := by
  unfold rm_210
  intro I1 e1 I2 e2 I3 e3
  refine k I3 ⟨?_, ?_, ?_, by omega, he⟩ ?_
  · rw [e3, su_k (by decide), e2, su_k (by decide), e1, su_eq, h1]; rfl
  · rw [e3, su_k (by decide), e2, su_eq, h2]
  · rw [e3, su_eq]
  · rw [e3, e2, e1]
    exact m_fr_trans (m_fr_trans (m_su_fr (by simp)) (m_su_fr (by simp))) (m_su_fr (by simp))
/-- a whole message is a PACKAGE -/
def w_isP (K : Wt → Prop) (l : List Wt) (v : Wt × p_L × Wt) : Prop := l.length = 9 ∧ p_pk K l (some (0, l.length)) = some (v, 9, l.length)
theorem r_isPackage {mi : Nat} (hM : m_M I (w_d mk) ms) (hmi : ms[mi]? = some l) (hx : m_tk I mk K (I 24 mi).toNat l) (q1 : ∀ v J, w_isP K l v → m_pq J mk (I 24 mi).toNat 0 v → m_fr [] [57, 58, 59, 60, 61, 62, 63, 64, 65, 66, 67, 68, 69, 70, 71, 72] I J → Q 1 J) (q0 : ∀ J, (∀ v, ¬ w_isP K l v) → m_fr [] [57, 58, 59, 60, 61, 62, 63, 64, 65, 66, 67, 68, 69, 70, 71, 72] I J → Q 0 J) : rm_176 mi I Q := by
  obtain ⟨m1, m2, m3, m4, m5⟩ := hM
  obtain ⟨a1, a2, a3, a4, a5⟩ := m5 mi l hmi
  have mlt : mi < ms.length := (List.getElem?_eq_some_iff.mp hmi).1
  have hb := hx.2.1
  unfold rm_176
  refine ⟨by omega, by omega, ?_⟩
  intro v1 e1 _
  refine ⟨by omega, by omega, ?_⟩
  intro v4 e4 _
  refine ⟨by omega, by omega, ?_⟩
  intro v7 e7 _
  rw [Int.toNat_natCast] at e1 e4 e7
  obtain ⟨fr, efr⟩ : ∃ fr : Nat, I 24 mi = fr := ⟨(I 24 mi).toNat, by omega⟩
  rw [efr, Int.toNat_natCast] at hx hb q1
  rw [sw_w_s (by omega) (by omega)]
  refine r_begin (e := l.length) (l := l) (fr := fr) (by omega) (by omega) (Nat.le_refl _) (fun J1 r1 f1 => ?_)
  refine r_readPackage (m_tk_f hx f1) r1 (fun J2 r2 h71 v2 f2 => ?_)
  have f12 : m_fr [] [57, 58, 59, 60, 61, 62, 63, 64, 65, 66, 67, 68, 69, 70, 71, 72] I J2 := m_fr_trans (m_fr_sub f1 (by simp) (by simp)) f2
  have i57 : J1 1000 57 = ((fr + 0 : Nat) : Int) := r1.1
  obtain ⟨o, eo⟩ : ∃ o, p_pk K l (some (0, l.length)) = o := ⟨_, rfl⟩
  rw [eo] at r2 v2
  intro v24 e24 _
  cases o with
  | none =>
    have : J2 1000 59 = 1 := r2.2.2.2.2
    refine ⟨fun _ => q0 J2 (fun v hv => ?_) f12, fun c => by omega⟩
    unfold w_isP at hv
    rw [eo] at hv
    exact absurd hv.2 (by simp)
  | some r =>
    obtain ⟨⟨ik, ⟨m, k, p, so, ph, g0⟩, g⟩, s⟩ := r
    obtain ⟨x1, x2, _⟩ := p_pk_ix eo
    subst x1
    obtain ⟨b1, b2, b3, b4, b5⟩ := r2
    have b1 : J2 1000 57 = ((fr + (0 + 9) : Nat) : Int) := b1
    have b2 : J2 1000 58 = ((fr + l.length : Nat) : Int) := b2
    have b3 : J2 1000 59 = 0 := b3
    refine ⟨fun c => by omega, fun _ => ?_⟩
    intro v27 e27 _ v30 e30 _
    refine ⟨fun c => q0 J2 (fun v hv => c ?_) f12, fun c => ?_⟩
    · rw [e27, e30, b1, b2, hv.1]
    · obtain ⟨w1, ⟨sa, w2, w3⟩, j, w4, w5⟩ := v2 ik m k p so ph g0 g 8 l.length rfl
      have hj := w5 0 l.length rfl
      have hsa : sa = 7 := by omega
      subst hsa
      refine q1 (ik, (m, k, p, so, ph, g0), g) J2 ⟨by omega, eo⟩ ⟨w1, w2, by rw [h71]; exact i57, by rw [w4, hj]⟩ f12
theorem r_isRightPackage {mi : Nat} (hL : m_L I mk nn K' tl) (hMe : m_me I mk) (hM : m_M I (w_d mk) ms) (hmi : ms[mi]? = some l) (hx : m_tk I mk K (I 24 mi).toNat l) (q1 : ∀ v J, w_isP K l v → w_pks v → v.1 ≠ v.2.1.2.1 → m_L J mk nn K' tl → m_fr [55] [56, 57, 58, 59, 60, 61, 62, 63, 64, 65, 66, 67, 68, 69, 70, 71, 72] I J → Q 1 J) (q0 : ∀ J, (∀ v, w_isP K l v → ¬ (w_pks v ∧ v.1 ≠ v.2.1.2.1)) → m_L J mk nn K' tl → m_fr [55] [56, 57, 58, 59, 60, 61, 62, 63, 64, 65, 66, 67, 68, 69, 70, 71, 72] I J → Q 0 J) : rm_84 mi I Q := by
  have up : ∀ {A B : sr_V}, m_fr [] [57, 58, 59, 60, 61, 62, 63, 64, 65, 66, 67, 68, 69, 70, 71, 72] A B → m_fr [55] [56, 57, 58, 59, 60, 61, 62, 63, 64, 65, 66, 67, 68, 69, 70, 71, 72] A B := fun {A B} f => m_fr_sub f (by simp) (by simp)
  have lk : ∀ {J : sr_V}, m_fr [55] [56, 57, 58, 59, 60, 61, 62, 63, 64, 65, 66, 67, 68, 69, 70, 71, 72] I J → m_L J mk nn K' tl := fun {J} f => m_L_fr hL f (by simp) (by decide) (by decide) (by decide) (by decide)
  unfold rm_84
  refine r_isPackage hM hmi hx (fun v J hv hq fJ _ => ⟨fun c => absurd c (by decide), fun _ => ?_⟩) (fun J hn fJ _ => ⟨fun _ => q0 J (fun v hv => absurd hv (hn v)) (lk (up fJ)) (up fJ), fun c => absurd rfl c⟩)
  have hx' : m_tk J mk K (I 24 mi).toNat l := m_tk_f hx fJ
  have nd := m_L_nd hL
  refine r_isPackageSigned (e := l.length) (i := 0) (lk (up fJ)) (m_me_gp hMe (m_fr_gp fJ) (fun f k h => by simp at h; omega)) hx' (Nat.le_refl _) hv.2 hq (fun z G hz LG rG fG _ => ⟨fun c => ?_, fun c => ?_⟩)
  · refine q0 G (fun v' hv' h => ?_) LG (m_fr_trans (up fJ) (m_fr_sub fG (by simp) (by simp)))
    have : v' = v := by
      have h1 := hv'.2
      rw [hv.2] at h1
      exact (Prod.mk.inj (Option.some.inj h1)).1.symm
    subst this
    rcases hz with ⟨ez, _⟩ | ⟨_, hn⟩
    · omega
    · exact hn h.1
  · have hok : w_pks v := by
      rcases hz with ⟨_, h⟩ | ⟨ez, _⟩
      · exact h
      · exact absurd ez c
    have fG2 := m_fr_trans (up fJ) (m_fr_sub (F' := [56, 57, 58, 59, 60, 61, 62, 63, 64, 65, 66, 67, 68, 69, 70, 71, 72]) fG (by simp) (by simp))
    have hqG := m_pq_fr hq fG (by simp)
    obtain ⟨ik, ⟨m, k, p, so, ph, g0⟩, g⟩ := v
    obtain ⟨⟨o68, _⟩, ⟨_, o62, _⟩, _⟩ := hqG
    intro v15 e15 _ v18 e18 _
    refine ⟨fun c2 => ?_, fun c2 => ?_⟩
    · refine q0 G (fun v' hv' h => ?_) LG fG2
      have : v' = (ik, (m, k, p, so, ph, g0), g) := by
        have h1 := hv'.2
        rw [hv.2] at h1
        exact (Prod.mk.inj (Option.some.inj h1)).1.symm
      subst this
      apply h.2
      rw [e15, e18] at c2
      rw [c2] at o62
      have u1 := w_at_d o62
      rw [w_at_d o68] at u1
      exact u1
    · refine q1 (ik, (m, k, p, so, ph, g0), g) G hv hok (fun h => c2 ?_) LG fG2
      have h : ik = k := h
      rw [h] at o68
      rw [e15, e18]
      exact w_at_inj nd o62 o68
end
