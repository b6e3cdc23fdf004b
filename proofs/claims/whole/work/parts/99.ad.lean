/-! ===== the class: add, its end: KNOWN, buckets, chains ===== -/
noncomputable section
section
variable {Y X W : sw_H} {P : Int → sw_H → Prop} {cn cs u m : Int} {T : Nat} {z : Int}
theorem c_fr_ft {A : List Nat} (h : c_fr A Y W) (hA : ∀ a ∈ A, c_ow Y a) : c_ft Y W := by
  obtain ⟨h1, h2, h3, h4, h5, h6⟩ := h
  refine ⟨⟨by omega, fun a _ => ⟨h3 a, h4 a⟩⟩, fun a _ ho => ⟨fun f => by rw [h6 a (fun hm => ho (hA a hm))], h5 a⟩, fun a ha => Or.inl ?_, h5 3 0⟩
  unfold c_ow at ha ⊢
  simp only [h5] at ha
  exact ha
theorem c_fr_F {A : List Nat} (h : c_fr A Y W) (F : c_F Y) : c_F W := fun c hc => by rw [h.2.2.1]; exact F c (by rw [← h.1]; exact hc)
theorem c_fr_S {A : List Nat} (h : c_fr A Y W) (S : c_S Y) (D : c_D Y) (h4 : 4 ∉ A) (h5 : 5 ∉ A) : c_S W ∧ c_D W := by
  have h' := h
  obtain ⟨_, _, f3, f4, f5, f6⟩ := h'
  obtain ⟨s1, s2, s3, s4, s5, s6, s7, s8, s9, s10, s11, s12, s13⟩ := S
  have s12 := c_row_fr s12 h h4 h5
  unfold c_S c_D at *
  simp only [f3, f4, f5]
  exact ⟨⟨s1, s2, s3, s4, s5, s6, s7, s8, s9, s10, s11, s12, s13⟩, D⟩
theorem c_fr_ow {A : List Nat} (h : c_fr A Y W) (a : Nat) : c_ow W a ↔ c_ow Y a := by
  unfold c_ow
  simp only [h.2.2.2.2.1]
theorem c_ft_no {a : Nat} (h : c_ft Y W) (ht : sw_ty Y a ≠ 0) (ho : ¬ c_ow Y a) : ¬ c_ow W a := fun hh => by
  rcases h.2.2.1 a hh with h | h
  · exact ho h
  · exact ht h
theorem c_CH_cg {n : Nat} (r5 : sw_rv W 3 5 = sw_rv Y 3 5) (l5 : sw_ln W (sw_rv W 3 5) = sw_ln Y (sw_rv Y 3 5)) (b5 : ∀ j, sw_iv W (sw_rv Y 3 5) j = sw_iv Y (sw_rv Y 3 5) j) (hd : ∀ t k : Nat, 1 ≤ t → t < n → (k = 0 ∨ k = 6 ∨ k = 7) → c_d W t k = c_d Y t k) (h : c_CH Y n) : c_CH W n := by
  obtain ⟨ch, a1, a2, a3⟩ := h
  refine ⟨ch, fun b hb => ?_, a2, fun t h1 h2 h3 => ?_⟩
  · rw [r5, b5]
    exact c_lk_ne _ _ (fun t ht => hd t 7 (a2 b t ht).1 (a2 b t ht).2 (by omega)) (a1 b (by rw [← l5]; exact hb))
  · have e : ∀ x, c_bk W x = c_bk Y x := fun x => by unfold c_bk; rw [l5]
    rw [hd t 0 h1 h2 (by omega)] at h3
    rw [hd t 6 h1 h2 (by omega), e]
    exact a3 t h1 h2 h3
/-- what the end of add makes -/
def c_tl (Y X : sw_H) (T : Nat) (z : Int) : Prop := c_S X ∧ c_D X ∧ c_F X ∧ c_ft Y X ∧ (∀ f, f ≠ 5 → sw_rv X 3 f = sw_rv Y 3 f) ∧ (∀ f, sw_iv X 3 f = sw_iv Y 3 f) ∧ (∀ j, (j % 14 ≠ 7 ∨ 14 * T + 14 ≤ j ∨ j < 14) → sw_iv X (sw_rv Y 3 1) j = if j = 14 * T + 9 then z else sw_iv Y (sw_rv Y 3 1) j) ∧ (∀ j, sw_iv X (sw_rv Y 3 3) j = sw_iv Y (sw_rv Y 3 3) j) ∧ (∀ j, sw_iv X (sw_rv Y 3 6) j = sw_iv Y (sw_rv Y 3 6) j) ∧ c_CH X (T + 1) ∧ (∃ p, 1 ≤ p ∧ p ≤ 27 ∧ sw_ln X (sw_rv X 3 5) = 2 ^ p) ∧ T ≤ sw_ln X (sw_rv X 3 5)
theorem c_tl_mk {B : sw_H} (S : c_S B) (D : c_D B) (F : c_F B) (h4 : ¬ c_ow B 4) (h5 : ¬ c_ow B 5) (ft : c_ft Y B) (hr : ∀ f, f ≠ 5 → sw_rv B 3 f = sw_rv Y 3 f) (hi : ∀ f, sw_iv B 3 f = sw_iv Y 3 f) (hd : ∀ j, sw_iv B (sw_rv Y 3 1) j = if j = 14 * T + 9 then z else sw_iv Y (sw_rv Y 3 1) j) (hs : ∀ j, sw_iv B (sw_rv Y 3 3) j = sw_iv Y (sw_rv Y 3 3) j) (h6 : ∀ j, sw_iv B (sw_rv Y 3 6) j = sw_iv Y (sw_rv Y 3 6) j) (hl : ∃ p, 1 ≤ p ∧ p ≤ 27 ∧ sw_ln B (sw_rv B 3 5) = 2 ^ p) (hT : T ≤ sw_ln B (sw_rv B 3 5)) (sc : c_sc T B W) (hc : c_CH W (T + 1)) : c_tl Y W T z := by
  obtain ⟨S2, D2⟩ := c_S_sc S D sc h4 h5
  obtain ⟨fr, g⟩ := sc
  have D' := D
  obtain ⟨d1, d2, d3, d4, d5, d6, d7, d8, d9, d10⟩ := D'
  have A : ∀ a ∈ [sw_rv B 3 1, sw_rv B 3 5], c_ow B a := fun a ha => by
    simp at ha
    unfold c_ow
    rcases ha with e | e
    · exact Or.inr (Or.inl e)
    · exact Or.inr (Or.inr (Or.inr (Or.inl e)))
  have r1 := hr 1 (by decide)
  have r3 := hr 3 (by decide)
  have r6 := hr 6 (by decide)
  have f5 := fr.2.2.2.2.1
  have iv := fr.2.2.2.2.2
  have n3 : sw_ty B (sw_rv B 3 1) ≠ sw_ty B 3 ∧ sw_ty B (sw_rv B 3 5) ≠ sw_ty B 3 := by
    rw [S.1, S.2.1, S.2.2.2.1]
    decide
  refine ⟨S2, D2, c_fr_F fr F, c_ft_trans ft (c_fr_ft fr A), fun f hf => by rw [f5]; exact hr f hf, fun f => ?_, fun j hj => ?_, fun j => ?_, fun j => ?_, hc, ?_, ?_⟩
  · rw [iv 3, hi]
    simp
    exact ⟨fun e => n3.1 (by rw [← e]), fun e => n3.2 (by rw [← e])⟩
  · rw [← r1, g j hj, r1, hd]
  · rw [← r3, iv (sw_rv B 3 3), r3, hs]
    simp
    exact ⟨fun e => d1 e.symm, d5⟩
  · rw [← r6, iv (sw_rv B 3 6), r6, h6]
    simp
    exact ⟨fun e => d3 e.symm, fun e => d8 e.symm⟩
  · rw [f5, fr.2.2.2.1]; exact hl
  · rw [f5, fr.2.2.2.1]; exact hT
theorem c_tail {p : Nat} (S : c_S Y) (D : c_D Y) (h4 : ¬ c_ow Y 4) (h5 : ¬ c_ow Y 5) (F : c_F Y) (p1 : 1 ≤ p) (p2 : p ≤ 26) (hp : sw_ln Y (sw_rv Y 3 5) = 2 ^ p) (nY : c_n Y = T) (ht : 14 * T + 14 ≤ sw_ln Y (sw_rv Y 3 1)) (hT : 1 ≤ T) (hle : T ≤ 2 * sw_ln Y (sw_rv Y 3 5)) (hc : c_CH Y T) (m1 : sw_n Y < sxlim.1) (m2 : sw_ln Y (sw_rv Y 3 5) < T → sw_s Y + 2 * sw_ln Y (sw_rv Y 3 5) ≤ sxlim.2) (m3 : 2 * sw_ln Y (sw_rv Y 3 5) ≤ 67108864) (qb : c_qb Y cn cs (T + 1) u m) (k : ∀ X, c_tl Y X T z → c_qb X cn cs (T + 1) u m → P T X) : wb_251_163 P 3 T z (14 * T + 9) (sw_rv Y 3 1) Y := by
  have D' := D
  obtain ⟨d1, d2, d3, d4, d5, d6, d7, d8, d9, d10⟩ := D'
  have dl := S.2.2.2.2.2.2.1
  unfold wb_251_163
  refine ⟨by omega, by omega, ?_⟩
  intro B eB
  have ej : ((14 * (T : Int) + 9).toNat) = 14 * T + 9 := by omega
  rw [ej] at eB
  have fr : c_fr [sw_rv Y 3 1] Y B := by rw [eB]; exact c_fr_si _ _ _ _
  have n41 : 4 ∉ [sw_rv Y 3 1] := by simp; exact fun e => h4 (Or.inr (Or.inl e))
  have n51 : 5 ∉ [sw_rv Y 3 1] := by simp; exact fun e => h5 (Or.inr (Or.inl e))
  obtain ⟨SB, DB⟩ := c_fr_S fr S D n41 n51
  have FB := c_fr_F fr F
  have h4B : ¬ c_ow B 4 := fun h => h4 ((c_fr_ow fr 4).mp h)
  have h5B : ¬ c_ow B 5 := fun h => h5 ((c_fr_ow fr 5).mp h)
  have ftB : c_ft Y B := c_fr_ft fr (fun a ha => by simp at ha; exact Or.inr (Or.inl ha))
  have rv := fr.2.2.2.2.1
  have ln := fr.2.2.2.1
  have iv := fr.2.2.2.2.2
  have n3 : (3 : Nat) ≠ sw_rv Y 3 1 := fun e => by
    have h1 := S.1
    rw [e, S.2.1] at h1
    cases h1
  have hiB : ∀ f, sw_iv B 3 f = sw_iv Y 3 f := fun f => by rw [iv 3 (by simp; exact n3)]
  have hdB : ∀ j, sw_iv B (sw_rv Y 3 1) j = if j = 14 * T + 9 then z else sw_iv Y (sw_rv Y 3 1) j := fun j => by
    rw [eB, sw_iv_si]
    simp only [true_and]
  have hsB : ∀ j, sw_iv B (sw_rv Y 3 3) j = sw_iv Y (sw_rv Y 3 3) j := fun j => by rw [iv (sw_rv Y 3 3) (by simp; exact fun e => d1 e.symm)]
  have h6B : ∀ j, sw_iv B (sw_rv Y 3 6) j = sw_iv Y (sw_rv Y 3 6) j := fun j => by rw [iv (sw_rv Y 3 6) (by simp; exact fun e => d3 e.symm)]
  have h5i : ∀ j, sw_iv B (sw_rv Y 3 5) j = sw_iv Y (sw_rv Y 3 5) j := fun j => by rw [iv (sw_rv Y 3 5) (by simp; exact fun e => d2 e.symm)]
  have l5 : sw_ln B (sw_rv B 3 5) = sw_ln Y (sw_rv Y 3 5) := by rw [rv, ln]
  have qB : c_qb B cn cs (T + 1) u m := by
    unfold c_qb
    simp only [rv, ln, fr.1, fr.2.1]
    exact qb
  clear eB
  intro v20 e20 _
  have e20 : v20 = (T : Int) := by rw [e20, hiB]; exact nY
  subst e20
  refine ⟨SB.2.2.2.1, ?_⟩
  intro q23 e23 v26 e26 _
  rw [e23, l5] at e26
  subst e26
  refine ⟨fun c1 => ?_, fun c1 => ⟨SB.2.2.2.1, ?_⟩⟩
  · unfold wb_251_182
    have cB : c_CH B T := c_CH_cg (rv 3 5) l5 h5i (fun t k t1 t2 hk => by
      unfold c_d
      rw [rv, hdB, if_neg (by omega)]) hc
    refine ⟨2, c_chain_l p1 (by omega) 2 SB DB h4B h5B (l5.trans hp) (by rw [rv, ln]; exact ht) hT (by omega) (by omega) cB (fun V sc hV => k V (c_tl_mk SB DB FB h4B h5B ftB (fun f _ => rv 3 f) hiB hdB hsB h6B ⟨p, p1, by omega, l5.trans hp⟩ (by rw [l5]; omega) sc hV) ?_)⟩
    unfold c_qb
    simp only [sc.1.2.2.2.2.1, sc.1.2.2.2.1, sc.1.1, sc.1.2.1]
    exact qB
  · intro q29 e29 v32 e32 _
    rw [e29, l5] at e32
    subst e32
    rw [sw_w_s (z := (sw_ln Y (sw_rv Y 3 5) : Int) * 2) (by omega) (by omega)]
    have ex : ((sw_ln Y (sw_rv Y 3 5) : Int) * 2).toNat = 2 * sw_ln Y (sw_rv Y 3 5) := by omega
    rw [ex]
    refine ⟨by omega, by omega, by rw [fr.1]; exact m1, by rw [fr.2.1]; exact m2 (by omega), ?_⟩
    intro N eN _ V eV
    have free : sw_ty B (sw_n B + 2) = 0 := FB _ (Nat.le_refl _)
    have al : ∀ c, sw_ty B c ≠ 0 → c ≠ sw_n B + 2 := fun c hc e => hc (by rw [e]; exact free)
    have tV : ∀ c, sw_ty V c = if c = sw_n B + 2 then 1 else sw_ty B c := fun c => by rw [eV, eN]; rfl
    have lV : ∀ c, sw_ln V c = if c = sw_n B + 2 then 2 * sw_ln Y (sw_rv Y 3 5) else sw_ln B c := fun c => by rw [eV, eN]; rfl
    have iV : ∀ c g, sw_iv V c g = if c = sw_n B + 2 then 0 else sw_iv B c g := fun c g => by rw [eV, eN]; rfl
    have rV : ∀ c g, sw_rv V c g = if c = 3 ∧ g = 5 then sw_n B + 2 else if c = sw_n B + 2 then 0 else sw_rv B c g := fun c g => by rw [eV, eN]; rfl
    have nV : sw_n V = sw_n B + 1 := by rw [eV, eN]; rfl
    have sV : sw_s V = sw_s B + 2 * sw_ln Y (sw_rv Y 3 5) := by rw [eV, eN]; rfl
    clear eV eN
    obtain ⟨s1, s2, s3, s4, s5, s6, s7, s8, s9, s10, s11, s12, s13⟩ := SB
    have a3 := al 3 (by rw [s1]; decide)
    have a31 := al _ (by rw [s2]; decide : sw_ty B (sw_rv B 3 1) ≠ 0)
    have a33 := al _ (by rw [s3]; decide : sw_ty B (sw_rv B 3 3) ≠ 0)
    have a36 := al _ (by rw [s5]; decide : sw_ty B (sw_rv B 3 6) ≠ 0)
    have a38 := al _ (by rw [s6]; decide : sw_ty B (sw_rv B 3 8) ≠ 0)
    have rk : ∀ g, g ≠ 5 → sw_rv V 3 g = sw_rv B 3 g := fun g hg => by rw [rV, if_neg (fun h => hg h.2), if_neg a3]
    have r5 : sw_rv V 3 5 = sw_n B + 2 := by rw [rV, if_pos ⟨rfl, rfl⟩]
    have gft : c_ft B V := by
      refine ⟨⟨by omega, fun a ha => by rw [tV, lV, if_neg (al a ha), if_neg (al a ha)]; exact ⟨rfl, rfl⟩⟩, fun a ha ho => ⟨fun f => by rw [iV, if_neg (al a ha)], fun f => by rw [rV, if_neg (fun h => ho (Or.inl h.1)), if_neg (al a ha)]⟩, fun a ha => ?_, rk 0 (by decide)⟩
      unfold c_ow at ha
      rw [rk 1 (by decide), rk 3 (by decide), rk 6 (by decide), rk 8 (by decide), r5] at ha
      by_cases ca : a = sw_n B + 2
      · exact Or.inr (by rw [ca]; exact free)
      · refine Or.inl ?_
        unfold c_ow
        rcases ha with h | h | h | h | h | h
        · exact Or.inl h
        · exact Or.inr (Or.inl h)
        · exact Or.inr (Or.inr (Or.inl h))
        · exact absurd h ca
        · exact Or.inr (Or.inr (Or.inr (Or.inr (Or.inl h))))
        · exact Or.inr (Or.inr (Or.inr (Or.inr (Or.inr h))))
    have hrow := c_row_ft s12 gft h4B h5B
    have SV : c_S V := by
      refine ⟨by rw [tV, if_neg a3]; exact s1, ?_, ?_, ?_, ?_, ?_, ?_, ?_, ?_, ?_, ?_, hrow.1, by rw [rk 0 (by decide)]; exact s13⟩
      · rw [rk 1 (by decide), tV, if_neg a31]; exact s2
      · rw [rk 3 (by decide), tV, if_neg a33]; exact s3
      · rw [r5, tV, if_pos rfl]
      · rw [rk 6 (by decide), tV, if_neg a36]; exact s5
      · rw [rk 8 (by decide), tV, if_neg a38]; exact s6
      · rw [rk 1 (by decide), lV, if_neg a31]; exact s7
      · rw [rk 3 (by decide), lV, if_neg a33]; exact s8
      · rw [r5, lV, if_pos rfl]; omega
      · rw [rk 6 (by decide), lV, if_neg a36]; exact s10
      · rw [rk 8 (by decide), lV, if_neg a38]; exact s11
    have DV : c_D V := by
      unfold c_D at DB ⊢
      rw [r5, rk 1 (by decide), rk 3 (by decide), rk 6 (by decide), rk 8 (by decide)]
      obtain ⟨b1, b2, b3, b4, b5, b6, b7, b8, b9, b10⟩ := DB
      exact ⟨b1, a31, b3, b4, a33, b6, b7, fun e => a36 e.symm, fun e => a38 e.symm, b10⟩
    have FV : c_F V := fun c hc => by rw [tV, if_neg (by omega)]; exact FB c (by omega)
    have l5V : sw_ln V (sw_rv V 3 5) = 2 * sw_ln Y (sw_rv Y 3 5) := by rw [r5, lV, if_pos rfl]
    have hpV : sw_ln V (sw_rv V 3 5) = 2 ^ (p + 1) := by rw [l5V, hp, Nat.pow_succ]; omega
    have cV : c_CH V 1 := by
      refine ⟨fun _ => [], fun b _ => ?_, fun b t h => absurd h (by simp), fun t h1 h2 => (by omega)⟩
      show sw_iv V (sw_rv V 3 5) b = 0
      rw [r5, iV, if_pos rfl]
    have ftV : c_ft Y V := c_ft_trans ftB gft
    have hr : ∀ f, f ≠ 5 → sw_rv V 3 f = sw_rv Y 3 f := fun f hf => by rw [rk f hf, rv]
    have hi : ∀ f, sw_iv V 3 f = sw_iv Y 3 f := fun f => by rw [iV, if_neg a3, hiB]
    rw [rv] at a31 a33 a36
    have hd : ∀ j, sw_iv V (sw_rv Y 3 1) j = if j = 14 * T + 9 then z else sw_iv Y (sw_rv Y 3 1) j := fun j => by rw [iV, if_neg a31, hdB]
    have hs : ∀ j, sw_iv V (sw_rv Y 3 3) j = sw_iv Y (sw_rv Y 3 3) j := fun j => by rw [iV, if_neg a33, hsB]
    have h6 : ∀ j, sw_iv V (sw_rv Y 3 6) j = sw_iv Y (sw_rv Y 3 6) j := fun j => by rw [iV, if_neg a36, h6B]
    unfold wb_251_182
    refine ⟨T + 1, c_chain_l (u := 1) (by omega) (by omega) (T + 1) SV DV hrow.2.1 hrow.2.2 hpV ?_ (by omega) (by omega) (by omega) cV (fun V2 sc hV => k V2 (c_tl_mk SV DV FV hrow.2.1 hrow.2.2 ftV hr hi hd hs h6 ⟨p + 1, by omega, by omega, hpV⟩ (by rw [l5V]; omega) sc hV) ?_)⟩
    · rw [hr 1 (by decide), lV, if_neg a31, ln]; exact ht
    · have q := c_qq_5 qB (by rw [rv, ln]; omega)
      rw [rv] at a38
      unfold c_qb
      simp only [sc.1.2.2.2.2.1, sc.1.2.2.2.1, sc.1.1, sc.1.2.1]
      rw [l5V, hr 1 (by decide), hr 3 (by decide), hr 6 (by decide), hr 8 (by decide), lV, lV, lV, lV, if_neg a31, if_neg a33, if_neg a36, if_neg a38, nV, sV]
      rw [rv, rv, rv, rv, rv, ln, ln, ln, ln, ln] at q
      rw [ln, ln, ln, ln]
      exact q
end
end
