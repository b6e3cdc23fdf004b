/-! ===== the class: what else it holds; frames ===== -/
noncomputable section
section
variable {H G X Y Z : sw_H} {d e : Nat → Wt} {nn : Nat} {K : Wt → Prop} {tl tp : List Wt} {ms : List (List Wt)} {rd : Nat → Int} {t w : Nat} {x m cn cs cn' cs' : Int} {Q : sw_H → Prop} {P : Int → sw_H → Prop} {A B : List Nat}
/-- nothing but Terms and the cells of A has changed -/
def c_ch (A : List Nat) (H G : sw_H) : Prop := sw_ext H G ∧ (∀ a, sw_ty H a ≠ 0 → ¬ c_ow H a → a ∉ A → (∀ f, sw_iv G a f = sw_iv H a f) ∧ ∀ f, sw_rv G a f = sw_rv H a f) ∧ (∀ a, c_ow G a → c_ow H a ∨ sw_ty H a = 0) ∧ sw_rv G 3 0 = sw_rv H 3 0
theorem c_ft_ch (h : c_ft H G) : c_ch [] H G := ⟨h.1, fun a ha ho _ => h.2.1 a ha ho, h.2.2.1, h.2.2.2⟩
theorem c_ch_sub (h : c_ch A H G) (hs : ∀ a ∈ A, a ∈ B) : c_ch B H G := ⟨h.1, fun a ha ho hb => h.2.1 a ha ho (fun hm => hb (hs a hm)), h.2.2.1, h.2.2.2⟩
theorem c_ch_trans (h : c_ch A H G) (k : c_ch B G X) : c_ch (A ++ B) H X := by
  obtain ⟨h1, h2, h3, h4⟩ := h
  obtain ⟨k1, k2, k3, k4⟩ := k
  refine ⟨sw_ext_trans h1 k1, fun a ha ho hn => ?_, fun a ha => ?_, k4.trans h4⟩
  · rw [List.mem_append] at hn
    have tg : sw_ty G a ≠ 0 := by rw [(h1.2 a ha).1]; exact ha
    have og : ¬ c_ow G a := fun hh => by
      rcases h3 a hh with q | q
      · exact ho q
      · exact ha q
    have p1 := h2 a ha ho (fun hh => hn (Or.inl hh))
    have p2 := k2 a tg og (fun hh => hn (Or.inr hh))
    exact ⟨fun f => (p2.1 f).trans (p1.1 f), fun f => (p2.2 f).trans (p1.2 f)⟩
  · rcases k3 a ha with q | q
    · exact h3 a q
    · by_cases c : sw_ty H a = 0
      · exact Or.inr c
      · rw [(h1.2 a c).1] at q
        exact absurd q c
theorem c_ch_t (h : c_ch A H G) (k : c_ch A G X) : c_ch A H X := c_ch_sub (c_ch_trans h k) (fun a ha => by
  rw [List.mem_append] at ha
  rcases ha with ha | ha <;> exact ha)
theorem c_ch_no {a : Nat} (h : c_ch A H G) (ht : sw_ty H a ≠ 0) (ho : ¬ c_ow H a) : ¬ c_ow G a := fun hh => by
  rcases h.2.2.1 a hh with q | q
  · exact ho q
  · exact ht q
/-- nothing but the cells of A has changed, and new ones -/
def c_al (A : List Nat) (H G : sw_H) : Prop := sw_ext H G ∧ ∀ a, sw_ty H a ≠ 0 → a ∉ A → (∀ f, sw_iv G a f = sw_iv H a f) ∧ ∀ f, sw_rv G a f = sw_rv H a f
theorem c_fr_al (h : c_fr A H G) : c_al A H G := ⟨⟨by rw [h.1]; exact Nat.le_refl _, fun a _ => ⟨h.2.2.1 a, h.2.2.2.1 a⟩⟩, fun a _ hn => ⟨fun f => by rw [h.2.2.2.2.2 a hn], h.2.2.2.2.1 a⟩⟩
theorem c_al_sub (h : c_al A H G) (hs : ∀ a ∈ A, a ∈ B) : c_al B H G := ⟨h.1, fun a ha hb => h.2 a ha (fun hm => hb (hs a hm))⟩
theorem c_al_trans (h : c_al A H G) (k : c_al B G X) : c_al (A ++ B) H X := by
  refine ⟨sw_ext_trans h.1 k.1, fun a ha hn => ?_⟩
  rw [List.mem_append] at hn
  have p1 := h.2 a ha (fun hh => hn (Or.inl hh))
  have p2 := k.2 a (by rw [(h.1.2 a ha).1]; exact ha) (fun hh => hn (Or.inr hh))
  exact ⟨fun f => (p2.1 f).trans (p1.1 f), fun f => (p2.2 f).trans (p1.2 f)⟩
theorem c_al_ow (h : c_al A H G) (h3 : sw_ty H 3 ≠ 0) (hA : 3 ∉ A) (a : Nat) : c_ow G a ↔ c_ow H a := by
  unfold c_ow
  simp only [(h.2 3 h3 hA).2]
theorem c_al_ch (h : c_al A H G) (h3 : sw_ty H 3 ≠ 0) (hA : 3 ∉ A) : c_ch A H G := ⟨h.1, fun a ha _ hn => h.2 a ha hn, fun a ha => Or.inl ((c_al_ow h h3 hA a).mp ha), (h.2 3 h3 hA).2 0⟩
theorem c_row_al {r ra : Nat} {l : List Int} (h : c_row H r ra l) (k : c_al A H G) (h1 : r ∉ A) (h2 : ra ∉ A) : c_row G r ra l := by
  obtain ⟨a1, a2, a3, a4, a5, a6, a7⟩ := h
  have tr : sw_ty H r ≠ 0 := by rw [a1]; decide
  have ta : sw_ty H ra ≠ 0 := by rw [a3]; decide
  have er := k.1.2 r tr
  have ea := k.1.2 ra ta
  have ir := k.2 r tr h1
  have ia := k.2 ra ta h2
  have ef : sw_iv G ra = sw_iv H ra := funext ia.1
  exact ⟨by rw [er.1]; exact a1, by rw [ir.2]; exact a2, by rw [ea.1]; exact a3, by rw [ir.1]; exact a4, by rw [ea.2]; exact a5, by rw [ea.2]; exact a6, by rw [ef]; exact a7⟩
theorem c_row_ch {r ra : Nat} {l : List Int} (h : c_row H r ra l) (k : c_ch A H G) (o1 : ¬ c_ow H r) (o2 : ¬ c_ow H ra) (h1 : r ∉ A) (h2 : ra ∉ A) : c_row G r ra l := by
  obtain ⟨a1, a2, a3, a4, a5, a6, a7⟩ := h
  have tr : sw_ty H r ≠ 0 := by rw [a1]; decide
  have ta : sw_ty H ra ≠ 0 := by rw [a3]; decide
  have er := k.1.2 r tr
  have ea := k.1.2 ra ta
  have ir := k.2.1 r tr o1 h1
  have ia := k.2.1 ra ta o2 h2
  have ef : sw_iv G ra = sw_iv H ra := funext ia.1
  exact ⟨by rw [er.1]; exact a1, by rw [ir.2]; exact a2, by rw [ea.1]; exact a3, by rw [ir.1]; exact a4, by rw [ea.2]; exact a5, by rw [ea.2]; exact a6, by rw [ef]; exact a7⟩
/-- Terms are the same -/
theorem c_A_al (a : c_A H d nn K tl) (h : c_al A H G) (hA : ∀ q ∈ A, ¬ c_ow H q) (h4 : 4 ∉ A) (h5 : 5 ∉ A) : c_A G d nn K tl := by
  obtain ⟨T, Z, n4, n5, U, hK, hN, h9⟩ := a
  have T' := T
  obtain ⟨S, D, t1, t2, t3, t4, t5, t6, t7, _⟩ := T'
  obtain ⟨s1, s2, s3, s4, s5, s6, s7, s8, s9, s10, s11, s12, s13⟩ := S
  have y3 : sw_ty H 3 ≠ 0 := by rw [s1]; decide
  have m3 : 3 ∉ A := fun hm => hA 3 hm (Or.inl rfl)
  have k3 := h.2 3 y3 m3
  have rv : ∀ f, sw_rv G 3 f = sw_rv H 3 f := k3.2
  have iv : ∀ f, sw_iv G 3 f = sw_iv H 3 f := k3.1
  have ow := c_al_ow h y3 m3
  have arr : ∀ f, (f = 1 ∨ f = 3 ∨ f = 5 ∨ f = 6 ∨ f = 8) → sw_ty G (sw_rv H 3 f) = sw_ty H (sw_rv H 3 f) ∧ sw_ln G (sw_rv H 3 f) = sw_ln H (sw_rv H 3 f) ∧ ∀ j, sw_iv G (sw_rv H 3 f) j = sw_iv H (sw_rv H 3 f) j := fun f hf => by
    have ty : sw_ty H (sw_rv H 3 f) ≠ 0 := by
      rcases hf with e | e | e | e | e
      · rw [e, s2]; decide
      · rw [e, s3]; decide
      · rw [e, s4]; decide
      · rw [e, s5]; decide
      · rw [e, s6]; decide
    have o : c_ow H (sw_rv H 3 f) := by
      unfold c_ow
      rcases hf with e | e | e | e | e
      · rw [e]; exact Or.inr (Or.inl rfl)
      · rw [e]; exact Or.inr (Or.inr (Or.inl rfl))
      · rw [e]; exact Or.inr (Or.inr (Or.inr (Or.inl rfl)))
      · rw [e]; exact Or.inr (Or.inr (Or.inr (Or.inr (Or.inl rfl))))
      · rw [e]; exact Or.inr (Or.inr (Or.inr (Or.inr (Or.inr rfl))))
    exact ⟨(h.1.2 _ ty).1, (h.1.2 _ ty).2, (h.2 _ ty (fun hm => hA _ hm o)).1⟩
  have q1 := arr 1 (by omega)
  have q3 := arr 3 (by omega)
  have q5 := arr 5 (by omega)
  have q6 := arr 6 (by omega)
  have q8 := arr 8 (by omega)
  have hrow := c_row_al s12 h h4 h5
  have SG : c_S G := by
    unfold c_S
    rw [rv, rv, rv, rv, rv, rv, (h.1.2 3 y3).1, q1.1, q3.1, q5.1, q6.1, q8.1, q1.2.1, q3.2.1, q5.2.1, q6.2.1, q8.2.1]
    exact ⟨s1, s2, s3, s4, s5, s6, s7, s8, s9, s10, s11, hrow, s13⟩
  have DG : c_D G := by
    unfold c_D at D ⊢
    simp only [rv]
    exact D
  have en : c_n G = c_n H := iv 2
  have cd : ∀ u k, c_d G u k = c_d H u k := fun u k => by
    unfold c_d
    rw [rv, q1.2.2]
  refine ⟨?_, ?_, fun o => n4 ((ow 4).mp o), fun o => n5 ((ow 5).mp o), ?_, c_K_cg en (fun u k _ => cd u k) hK, ?_, by rw [iv]; exact h9⟩
  · refine c_T_cg T SG DG en (iv 4) (fun u k _ _ => cd u k) (fun j _ => by rw [rv]; exact q3.2.2 j) (fun j => by rw [rv]; exact q5.2.2 j) (by rw [rv]; exact q5.2.1) (by rw [rv, q1.2.1]; exact t2) (by rw [rv, q3.2.1]; exact t4) (by rw [rv, rv, q1.2.1, q8.2.1]; exact t7)
  · intro j hj hz
    rw [rv, q1.2.1] at hj
    rw [en] at hz
    rw [rv, q1.2.2]
    exact Z j hj hz
  · unfold c_U
    rw [en]
    refine c_UL_cg U (fun p _ _ => cd p 10) (fun k _ => cd _ _) (fun k => ?_) (fun k _ => ?_)
    · unfold c_Lk
      rw [en, cd]
    · unfold c_pt
      rw [cd]
  · obtain ⟨N1, N2, N3, N4, N5⟩ := hN
    refine ⟨by rw [iv]; exact N1, by rw [rv, q6.2.1]; exact N2, fun i w hw => ?_, fun t ht => ?_, N5⟩
    · obtain ⟨t, u1, u2, u3⟩ := N3 i w hw
      exact ⟨t, ⟨u1.1, by rw [en]; exact u1.2⟩, by rw [rv, q6.2.2]; exact u2, u3⟩
    · rw [cd]
      exact N4 t ⟨ht.1, by rw [← en]; exact ht.2⟩
theorem c_q_al (q : c_q H cn cs) (S : c_S H) (h : c_al A H G) (hA : ∀ q ∈ A, ¬ c_ow H q) (h1 : (sw_n G : Int) - sw_n H ≤ cn' - cn) (h2 : (sw_s G : Int) - sw_s H ≤ cs' - cs) : c_q G cn' cs' := by
  obtain ⟨s1, s2, s3, s4, s5, s6, _⟩ := S
  have y3 : sw_ty H 3 ≠ 0 := by rw [s1]; decide
  have m3 : 3 ∉ A := fun hm => hA 3 hm (Or.inl rfl)
  have k3 := h.2 3 y3 m3
  have ln : ∀ f, sw_ty H (sw_rv H 3 f) = 1 → sw_ln G (sw_rv H 3 f) = sw_ln H (sw_rv H 3 f) := fun f hf => (h.1.2 _ (by rw [hf]; decide)).2
  have en : c_n G = c_n H := k3.1 2
  unfold c_q c_qb at q ⊢
  rw [en, k3.1 4, k3.1 7, k3.2 1, k3.2 3, k3.2 5, k3.2 6, k3.2 8, ln 1 s2, ln 3 s3, ln 5 s4, ln 6 s5, ln 8 s6]
  refine ⟨?_, q.2⟩
  have q := q.1
  unfold c_qr at q ⊢
  omega
/-- all cells up to 1491 are there -/
def c_full (H : sw_H) : Prop := ∀ a, 1 ≤ a → a ≤ 1491 → sw_ty H a ≠ 0
theorem c_full_e (h : sw_ext H G) (f : c_full H) : c_full G := fun a h1 h2 => by rw [(h.2 a (f a h1 h2)).1]; exact f a h1 h2
/-- where the arrays of Terms lie -/
def c_ads (H : sw_H) : Prop := ∀ a, c_ow H a → a = 0 ∨ a = 3 ∨ (6 ≤ a ∧ a ≤ 10) ∨ 1491 < a
theorem c_ads_ch (h : c_ch A H G) (f : c_full H) (a : c_ads H) : c_ads G := fun q hq => by
  rcases h.2.2.1 q hq with o | o
  · exact a q o
  · by_cases c0 : q = 0
    · exact Or.inl c0
    · refine Or.inr (Or.inr (Or.inr ?_))
      rcases Nat.lt_or_ge 1491 q with c | c
      · exact c
      · exact absurd o (f q (by omega) c)
/-- a fixed cell is none of Terms -/
theorem c_fx (a : c_ads H) {q : Nat} (h1 : 1 ≤ q) (h2 : q ≤ 1491) (h3 : q ≠ 3) (h4 : q < 6 ∨ 10 < q) : ¬ c_ow H q := fun o => by
  have := a q o
  omega
/-- the object's own fields -/
def c_O (H : sw_H) : Prop := sw_ty H 2 = 8 ∧ sw_rv H 2 0 = 3 ∧ sw_rv H 2 1 = 11 ∧ sw_rv H 2 2 = 119 ∧ sw_rv H 2 3 = 1416 ∧ sw_rv H 2 5 = 1417 ∧ sw_rv H 2 6 = 1419 ∧ sw_rv H 2 7 = 18 ∧ sw_rv H 2 8 = 44 ∧ sw_rv H 2 9 = 85 ∧ sw_rv H 2 10 = 94 ∧ sw_rv H 2 11 = 1420 ∧ sw_rv H 2 12 = 1422 ∧ sw_ty H 1416 = 81 ∧ sw_ln H 1416 = 300
/-- the row at r, in the array a, stands for the signs l -/
def c_sg (H : sw_H) (d : Nat → Wt) (r a : Nat) (l : List Wt) : Prop := ∃ s, c_row H r a s ∧ (∀ x ∈ s, m_vs (c_n H) x) ∧ s.map (w_sg d) = l
/-- the tape -/
def c_P (H : sw_H) (d : Nat → Wt) (tp : List Wt) : Prop := c_sg H d 1417 1418 tp ∧ sw_ln H 1418 = 1200
/-- what feed has made ready -/
def c_Y (H : sw_H) (rd : Nat → Int) : Prop := sw_ty H 1419 = 1 ∧ sw_ln H 1419 = 20 ∧ ∀ k, k < 20 → sw_iv H 1419 k = rd k ∧ 0 ≤ rd k ∧ rd k < 256
/-- the messages -/
def c_M (H : sw_H) (d : Nat → Wt) (ms : List (List Wt)) : Prop := sw_iv H 2 4 = ms.length ∧ ms.length ≤ 300 ∧ ∀ i l, ms[i]? = some l → 1491 < sw_rv H 1416 i ∧ ¬ c_ow H (sw_rv H 1416 i) ∧ l.length ≤ 1200 ∧ ∃ a, 1491 < a ∧ ¬ c_ow H a ∧ c_sg H d (sw_rv H 1416 i) a l
def c_I (H : sw_H) (d : Nat → Wt) (nn : Nat) (K : Wt → Prop) (tl tp : List Wt) (rd : Nat → Int) (ms : List (List Wt)) (cn cs : Int) : Prop := c_A H d nn K tl ∧ c_F H ∧ c_q H cn cs ∧ c_full H ∧ c_ads H ∧ c_O H ∧ c_P H d tp ∧ c_Y H rd ∧ c_M H d ms
theorem c_sg_len {r a : Nat} {l : List Wt} (h : c_sg H d r a l) : sw_iv H r 1 = l.length ∧ l.length ≤ sw_ln H a := by
  obtain ⟨s, h1, h2, h3⟩ := h
  have : l.length = s.length := by rw [← h3, List.length_map]
  rw [this]
  exact ⟨h1.2.2.2.1, h1.2.2.2.2.1⟩
theorem c_sg_up {r a : Nat} {l : List Wt} (hn : c_n H ≤ c_n G) (he : ∀ u : Nat, (u : Int) ≤ c_n H → e u = d u) {s : List Int} (h2 : ∀ x ∈ s, m_vs (c_n H) x) (h3 : s.map (w_sg d) = l) : (∀ x ∈ s, m_vs (c_n G) x) ∧ s.map (w_sg e) = l := ⟨fun x hx => m_vs_up hn (h2 x hx), by
  rw [← h3]
  exact List.map_congr_left (fun x hx => w_sg_e he (h2 x hx))⟩
theorem c_sg_ch {r a : Nat} {l : List Wt} (h : c_sg H d r a l) (k : c_ch A H G) (o1 : ¬ c_ow H r) (o2 : ¬ c_ow H a) (h1 : r ∉ A) (h2 : a ∉ A) (hn : c_n H ≤ c_n G) (he : ∀ u : Nat, (u : Int) ≤ c_n H → e u = d u) : c_sg G e r a l := by
  obtain ⟨s, g1, g2, g3⟩ := h
  exact ⟨s, c_row_ch g1 k o1 o2 h1 h2, c_sg_up (r := 0) (a := 0) hn he g2 g3⟩
theorem c_O_ch (h : c_O H) (k : c_ch A H G) (ad : c_ads H) (f : c_full H) (hA : 2 ∉ A) : c_O G := by
  have t2 := f 2 (by decide) (by decide)
  have t6 := f 1416 (by decide) (by decide)
  have k2 := (k.2.1 2 t2 (c_fx ad (by decide) (by decide) (by decide) (by decide)) hA).2
  unfold c_O at h ⊢
  rw [(k.1.2 2 t2).1, (k.1.2 1416 t6).1, (k.1.2 1416 t6).2]
  simp only [k2]
  exact h
theorem c_P_ch (h : c_P H d tp) (k : c_ch A H G) (ad : c_ads H) (h1 : 1417 ∉ A) (h2 : 1418 ∉ A) (hn : c_n H ≤ c_n G) (he : ∀ u : Nat, (u : Int) ≤ c_n H → e u = d u) : c_P G e tp := by
  refine ⟨c_sg_ch h.1 k (c_fx ad (by decide) (by decide) (by decide) (by decide)) (c_fx ad (by decide) (by decide) (by decide) (by decide)) h1 h2 hn he, ?_⟩
  obtain ⟨s, g1, _⟩ := h.1
  rw [(k.1.2 1418 (by rw [g1.2.2.1]; decide)).2]
  exact h.2
theorem c_Y_ch (h : c_Y H rd) (k : c_ch A H G) (ad : c_ads H) (h1 : 1419 ∉ A) : c_Y G rd := by
  have ty : sw_ty H 1419 ≠ 0 := by rw [h.1]; decide
  have i := (k.2.1 1419 ty (c_fx ad (by decide) (by decide) (by decide) (by decide)) h1).1
  refine ⟨by rw [(k.1.2 _ ty).1]; exact h.1, by rw [(k.1.2 _ ty).2]; exact h.2.1, fun q hq => ?_⟩
  rw [i]
  exact h.2.2 q hq
theorem c_M_ch (h : c_M H d ms) (k : c_ch A H G) (ad : c_ads H) (f : c_full H) (h2 : 2 ∉ A) (h6 : 1416 ∉ A) (hA : ∀ a ∈ A, a ≤ 1491) (hn : c_n H ≤ c_n G) (he : ∀ u : Nat, (u : Int) ≤ c_n H → e u = d u) : c_M G e ms := by
  have i2 := (k.2.1 2 (f 2 (by decide) (by decide)) (c_fx ad (by decide) (by decide) (by decide) (by decide)) h2).1
  have r6 := (k.2.1 1416 (f 1416 (by decide) (by decide)) (c_fx ad (by decide) (by decide) (by decide) (by decide)) h6).2
  refine ⟨by rw [i2]; exact h.1, h.2.1, fun i l hl => ?_⟩
  obtain ⟨g1, g2, g3, a, g4, g5, g6⟩ := h.2.2 i l hl
  rw [r6]
  have tr : sw_ty H (sw_rv H 1416 i) ≠ 0 := by
    obtain ⟨s, q, _⟩ := g6
    rw [q.1]; decide
  have ta : sw_ty H a ≠ 0 := by
    obtain ⟨s, q, _⟩ := g6
    rw [q.2.2.1]; decide
  exact ⟨g1, c_ch_no k tr g2, g3, a, g4, c_ch_no k ta g5, c_sg_ch g6 k g2 g5 (fun hm => by have := hA _ hm; omega) (fun hm => by have := hA _ hm; omega) hn he⟩
/-- Terms have changed -/
theorem c_I_ex {nn' : Nat} {K' : Wt → Prop} {tl' : List Wt} (h : c_I H d nn K tl tp rd ms cn cs) (a : c_A X e nn' K' tl') (F : c_F X) (q : c_q X cn' cs') (x : c_ex H d X e) : c_I X e nn' K' tl' tp rd ms cn' cs' := by
  obtain ⟨_, _, _, h4, h5, h6, h7, h8, h9⟩ := h
  have k := c_ft_ch x.1
  exact ⟨a, F, q, c_full_e x.1.1 h4, c_ads_ch k h4 h5, c_O_ch h6 k h5 h4 (by simp), c_P_ch h7 k h5 (by simp) (by simp) x.2.1 x.2.2, c_Y_ch h8 k h5 (by simp), c_M_ch h9 k h5 h4 (by simp) (by simp) (by simp) x.2.1 x.2.2⟩
/-- a new cell, and nothing else -/
theorem c_nw_al (H : sw_H) (F : c_F H) (t n m : Nat) : c_al [] H (sw_nw H t n m) := by
  have ne : ∀ a, sw_ty H a ≠ 0 → a ≠ sw_n H + 2 := fun a ha e => ha (by rw [e]; exact F _ (Nat.le_refl _))
  refine ⟨⟨?_, fun a ha => ?_⟩, fun a ha _ => ⟨fun f => ?_, fun f => ?_⟩⟩
  · show sw_n H ≤ sw_n H + 1
    omega
  · rw [c_nw_ty, c_nw_ln, if_neg (ne a ha), if_neg (ne a ha)]
    exact ⟨rfl, rfl⟩
  · rw [c_nw_iv, if_neg (ne a ha)]
  · rw [c_nw_rv, if_neg (ne a ha)]
theorem c_nw_F (F : c_F H) (t n m : Nat) : c_F (sw_nw H t n m) := fun c hc => by
  have hc : sw_n H + 1 + 2 ≤ c := hc
  rw [c_nw_ty, if_neg (by omega)]
  exact F c (by omega)
/-- nothing but cells of A and new ones: Terms stay -/
theorem c_I_al (h : c_I H d nn K tl tp rd ms cn cs) (k : c_al A H G) (F : c_F G) (hA : ∀ a ∈ A, 1 ≤ a ∧ a ≤ 1491 ∧ a ≠ 3 ∧ (a < 4 ∨ 10 < a)) (h1 : (sw_n G : Int) - sw_n H ≤ cn' - cn) (h2 : (sw_s G : Int) - sw_s H ≤ cs' - cs) : c_A G d nn K tl ∧ c_F G ∧ c_q G cn' cs' ∧ c_full G ∧ c_ads G ∧ c_ch A H G ∧ c_n G = c_n H := by
  obtain ⟨a, _, q, fl, ad, _⟩ := h
  have no : ∀ q ∈ A, ¬ c_ow H q := fun q hq => by
    have := hA q hq
    exact c_fx ad this.1 this.2.1 this.2.2.1 (by omega)
  have m3 : 3 ∉ A := fun hm => (hA 3 hm).2.2.1 rfl
  have y3 := fl 3 (by decide) (by decide)
  have ch := c_al_ch k y3 m3
  exact ⟨c_A_al a k no (fun hm => by have := hA 4 hm; omega) (fun hm => by have := hA 5 hm; omega), F, c_q_al q a.1.1 k no h1 h2, c_full_e k.1 fl, c_ads_ch ch fl ad, ch, (k.2 3 y3 m3).1 2⟩
/-- something is thrown -/
theorem c_I_throw (h : c_I H d nn K tl tp rd ms cn cs) (t : Nat) : c_I (sw_nw H t 0 6) d nn K tl tp rd ms (cn + 1) (cs + 6) ∧ c_ch [] H (sw_nw H t 0 6) := by
  have k := c_nw_al H h.2.1 t 0 6
  obtain ⟨g1, g2, g3, g4, g5, g6, g7⟩ := c_I_al (cn' := cn + 1) (cs' := cs + 6) h k (c_nw_F h.2.1 t 0 6) (by simp) (by show ((sw_n H + 1 : Nat) : Int) - _ ≤ _; omega) (by show ((sw_s H + 6 : Nat) : Int) - _ ≤ _; omega)
  obtain ⟨_, _, _, h4, h5, h6, h7, h8, h9⟩ := h
  exact ⟨⟨g1, g2, g3, g4, g5, c_O_ch h6 g6 h5 h4 (by simp), c_P_ch h7 g6 h5 (by simp) (by simp) (by omega) (fun _ _ => rfl), c_Y_ch h8 g6 h5 (by simp), c_M_ch h9 g6 h5 h4 (by simp) (by simp) (by simp) (by omega) (fun _ _ => rfl)⟩, g6⟩
end
end
