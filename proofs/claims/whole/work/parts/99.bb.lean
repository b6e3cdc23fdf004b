/-! ===== the class: rows of signs written; makers of terms ===== -/
noncomputable section
section
variable {H G X Y : sw_H} {d e f : Nat → Wt} {nn r ra : Nat} {K : Wt → Prop} {tl mk mm l : List Wt} {s a b c x cn cs N U M : Int} {Q : sw_H → Prop} {P : Int → sw_H → Prop} {A B : List Nat} {w wa wb : Wt}
/-- a cell of the class's own, but Terms -/
def c_fix (a : Nat) : Prop := (a = 2 ∨ 10 < a) ∧ a ≤ 1491
theorem c_fix_no (ad : c_ads H) {a : Nat} (h : c_fix a) : ¬ c_ow H a := by
  obtain ⟨h1, h2⟩ := h
  exact c_fx ad (by omega) (by omega) (by omega) (by omega)
theorem c_V_al (hV : c_V H mk nn K tl cn cs) (k : c_al A H G) (hn : sw_n G = sw_n H) (hs : sw_s G = sw_s H) (F : c_F G) (hA : ∀ a ∈ A, c_fix a) : c_V G mk nn K tl cn cs := by
  obtain ⟨⟨hA0, h4, h5⟩, F0, qq, fl, ad⟩ := hV
  have ho : ∀ q ∈ A, ¬ c_ow H q := fun q hq => c_fix_no ad (hA q hq)
  have h3 : sw_ty H 3 ≠ 0 := by rw [hA0.1.1.1]; decide
  have n3 : 3 ∉ A := fun h => by have := hA 3 h; unfold c_fix at this; omega
  have ch := c_al_ch k h3 n3
  have e3 := k.2 3 h3 n3
  refine ⟨⟨c_A_al hA0 k ho (fun h => by have := hA 4 h; unfold c_fix at this; omega) (fun h => by have := hA 5 h; unfold c_fix at this; omega), ?_, ?_⟩, F, c_q_al qq hA0.1.1 k ho (by omega) (by omega), c_full_e k.1 fl, c_ads_ch ch fl ad⟩
  · show sw_iv G 3 2 = _
    rw [e3.1 2]
    exact h4
  · rw [e3.1 4]
    exact h5
theorem c_V_fr (hV : c_V H mk nn K tl cn cs) (k : c_fr A H G) (hA : ∀ a ∈ A, c_fix a) : c_V G mk nn K tl cn cs := c_V_al hV (c_fr_al k) k.1 k.2.1 (fun c hc => by rw [k.2.2.1]; exact hV.2.1 c (by rw [← k.1]; exact hc)) hA
theorem c_V_ch (hV : c_V H mk nn K tl cn cs) (k : c_fr A H G) (hA : ∀ a ∈ A, c_fix a) : c_ch A H G := c_al_ch (c_fr_al k) (by rw [hV.1.1.1.1.1]; decide) (fun h => by have := hA 3 h; unfold c_fix at this; omega)
/-- a row that is written -/
def c_rr (H : sw_H) (mk : List Wt) (r ra : Nat) (l : List Wt) : Prop := c_sg H (w_d mk) r ra l ∧ c_fix r ∧ c_fix ra ∧ c_n H = mk.length
theorem c_rr_len (h : c_rr H mk r ra l) : sw_iv H r 1 = l.length ∧ l.length ≤ sw_ln H ra := c_sg_len h.1
theorem c_rr_n (h : c_rr H mk r ra l) (k : c_fr [r, ra] H G) : c_n G = mk.length := by
  obtain ⟨h1, h2, h3, h4⟩ := h
  unfold c_fix at h2 h3
  have : sw_iv G 3 = sw_iv H 3 := k.2.2.2.2.2 3 (by simp; omega)
  unfold c_n at h4 ⊢
  rw [this]
  exact h4
theorem c_s_clear (h : c_rr H mk r ra l) (k : ∀ G, c_rr G mk r ra [] → c_fr [r, ra] H G → Q G) : wm_160 r H Q := by
  have h' := h
  obtain ⟨⟨sg, h1, h2, h3⟩, g1, g2, g3⟩ := h
  refine c_clear h1 (fun G a1 a2 => ?_)
  have a2 : c_fr [r, ra] H G := c_fr_sub a2 (by simp)
  exact k G ⟨⟨[], a1, by simp, rfl⟩, g1, g2, c_rr_n h' a2⟩ a2
theorem c_s_put {y : Int} (h : c_rr H mk r ra l) (hc : l.length < sw_ln H ra) (hy : m_vs mk.length y ∧ w_sg (w_d mk) y = w) (k : ∀ G, c_rr G mk r ra (l ++ [w]) → c_fr [r, ra] H G → Q G) : wm_58 r y H Q := by
  have h' := h
  obtain ⟨⟨sg, h1, h2, h3⟩, g1, g2, g3⟩ := h
  have ln : sg.length = l.length := by rw [← h3, List.length_map]
  refine c_put h1 (by omega) (fun G a1 a2 => ?_)
  have nG := c_rr_n h' a2
  refine k G ⟨⟨sg ++ [y], a1, fun z hz => ?_, ?_⟩, g1, g2, nG⟩ a2
  · rw [nG]
    rw [List.mem_append, List.mem_singleton] at hz
    rcases hz with hz | hz
    · rw [← g3]; exact h2 z hz
    · rw [hz]; exact hy.1
  · rw [List.map_append, h3, List.map_singleton, hy.2]
theorem c_s_term (h : c_rr H mk r ra l) (hc : l.length < sw_ln H ra) (hm : mk.length ≤ 1000000000) (hw : w_at mk x w) (k : ∀ G, c_rr G mk r ra (l ++ [w]) → c_fr [r, ra] H G → Q G) : wm_58 r (sw_w (256 + x)) H Q := by
  have := w_at_le hw
  rw [sw_w_s (by omega) (by omega)]
  exact c_s_put h hc (w_sg_term hw) k
theorem c_s_byte (h : c_rr H mk r ra l) (hc : l.length < sw_ln H ra) (h0 : 0 ≤ x) (h1 : x < 256) (k : ∀ G, c_rr G mk r ra (l ++ [w_by x]) → c_fr [r, ra] H G → Q G) : wm_58 r x H Q := c_s_put h hc (w_sg_byte h0 h1) k
theorem c_s_b16 (h : c_rr H mk r ra l) (hc : l.length + 2 ≤ sw_ln H ra) (k : ∀ G, c_rr G mk r ra (l ++ w_b16 x) → c_fr [r, ra] H G → Q G) : wm_170 r x H Q := by
  have h' := h
  obtain ⟨⟨sg, h1, h2, h3⟩, g1, g2, g3⟩ := h
  have ln : sg.length = l.length := by rw [← h3, List.length_map]
  refine c_putU16 h1 (by omega) (fun G a1 a2 => ?_)
  have nG := c_rr_n h' a2
  refine k G ⟨⟨_, a1, fun z hz => ?_, ?_⟩, g1, g2, nG⟩ a2
  · rw [nG]
    rw [List.mem_append] at hz
    rcases hz with hz | hz
    · rw [← g3]; exact h2 z hz
    · unfold w_16 at hz
      simp at hz
      rcases hz with hz | hz <;> rw [hz] <;> exact ⟨by omega, Or.inl (by omega)⟩
  · rw [List.map_append, h3]
    unfold w_16 w_b16
    rw [List.map_cons, List.map_cons, List.map_nil, (w_sg_byte (mk := mk) (x := x / 256 % 256) (by omega) (by omega)).2, (w_sg_byte (mk := mk) (x := x % 256) (by omega) (by omega)).2]
theorem c_s_b32 (h : c_rr H mk r ra l) (hc : l.length + 4 ≤ sw_ln H ra) (k : ∀ G, c_rr G mk r ra (l ++ w_b32 x) → c_fr [r, ra] H G → Q G) : wm_169 r x H Q := by
  have h' := h
  obtain ⟨⟨sg, h1, h2, h3⟩, g1, g2, g3⟩ := h
  have ln : sg.length = l.length := by rw [← h3, List.length_map]
  refine c_putU32 h1 (by omega) (fun G a1 a2 => ?_)
  have nG := c_rr_n h' a2
  refine k G ⟨⟨_, a1, fun z hz => ?_, ?_⟩, g1, g2, nG⟩ a2
  · rw [nG]
    rw [List.mem_append, List.mem_append] at hz
    rcases hz with (hz | hz) | hz
    · rw [← g3]; exact h2 z hz
    · unfold w_16 at hz
      simp at hz
      rcases hz with hz | hz <;> rw [hz] <;> exact ⟨by omega, Or.inl (by omega)⟩
    · unfold w_16 at hz
      simp at hz
      rcases hz with hz | hz <;> rw [hz] <;> exact ⟨by omega, Or.inl (by omega)⟩
  · rw [List.map_append, List.map_append, h3, List.append_assoc]
    unfold w_16 w_b32 w_b16
    rw [show x / 65536 % 65536 / 256 % 256 = x / 65536 / 256 % 256 by omega, show x / 65536 % 65536 % 256 = x / 65536 % 256 by omega, show x % 65536 / 256 % 256 = x / 256 % 256 by omega, show x % 65536 % 256 = x % 256 by omega]
    rw [List.map_cons, List.map_cons, List.map_nil, (w_sg_byte (mk := mk) (x := x / 65536 / 256 % 256) (by omega) (by omega)).2, (w_sg_byte (mk := mk) (x := x / 65536 % 256) (by omega) (by omega)).2]
    rw [List.map_cons, List.map_cons, List.map_nil, (w_sg_byte (mk := mk) (x := x / 256 % 256) (by omega) (by omega)).2, (w_sg_byte (mk := mk) (x := x % 256) (by omega) (by omega)).2]
/-- a term stands for no empty row -/
theorem c_at_ne (h : c_L H mk nn K tl) {w : Wt} (hw : w_at mk x w) : w ≠ [] := by
  have hl := w_at_le hw
  obtain ⟨s, l, _, e⟩ := c_d0 h.1.1 (t := x.toNat) ⟨by omega, by have := h.2.1; omega⟩
  rw [w_at_d hw] at e
  rw [e]
  unfold w_mk
  simp
theorem c_s_perhaps (hL : c_L H mk nn K tl) (h : c_rr H mk r ra l) (hc : l.length < sw_ln H ra) (hm : mk.length ≤ 999999999) (hw : w_az mk x w) (k : ∀ G, c_rr G mk r ra (l ++ [w_pb w]) → c_fr [r, ra] H G → Q G) : wm_263 r x H Q := by
  have h' := h
  obtain ⟨⟨sg, h1, h2, h3⟩, g1, g2, g3⟩ := h
  have ln : sg.length = l.length := by rw [← h3, List.length_map]
  have xb := w_az_le hw
  have hy : m_vs mk.length (if x = 0 then 0 else 256 + x) ∧ w_sg (w_d mk) (if x = 0 then 0 else 256 + x) = w_pb w := by
    rcases hw with ⟨e0, ew⟩ | hw
    · rw [if_pos e0]
      have := w_sg_byte (mk := mk) (x := 0) (by omega) (by omega)
      refine ⟨this.1, ?_⟩
      rw [this.2]
      unfold w_pb
      rw [if_pos ew]
    · have := w_at_le hw
      rw [if_neg (by omega)]
      have := w_sg_term hw
      refine ⟨this.1, ?_⟩
      rw [this.2]
      unfold w_pb
      rw [if_neg (c_at_ne hL hw)]
  refine c_putHash h1 xb.1 (by omega) (by omega) (fun G a1 a2 => ?_)
  have nG := c_rr_n h' a2
  refine k G ⟨⟨_, a1, fun z hz => ?_, ?_⟩, g1, g2, nG⟩ a2
  · rw [nG]
    rw [List.mem_append, List.mem_singleton] at hz
    rcases hz with hz | hz
    · rw [← g3]; exact h2 z hz
    · rw [hz]; exact hy.1
  · rw [List.map_append, h3, List.map_singleton, hy.2]
/-- a row stays where other cells change, and where terms are made -/
theorem c_rr_ch (hV : c_V H mk nn K tl cn cs) {nm : Nat} {K' : Wt → Prop} {tl' : List Wt} (h : c_rr H mk r ra l) (k : c_ch A H G) (hG : c_V G mm nm K' tl' cn cs) (hl : w_le mk mm) (h1 : r ∉ A) (h2 : ra ∉ A) : c_rr G mm r ra l := by
  obtain ⟨g0, g1, g2, g3⟩ := h
  have l1 := w_le_len hl
  have n2 := hG.1.2.1
  refine ⟨c_sg_ch g0 k (c_fix_no hV.2.2.2.2 g1) (c_fix_no hV.2.2.2.2 g2) h1 h2 (by omega) (fun u hu => w_le_d hl (by omega)), g1, g2, n2⟩
/-- HASH of a row -/
theorem c_hashL (lm : c_lm cn cs N U M) (hV : c_V H mk nn K tl cn cs) (h : c_rr H mk r ra l) (ll : l.length ≤ 1400) (bd : c_bl mk tl N U M) (k : ∀ X t, c_V X (w_tl mk (w_t 1 [] [] [] l)) nn K tl cn cs → w_at (w_tl mk (w_t 1 [] [] [] l)) t (w_t 1 [] [] [] l) → c_ch [] H X → P t X) : wm_145 3 1 0 0 0 r H P := by
  have t1 := hV.1.1.1.2.2.1
  refine c_ofL lm hV h.1 (c_fix_no hV.2.2.2.2 h.2.1) (c_fix_no hV.2.2.2.2 h.2.2.1) ll bd (by decide) (by unfold c_va; omega) (fun sg e => ?_) k
  unfold w_tm w_t
  rw [e, if_neg (by decide)]
  rfl
/-- MAC, SIGNED: one part, a row -/
theorem c_partL (hs : s = 2 ∨ s = 7) (lm : c_lm cn cs N U M) (hV : c_V H mk nn K tl cn cs) (ha : w_at mk a wa) (h : c_rr H mk r ra l) (ll : l.length ≤ 1400) (bd : c_bl mk tl N U M) (k : ∀ X t, c_V X (w_tl mk (w_t s.toNat wa [] [] l)) nn K tl cn cs → w_at (w_tl mk (w_t s.toNat wa [] [] l)) t (w_t s.toNat wa [] [] l) → c_ch [] H X → P t X) : wm_145 3 s a 0 0 r H P := by
  have t1 := hV.1.1.1.2.2.1
  have al := w_at_le ha
  have n4 := hV.1.2.1
  refine c_ofL lm hV h.1 (c_fix_no hV.2.2.2.2 h.2.1) (c_fix_no hV.2.2.2.2 h.2.2.1) ll bd (by omega) (by unfold c_va; omega) (fun sg e => ?_) k
  unfold w_tm w_t
  rw [e, if_neg (by omega), w_az_dz (Or.inr ha)]
  rfl
/-- DERIVED, of a row -/
theorem c_derL (lm : c_lm cn cs N U M) (hV : c_V H mk nn K tl cn cs) (ha : w_at mk a wa) (b0 : 0 ≤ b) (b9 : b ≤ 9) (h : c_rr H mk r ra l) (ll : l.length ≤ 1400) (bd : c_bl mk tl N U M) (k : ∀ X t, c_V X (w_tl mk (w_t 3 wa [b.toNat] [] l)) nn K tl cn cs → w_at (w_tl mk (w_t 3 wa [b.toNat] [] l)) t (w_t 3 wa [b.toNat] [] l) → c_ch [] H X → P t X) : wm_145 3 3 a b 0 r H P := by
  have t1 := hV.1.1.1.2.2.1
  have al := w_at_le ha
  have n4 := hV.1.2.1
  refine c_ofL lm hV h.1 (c_fix_no hV.2.2.2.2 h.2.1) (c_fix_no hV.2.2.2.2 h.2.2.1) ll bd (by omega) (by unfold c_va; omega) (fun sg e => ?_) k
  unfold w_tm w_t
  rw [e, if_pos rfl, w_az_dz (Or.inr ha)]
  rfl
end
end
