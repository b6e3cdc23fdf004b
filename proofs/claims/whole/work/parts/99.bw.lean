/-! ===== the class: the resolution of a node, all of it ===== -/
noncomputable section
section
variable {H Z X Y : sw_H} {nn nm r ra g m p fa : Nat} {K K' S : Wt → Prop} {tl tl' tp mk mm l : List Wt} {a b c x y cn cs cn' cs' N U M wo : Int} {Q : sw_H → Prop} {P : Int → sw_H → Prop} {A B : List Nat} {w wa wb : Wt} {T : w_T}
theorem c_tr_fr (hV : c_V H mk nn K tl cn cs) (h : c_tr H mk p T) (f : c_fr A H Z) (hA : ∀ a ∈ A, c_fix a ∧ (a < p ∨ p + 20 < a)) : c_tr Z mk p T := c_tr_ch h hV.2.2.2.1 hV.2.2.2.2 (c_V_ch hV f (fun a ha => (hA a ha).1)) (fun a ha => (hA a ha).2) (w_le_refl _)
/-- the step behind a node -/
theorem c_res_go {k15 : Nat → Nat → Int → Int → Int → Int → sw_H → Prop} {at' h0 en sz : Int} {h : Nat} (hh : h ≤ 4) (h1 : 0 ≤ at') (h2 : at' ≤ 1000) (q : k15 p fa h0 (at' + ((2 ^ h : Nat) : Int)) en sz H) : wb_138_33 P k15 p fa h0 at' en sz h H := by
  have key : ∀ h : Fin 5, h.val ≠ 0 → sw_shl 1 (h.val : Int) = ((2 ^ h.val : Nat) : Int) := by decide +kernel
  have kb : ∀ h : Fin 5, 2 ^ h.val ≤ 16 := by decide +kernel
  have kb' : 2 ^ h ≤ 16 := kb ⟨h, by omega⟩
  unfold wb_138_33 wb_138_41
  refine ⟨fun c => ?_, fun c => ?_⟩
  · have e0 : h = 0 := by omega
    subst e0
    intro y1 e1
    rw [sw_w_s (by omega) (by omega)] at e1
    rw [e1]
    exact q
  · have ks : sw_shl 1 (h : Int) = ((2 ^ h : Nat) : Int) := key ⟨h, by omega⟩ (by show h ≠ 0; omega)
    rw [ks]
    clear ks key
    generalize 2 ^ h = w at *
    intro y1 e1
    rw [sw_w_s (by omega) (by omega)] at e1
    rw [e1]
    exact q
theorem c_scan {h0 en : Nat} (hh0 : h0 ≤ 4) (hf : c_fix fa) (hf2 : fa < p ∨ p + 20 < fa) (hen : en ≤ 16) : ∀ (h y n : Nat) {H : sw_H} {r : List Nat}, c_V H mk nn K tl cn cs → c_tr H mk p T → sw_ln H fa = 144 → w_h y = h → h ≤ h0 → y + 2 ^ h ≤ t_w T → w_fl y + 2 ^ h ≤ en → (∀ k, h < k → k ≤ h0 → t_w T ≤ w_ab (w_fl y) k ∨ t_ky T (w_ab (w_fl y) k) = []) → c_rz H fa r → r.length + (w_rs T h y).length ≤ 144 → (∀ G, c_rz G fa (r ++ w_rs T h y) → c_fr [fa] H G → wl_138_15 P n p fa h0 ((w_fl y + 2 ^ h : Nat) : Int) en ((r ++ w_rs T h y).length : Int) G) → wl_138_15 P (n + w_rk T h y) p fa h0 (w_fl y) en r.length H := by
  -- a node that is not BLANK
  have full : ∀ (h y n : Nat) {H : sw_H} {r : List Nat}, c_V H mk nn K tl cn cs → c_tr H mk p T → sw_ln H fa = 144 → w_h y = h → h ≤ h0 → y + 2 ^ h ≤ t_w T → w_fl y + 2 ^ h ≤ en → t_ky T y ≠ [] → (∀ k, h < k → k ≤ h0 → t_w T ≤ w_ab (w_fl y) k ∨ t_ky T (w_ab (w_fl y) k) = []) → c_rz H fa r → r.length + (w_uml (t_um T y) 16).length + 1 ≤ 144 → (∀ G, c_rz G fa (r ++ (y :: w_uml (t_um T y) 16)) → c_fr [fa] H G → wl_138_15 P n p fa h0 ((w_fl y + 2 ^ h : Nat) : Int) en ((r ++ (y :: w_uml (t_um T y) 16)).length : Int) G) → wl_138_15 P (n + 1) p fa h0 (w_fl y) en r.length H := by
    intro h y n H r hV ht hln hh hle hy hfl hk hup hr hl q
    have w31 := t_w31 ht.2.1.1
    have p0 : 0 < 2 ^ h := Nat.two_pow_pos _
    have fl := w_fl_16 ⟨y, by omega⟩
    have fl1 : w_fl y < 16 := fl.1
    have fl2 : w_ab (w_fl y) h = y := by rw [← hh]; exact fl.2.1
    clear fl
    unfold wl_138_15
    refine ⟨fun c => by omega, fun _ => ?_⟩
    refine c_highest hV.1 ht fl1 hh0 (fun f f1 f2 f3 _ _ => ?_) (fun f0 => ?_)
    · have ef : f = h := by
        rcases Nat.lt_trichotomy f h with g | g | g
        · have := f3 h g hle
          rw [fl2] at this
          rcases this with t | t
          · omega
          · exact absurd t hk
        · exact g
        · have := hup f g f1
          rcases this with t | t
          · omega
          · exact absurd t f2.2
      subst ef
      refine ⟨fun c => by omega, fun _ => ?_⟩
      refine c_above fl1 (by omega) (fun _ _ => ?_)
      have e : ((w_fl y / 2 ^ f * 2 ^ (f + 1) + 2 ^ f - 1 : Nat) : Int) = (y : Int) := by
        have : w_fl y / 2 ^ f * 2 ^ (f + 1) + 2 ^ f - 1 = y := fl2
        rw [this]
      rw [e]
      refine c_putRes ht (by omega) hr (by omega) (by omega) hf2 (fun G rG fG _ _ => ?_)
      refine c_res_go (by omega) (by omega) (by omega) ?_
      have := q G rG fG
      rw [show ((w_fl y + 2 ^ f : Nat) : Int) = (w_fl y : Int) + ((2 ^ f : Nat) : Int) from Int.natCast_add _ _] at this
      exact this
    · exfalso
      have := f0 h hle
      rw [fl2] at this
      rcases this with t | t
      · omega
      · exact absurd t hk
  intro h
  induction h with
  | zero =>
    intro y n H r hV ht hln hh hle hy hfl hup hr hl q
    by_cases kb : t_ky T y = []
    · have w31 := t_w31 ht.2.1.1
      have fl := w_fl_16 ⟨y, by omega⟩
      have fl1 : w_fl y < 16 := fl.1
      have fl2 : w_ab (w_fl y) 0 = y := by rw [← hh]; exact fl.2.1
      clear fl
      have er : w_rs T 0 y = [] := if_pos kb
      rw [er, List.append_nil] at q
      have q := q H hr (c_fr_refl _ _)
      show wl_138_15 P (n + 1) p fa h0 (w_fl y) en r.length H
      unfold wl_138_15
      refine ⟨fun c => by omega, fun _ => ?_⟩
      refine c_highest hV.1 ht fl1 hh0 (fun f f1 f2 f3 => ?_) (fun f0 _ _ => ?_)
      · exfalso
        by_cases c0 : f = 0
        · subst c0
          rw [fl2] at f2
          exact f2.2 kb
        · have := hup f (by omega) f1
          rcases this with t | t
          · omega
          · exact f2.2 t
      · refine ⟨fun _ => ?_, fun c => absurd c (by decide)⟩
        unfold wb_138_33 wb_138_41
        refine ⟨fun _ => ?_, fun c => absurd c (by decide)⟩
        intro y1 e1
        rw [sw_w_s (by omega) (by omega)] at e1
        rw [e1]
        exact q
    · rw [w_rs_full kb 0] at q hl
      rw [List.length_cons] at hl
      exact full 0 y n hV ht hln hh hle hy hfl kb hup hr (by omega) q
  | succ h ih =>
    intro y n H r hV ht hln hh hle hy hfl hup hr hl q
    have w31 := t_w31 ht.2.1.1
    have p0 : 0 < 2 ^ h := Nat.two_pow_pos _
    have p2 : 2 ^ (h + 1) = 2 * 2 ^ h := by rw [Nat.pow_succ]; omega
    by_cases kb : t_ky T y = []
    · have er : w_rs T (h + 1) y = w_rs T h (y - 2 ^ h) ++ w_rs T h (y + 2 ^ h) := if_pos kb
      have ec : w_rk T (h + 1) y = w_rk T h (y - 2 ^ h) + w_rk T h (y + 2 ^ h) := if_pos kb
      rw [er] at q hl
      rw [List.length_append] at hl
      obtain ⟨k1, k2, k3⟩ := w_h_kid (by omega) hh
      have fk := w_fl_kid ⟨y, by omega⟩ (by show w_h y ≠ 0; omega)
      have fk1 : w_fl (y - 2 ^ (w_h y - 1)) = w_fl y := fk.1
      have fk2 : w_fl (y + 2 ^ (w_h y - 1)) = w_fl y + 2 ^ (w_h y - 1) := fk.2.1
      have fk3 : ∀ k : Fin 5, w_h y ≤ k.val → w_ab (w_fl (y - 2 ^ (w_h y - 1))) k.val = w_ab (w_fl y) k.val ∧ w_ab (w_fl (y + 2 ^ (w_h y - 1))) k.val = w_ab (w_fl y) k.val := fk.2.2
      have fl := w_fl_16 ⟨y, by omega⟩
      have fl2 : w_ab (w_fl y) (h + 1) = y := by rw [← hh]; exact fl.2.1
      clear fk fl
      rw [hh, Nat.add_sub_cancel] at fk1 fk2 fk3
      have up : ∀ z, (z = y - 2 ^ h ∨ z = y + 2 ^ h) → ∀ k, h < k → k ≤ h0 → t_w T ≤ w_ab (w_fl z) k ∨ t_ky T (w_ab (w_fl z) k) = [] := by
        intro z hz k hk1 hk2
        have e : w_ab (w_fl z) k = w_ab (w_fl y) k := by
          have := fk3 ⟨k, by omega⟩ (by show h + 1 ≤ k; omega)
          rcases hz with e | e
          · rw [e]; exact this.1
          · rw [e]; exact this.2
        rw [e]
        by_cases ck : k = h + 1
        · rw [ck, fl2]; exact Or.inr kb
        · exact hup k (by omega) hk2
      have hA : ∀ a ∈ [fa], c_fix a ∧ (a < p ∨ p + 20 < a) := fun a ha => by simp at ha; rw [ha]; exact ⟨hf, hf2⟩
      rw [ec, show n + (w_rk T h (y - 2 ^ h) + w_rk T h (y + 2 ^ h)) = (n + w_rk T h (y + 2 ^ h)) + w_rk T h (y - 2 ^ h) by omega]
      have left := ih (y - 2 ^ h) (n + w_rk T h (y + 2 ^ h)) hV ht hln k2 (by omega) (by omega) (by rw [fk1]; omega) (up _ (Or.inl rfl)) hr (by omega) (fun G rG fG => ?_)
      · rw [fk1] at left
        exact left
      · have VG := c_V_fr hV fG (fun a ha => (hA a ha).1)
        have tG := c_tr_fr hV ht fG hA
        have right := ih (y + 2 ^ h) n VG tG (by rw [fG.2.2.2.1]; exact hln) k3 (by omega) (by omega) (by rw [fk2]; omega) (up _ (Or.inr rfl)) rG (by rw [List.length_append]; omega) (fun G2 r2 f2 => ?_)
        · rw [fk2] at right
          rw [fk1]
          exact right
        · rw [List.append_assoc] at r2 ⊢
          have := q G2 r2 (c_fr_t fG f2)
          rw [fk2, show w_fl y + 2 ^ h + 2 ^ h = w_fl y + 2 ^ (h + 1) by omega]
          exact this
    · have ec := w_rk_full kb (h + 1)
      rw [w_rs_full kb (h + 1)] at q hl
      rw [List.length_cons] at hl
      rw [ec]
      exact full (h + 1) y n hV ht hln hh hle hy hfl kb hup hr (by omega) q
/-- resolution -/
theorem c_resolution {x : Nat} (hf : c_fix fa) (hf2 : fa < p ∨ p + 20 < fa) (hV : c_V H mk nn K tl cn cs) (ht : c_tr H mk p T) (hln : sw_ln H fa = 144) (hx : x < t_w T) (q : ∀ G, c_rz G fa (w_rs T (w_h x) x) → c_fr [fa] H G → P ((w_rs T (w_h x) x).length : Int) G) : wm_138 p x fa H P := by
  have w31 := t_w31 ht.2.1.1
  have h4 := w_h_4 x
  have hsub := t_sub ht.2.1.1 hx
  have p0 : 0 < 2 ^ w_h x := Nat.two_pow_pos _
  have fl := w_fl_16 ⟨x, by omega⟩
  have fl1 : w_fl x < 16 := fl.1
  have fl3 : w_fl x + 2 ^ w_h x ≤ 16 := fl.2.2
  have fk1 : sw_shl (sw_shr (x : Int) (sw_w ((w_h x : Int) + 1))) (w_h x : Int) = ((w_fl x : Nat) : Int) := (c_first_k ⟨x, by omega⟩).1
  have ey : sw_w (((w_fl x : Nat) : Int) + sw_shl 1 (w_h x : Int)) = ((w_fl x + 2 ^ w_h x : Nat) : Int) := by
    rw [sw_shl_1 h4]
    clear fk1 fl hsub
    generalize 2 ^ w_h x = W at *
    rw [sw_w_s (by omega) (by omega)]
    omega
  clear fl
  unfold wm_138
  refine c_height (by omega) (fun _ _ => ?_)
  unfold wm_247
  rw [fk1]
  clear fk1
  intro _ _ y45 e45
  rw [ey] at e45
  rw [e45]
  clear ey e45
  have l := w_rs_136 ht.2.1 hsub
  refine ⟨1 + w_rk T (w_h x) x, c_scan (r := []) h4 hf hf2 fl3 (w_h x) x 1 hV ht hln rfl (Nat.le_refl _) hsub (Nat.le_refl _) (fun k h1 h2 => by omega) (fun i v hv => by simp at hv) (by simp; omega) (fun G rG fG => ?_)⟩
  unfold wl_138_15
  rw [List.nil_append] at rG ⊢
  exact ⟨fun _ => q G rG fG, fun c => by omega⟩
end
end
