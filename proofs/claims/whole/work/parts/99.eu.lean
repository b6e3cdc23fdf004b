/-! ===== the class: areKeysOther, areRight ===== -/
noncomputable section
variable {H G Z X : sw_H} {mk mm tl l : List Wt} {ms : List (List Wt)} {nn r ra k o h x y i e mi g : Nat} {K K' : Wt → Prop} {cn cs com : Int} {T T' : w_T} {f : p_L} {Q : sw_H → Prop} {P : Int → sw_H → Prop} {A B : List Nat} {L : List w_Ch} {d : w_Ch} {R J : Nat → Prop}
theorem h_ak_len : ∀ (L : List w_Ch), (h_ak L).length = h_nad L
  | [] => rfl
  | c :: L => by
    have := h_ak_len L
    unfold h_nad at this ⊢
    unfold h_ak
    by_cases d : c.1.1 = 1
    · rw [if_pos d, List.length_cons, this, List.countP_cons_of_pos (by simpa using d)]
    · rw [if_neg d, this, List.countP_cons_of_neg (by simpa using d)]
theorem c_ko_4 (nd : mk.Nodup) (hr : 84 < r) : ∀ (m n k : Nat) {H : sw_H} {ks : List Wt}, c_V H mk nn K' tl cn cs → c_ci H mk K ms L → c_tr H mk r T → b_is (sw_iv H 44 11) R → c_ks H mk ks → m + k = 2 ^ t_dp T → m < n → ks.length + (h_st T R k m).length + (h_ak L).length ≤ 16 → (∀ G, c_fr [52] H G → (h_nd (ks ++ ((h_st T R k m).map (h_kb T L) ++ h_ak L)) → P 1 G) ∧ (¬ h_nd (ks ++ ((h_st T R k m).map (h_kb T L) ++ h_ak L)) → P 0 G)) → wl_358_4 P n 44 r (ks.length : Nat) k H
  | _, 0, _, _, _, _, _, _, _, _, _, h, _, _ => by omega
  | m, n + 1, k, H, ks, hV, hci, ht, hb, hk, hm, hn, h16, q => by
    obtain ⟨c0, c3, c4, c5, c6, c7, c8, c9, c12, ct, c47, c51, c52, clf⟩ := hci.1
    have d16 := t_d_16 ht.2.1.1
    have w31 := t_w_4 ht.2.1.1
    obtain ⟨_, _, _, r1, _, _, s4, tya, s4t, s4l, slf⟩ := ht.1
    have ta := tya 1 (by omega) (by omega)
    unfold wl_358_4
    refine c_leavesX ht ?_
    intro _ _
    refine ⟨fun c => ?_, fun c => ?_⟩
    · have : m = 0 := by omega
      subst this
      have e0 : h_st T R k 0 = [] := rfl
      rw [e0] at q h16
      rw [List.map_nil, List.nil_append] at q
      rw [List.length_nil] at h16
      exact ⟨L.length + 1, c_ko_32 nd L.length _ 0 hci hk (by omega) (by omega) (by rw [List.drop_zero]; omega) (fun G fG => by rw [List.drop_zero]; exact q G fG)⟩
    · obtain ⟨m', rfl⟩ : ∃ m', m = m' + 1 := ⟨m - 1, by omega⟩
      have hkw := (t_lf_w T k).mpr (by omega)
      rw [r1, sw_2k (by omega)]
      refine ⟨ta.1, ?_⟩
      intro q14 e14
      rw [e14]
      refine ⟨by omega, by rw [ta.2]; omega, ?_⟩
      intro v17 e17 _
      rw [Int.toNat_natCast] at e17
      have ky := c_ky0 hV.1 ht (x := 2 * k) (by omega)
      rw [← e17] at ky
      have skip : ¬ (t_is T k ∧ ¬ R k) → wb_358_28 P (wl_358_4 P n) 44 r (ks.length : Nat) k H := fun ns => by
        rw [h_st_n ns] at q h16
        unfold wb_358_28
        intro y ey
        rw [sw_s1 (by omega)] at ey
        subst ey
        exact c_ko_4 nd hr m' n (k + 1) hV hci ht hb hk (by omega) (by omega) h16 q
      refine ⟨fun c2 => ?_, fun c2 => ?_⟩
      · have g : t_ky T (2 * k) = [] := (ky.mp c2).resolve_left (by omega)
        exact skip (fun cc => cc.1.2 g)
      · have g : t_is T k := ⟨by omega, fun g => c2 (ky.mpr (Or.inr g))⟩
        refine c_isRem hb (by omega) (fun z hz => ?_)
        intro _ _
        rcases hz with ⟨rfl, hz⟩ | ⟨rfl, hz⟩
        · exact ⟨fun _ => skip (fun cc => cc.2 hz), fun c => absurd c (by decide)⟩
        · refine ⟨fun c => absurd rfl c, fun _ => ?_⟩
          rw [h_st_1 ⟨g, hz⟩] at q h16
          rw [List.length_cons] at h16
          rw [c12]
          refine ⟨c52.1, ?_⟩
          intro q88 e88
          refine c_keyBehind hci ht g (fun z hz2 => ?_)
          intro _ _
          rw [e88]
          refine ⟨by omega, by rw [c52.2]; omega, ?_⟩
          intro H96 e96
          rw [Int.toNat_natCast] at e96
          have k96 : c_ks H96 mk (ks ++ [h_kb T L k]) := by rw [e96]; exact c_ks_s hk (by omega) hz2
          have f96 : c_fr [52] H H96 := by rw [e96]; exact c_fr_si _ _ _ _
          have fx : ∀ a ∈ [52], c_fix a := fun a ha => by simp at ha; unfold c_fix; omega
          intro y58 e58
          rw [sw_s1 (by omega)] at e58
          subst e58
          unfold wb_358_28
          intro y ey
          rw [sw_s1 (by omega)] at ey
          subst ey
          have el : ((ks.length + 1 : Nat) : Int) = (((ks ++ [h_kb T L k]).length : Nat) : Int) := by simp
          rw [el]
          refine c_ko_4 nd hr m' n (k + 1) (c_V_fr hV f96 fx) (c_ci_fr hci f96 (fun a ha => by simp at ha; omega)) (c_tr_fr hV ht f96 (fun a ha => ⟨fx a ha, by simp at ha; omega⟩)) (by rw [f96.2.2.2.2.2 44 (by simp)]; exact hb) k96 (by omega) (by omega) (by simp; omega) (fun G fG => ?_)
          have qq := q G (c_fr_t f96 fG)
          rw [List.map_cons, List.cons_append] at qq
          rw [List.append_assoc, List.singleton_append]
          exact qq
theorem c_areKeysOther (nd : mk.Nodup) (hr : 84 < r) (hV : c_V H mk nn K' tl cn cs) (hci : c_ci H mk K ms L) (ht : c_tr H mk r T) (hb : b_is (sw_iv H 44 11) R) (h16 : (h_st T R 0 (2 ^ t_dp T)).length + h_nad L ≤ 16) (q : ∀ z G, c_fr [52] H G → ((z = 1 ∧ h_nd ((h_st T R 0 (2 ^ t_dp T)).map (h_kb T L) ++ h_ak L)) ∨ (z = 0 ∧ ¬ h_nd ((h_st T R 0 (2 ^ t_dp T)).map (h_kb T L) ++ h_ak L))) → P z G) : wm_358 44 r H P := by
  unfold wm_358
  refine ⟨2 ^ t_dp T + 1, c_ko_4 (ks := []) nd hr (2 ^ t_dp T) _ 0 hV hci ht hb ⟨Nat.zero_le _, fun i w hi => by cases hi⟩ rfl (Nat.lt_succ_self _) (by rw [h_ak_len, List.length_nil]; omega) (fun G fG => ?_)⟩
  rw [List.nil_append]
  exact ⟨fun h => q 1 G fG (Or.inl ⟨rfl, h⟩), fun h => q 0 G fG (Or.inr ⟨rfl, h⟩)⟩
/-- as the class asks -/
def h_C (T : w_T) (L : List w_Ch) (com : Int) : Prop := h_di L com L.length ∧ (∀ l : Nat, t_is T l → ¬ h_rm L (l : Int) → ¬ ∃ c ∈ L, c.1.1 = 1 ∧ h_go c = ((t_ow T l).toNat : Int)) ∧ (h_st T (fun j => h_rm L (j : Int)) 0 (2 ^ t_dp T)).length + h_nad L ≤ 16 ∧ h_nd ((h_st T (fun j => h_rm L (j : Int)) 0 (2 ^ t_dp T)).map (h_kb T L) ++ h_ak L)
theorem c_areRight {cm : Nat} (hr : 84 < r) (hW : c_W H mk nn K' tl cn cs) (hci : c_ci H mk K ms L) (ht : c_tr H mk r T) (hown : ∀ c ∈ L, 0 ≤ h_go c ∧ h_go c < 24) (hlv : ∀ l, t_is T l → 0 ≤ t_ow T l ∧ t_ow T l < 24) (hcm : cm < 24) (q : ∀ z G, ((z = 1 ∧ h_C T L cm) ∨ (z = 0 ∧ ¬ h_C T L cm)) → c_ci G mk K ms L → c_W G mk nn K' tl cn cs → c_fr [44, 52] H G → (h_di L cm L.length → sw_iv G 44 2 = (h_nad L : Nat) ∧ b_is (sw_iv G 44 11) (fun j => h_rm L (j : Int))) → P z G) : wm_280 44 r cm H P := by
  have nd := c_L_nd hW.1.1
  have f52 : ∀ {Y Z : sw_H}, c_fr [44] Y Z → c_fr [44, 52] Y Z := fun f => c_fr_sub f (by simp)
  have f53 : ∀ {Y Z : sw_H}, c_fr [52] Y Z → c_fr [44, 52] Y Z := fun f => c_fr_sub f (by simp)
  have fx : ∀ a ∈ [44, 52], c_fix a ∧ (15 < a ∨ a = 2) := fun a ha => by simp at ha; unfold c_fix; omega
  have fx2 : ∀ a ∈ [44, 52], c_fix a ∧ (a < r ∨ r + 20 < a) := fun a ha => by simp at ha; unfold c_fix; omega
  unfold wm_280
  intro y67 e67 H74 e74 H77 e77
  have g74 : c_fr [44] H H74 := by rw [e74]; exact c_fr_si _ _ _ _
  have g77 : c_fr [44] H H77 := c_fr_t g74 (by rw [e77]; exact c_fr_si _ _ _ _)
  have ci77 : c_ci H77 mk K ms L := c_ci_44 hci g77 (by rw [e77, c_si_f (by decide), e74, c_si_f (by decide)])
  subst e67
  refine ⟨L.length + 1, c_ar_14 (H := H) (com := cm) hown (fun G cG fG hn => ?_) (fun G x3 x4 cG fG hd st => ?_) _ 0 ci77 g77 (fun j c hj => by omega) ⟨?_, ?_, ?_, ?_⟩ (by omega) (by omega)⟩
  · exact q 0 G (Or.inr ⟨rfl, fun hc => hn hc.1⟩) cG (c_W_fr hW (f52 fG) fx) (f52 fG) (fun hd => absurd hd hn)
  · obtain ⟨_, s2, s3, s4⟩ := st
    rw [List.take_length] at s2 s3 s4
    have WG := c_W_fr hW (f52 fG) fx
    have tG := c_tr_fr hW.1 ht (f52 fG) fx2
    have nle : h_nad L ≤ 32 := by
      have := h_nad_le (L := L) (k := L.length)
      rw [List.take_length] at this
      have := hci.2.2.1
      omega
    refine c_areJoinersRight (R := fun j => h_rm L (j : Int)) WG.1 tG hlv s2 s3 s4 nle (fun h1 h2 => ?_) (fun h1 => ?_)
    · intro _ _
      refine ⟨fun c => absurd c (by decide), fun _ => ?_⟩
      refine c_areKeysOther (R := fun j => h_rm L (j : Int)) nd hr WG.1 cG tG s3 h2 (fun z Z fZ hz => ?_)
      intro _ _
      have fZ2 := c_fr_t (f52 fG) (f53 fZ)
      have ciZ := c_ci_fr cG fZ (fun a ha => by simp at ha; omega)
      have e44 : sw_iv Z 44 = sw_iv G 44 := fZ.2.2.2.2.2 44 (by simp)
      have pst : h_di L cm L.length → sw_iv Z 44 2 = (h_nad L : Nat) ∧ b_is (sw_iv Z 44 11) (fun j => h_rm L (j : Int)) := fun _ => by rw [e44]; exact ⟨s4, s3⟩
      rcases hz with ⟨rfl, hz⟩ | ⟨rfl, hz⟩
      · exact ⟨fun c => absurd c (by decide), fun _ => q 1 Z (Or.inl ⟨rfl, hd, h1, h2, hz⟩) ciZ (c_W_fr hW fZ2 fx) fZ2 pst⟩
      · exact ⟨fun _ => q 0 Z (Or.inr ⟨rfl, fun hc => hz hc.2.2.2⟩) ciZ (c_W_fr hW fZ2 fx) fZ2 pst, fun c => absurd rfl c⟩
    · intro _ _
      refine ⟨fun _ => q 0 G (Or.inr ⟨rfl, fun hc => h1 ⟨hc.2.1, hc.2.2.1⟩⟩) cG WG (f52 fG) (fun _ => ⟨s4, s3⟩), fun c => absurd rfl c⟩
  · refine b_ext (b_1 hcm) (fun j => ?_)
    constructor
    · intro h; exact Or.inl (by rw [h])
    · rintro (h | ⟨c, hc, _⟩)
      · omega
      · simp at hc
  · refine b_ext b_0 (fun j => ?_)
    constructor
    · exact fun h => absurd h (fun h => h)
    · rintro ⟨c, hc, _⟩
      simp at hc
  · rw [e77, c_si_f (by decide), e74, c_si_eq]
    refine b_ext b_0 (fun j => ?_)
    constructor
    · exact fun h => absurd h (fun h => h)
    · rintro ⟨c, hc, _⟩
      simp at hc
  · rw [e77, c_si_eq]; rfl
end
