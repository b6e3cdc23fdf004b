/-! ===== the class: areJoinersRight, areKeysOther ===== -/
noncomputable section
/-- the leaves that stay, from k on -/
def h_st (T : w_T) (R : Nat → Prop) : Nat → Nat → List Nat
  | _, 0 => []
  | k, m + 1 => @ite _ (t_is T k ∧ ¬ R k) (Classical.propDecidable _) (k :: h_st T R (k + 1) m) (h_st T R (k + 1) m)
/-- the key of leaf l behind the UPDATEs -/
def h_kb (T : w_T) : List w_Ch → Nat → Wt
  | [], l => t_ky T (2 * l)
  | c :: L, l => if c.1.1 = 2 ∧ h_go c = (l : Int) then (h_lf c).2.1 else h_kb T L l
/-- the keys that are added -/
def h_ak : List w_Ch → List Wt
  | [] => []
  | c :: L => if c.1.1 = 1 then (h_lf c).2.1 :: h_ak L else h_ak L
def h_nd (ks : List Wt) : Prop := ∀ a b : Nat, b < a → a < ks.length → ks[a]? ≠ ks[b]?
variable {H G Z X : sw_H} {mk mm tl l : List Wt} {ms : List (List Wt)} {nn r ra k o h x y i e mi g : Nat} {K K' : Wt → Prop} {cn cs com : Int} {T T' : w_T} {f : p_L} {Q : sw_H → Prop} {P : Int → sw_H → Prop} {A B : List Nat} {L : List w_Ch} {d : w_Ch} {R J : Nat → Prop}
theorem h_st_1 (c : t_is T k ∧ ¬ R k) {m : Nat} : h_st T R k (m + 1) = k :: h_st T R (k + 1) m := if_pos c
theorem h_st_n (c : ¬ (t_is T k ∧ ¬ R k)) {m : Nat} : h_st T R k (m + 1) = h_st T R (k + 1) m := if_neg c
theorem h_st_len : ∀ m k, (h_st T R k m).length ≤ m
  | 0, _ => Nat.le_refl _
  | m + 1, k => by
    have := h_st_len m (k + 1)
    by_cases c : t_is T k ∧ ¬ R k
    · rw [h_st_1 c, List.length_cons]; omega
    · rw [h_st_n c]; omega
theorem h_drop (hd : L[k]? = some d) : L.drop k = d :: L.drop (k + 1) := by
  have hk := h_lt hd
  rw [List.drop_eq_getElem_cons hk]
  rw [List.getElem?_eq_getElem hk] at hd
  rw [Option.some.inj hd]
theorem c_isRem (hb : b_is (sw_iv H 44 11) R) (hk : k < 24) (q : ∀ z, ((z = 1 ∧ R k) ∨ (z = 0 ∧ ¬ R k)) → P z H) : wm_305 44 k H P := by
  unfold wm_305
  intro v e _
  rw [e]
  refine ⟨fun c => q 0 (Or.inr ⟨rfl, (b_shr hb hk).mp c⟩), fun c => q 1 (Or.inl ⟨rfl, ?_⟩)⟩
  exact Classical.byContradiction (fun g => c ((b_shr hb hk).mpr g))
theorem c_aj_4 {x2 : Int} {a : Nat} (hV : c_V H mk nn K tl cn cs) (ht : c_tr H mk r T) (hlv : ∀ l, t_is T l → 0 ≤ t_ow T l ∧ t_ow T l < 24) (hj : b_is x2 J) (hb : b_is (sw_iv H 44 11) R) (ha : sw_iv H 44 2 = (a : Nat)) (ha2 : a ≤ 32) (q1 : (∀ l, t_is T l → ¬ R l → ¬ J (t_ow T l).toNat) → (h_st T R 0 (2 ^ t_dp T)).length + a ≤ 16 → P 1 H) (q0 : ¬ ((∀ l, t_is T l → ¬ R l → ¬ J (t_ow T l).toNat) ∧ (h_st T R 0 (2 ^ t_dp T)).length + a ≤ 16) → P 0 H) : ∀ (m n k x3 : Nat), m + k = 2 ^ t_dp T → m < n → x3 + (h_st T R k m).length = (h_st T R 0 (2 ^ t_dp T)).length → (∀ l, l < k → t_is T l → ¬ R l → ¬ J (t_ow T l).toNat) → wl_357_4 P n 44 r x2 x3 k H
  | _, 0, _, _, _, h, _, _ => by omega
  | m, n + 1, k, x3, hm, hn, hx, hp => by
    have d16 := t_d_16 ht.2.1.1
    have w31 := t_w_4 ht.2.1.1
    have hsl := h_st_len (T := T) (R := R) (2 ^ t_dp T) 0
    obtain ⟨_, _, _, r1, _, _, s4, tya, s4t, s4l, slf⟩ := ht.1
    have ta := tya 1 (by omega) (by omega)
    unfold wl_357_4
    refine c_leavesX ht ?_
    intro _ _
    refine ⟨fun c => ?_, fun c => ?_⟩
    · have : m = 0 := by omega
      subst this
      have ex : x3 = (h_st T R 0 (2 ^ t_dp T)).length := hx
      intro v10 e10 _
      rw [ha] at e10
      have hall : ∀ l, t_is T l → ¬ R l → ¬ J (t_ow T l).toNat := fun l hl => hp l (by have := hl.1; omega) hl
      rw [e10, sw_w_s (by omega) (by omega)]
      exact ⟨fun c2 => q0 (fun h => by have := h.2; omega), fun c2 => q1 hall (by omega)⟩
    · obtain ⟨m', rfl⟩ : ∃ m', m = m' + 1 := ⟨m - 1, by omega⟩
      have hkw := (t_lf_w T k).mpr (by omega)
      rw [r1, sw_2k (by omega)]
      refine ⟨ta.1, ?_⟩
      intro q14 e14
      rw [e14]
      refine ⟨by omega, by rw [ta.2]; omega, ?_⟩
      intro v17 e17 _
      rw [Int.toNat_natCast] at e17
      have ky := c_ky0 hV.1 ht (x := 2 * k) (by omega)
      rw [← e17] at ky
      have next : ∀ x3' : Nat, x3' + (h_st T R (k + 1) m').length = (h_st T R 0 (2 ^ t_dp T)).length → (t_is T k → ¬ R k → ¬ J (t_ow T k).toNat) → wb_357_32 P (wl_357_4 P n) 44 r x2 x3' k H := fun x3' hx' hq => by
        unfold wb_357_32
        intro y ey
        rw [sw_s1 (by omega)] at ey
        subst ey
        exact c_aj_4 hV ht hlv hj hb ha ha2 q1 q0 m' n (k + 1) x3' (by omega) (by omega) hx' (fun l hl => by
          rcases Nat.lt_or_ge l k with g | g
          · exact hp l g
          · rw [show l = k by omega]; exact hq)
      refine ⟨fun c2 => ?_, fun c2 => ?_⟩
      · have g : t_ky T (2 * k) = [] := (ky.mp c2).resolve_left (by omega)
        have ns : ¬ (t_is T k ∧ ¬ R k) := fun cc => cc.1.2 g
        rw [h_st_n ns] at hx
        exact next x3 hx (fun hi => absurd g hi.2)
      · have g : t_is T k := ⟨by omega, fun g => c2 (ky.mpr (Or.inr g))⟩
        refine c_isRem hb (by omega) (fun z hz => ?_)
        intro _ _
        rcases hz with ⟨rfl, hz⟩ | ⟨rfl, hz⟩
        · refine ⟨fun _ => ?_, fun c => absurd c (by decide)⟩
          have ns : ¬ (t_is T k ∧ ¬ R k) := fun cc => cc.2 hz
          rw [h_st_n ns] at hx
          exact next x3 hx (fun _ hn => absurd hz hn)
        · refine ⟨fun c => absurd rfl c, fun _ => ?_⟩
          rw [h_st_1 ⟨g, hz⟩, List.length_cons] at hx
          intro y25 e25
          rw [sw_s1 (by omega)] at e25
          subst e25
          rw [s4]
          refine ⟨s4t, ?_⟩
          intro q29 e29
          rw [e29]
          refine ⟨by omega, by rw [s4l]; omega, ?_⟩
          rw [Int.toNat_natCast, (slf k (by omega)).1]
          refine ⟨(slf k (by omega)).2, ?_⟩
          intro q32 e32 v35 e35 _
          rw [e32, ((ht.2.2.2.2.2 k hkw g.2).1).1] at e35
          obtain ⟨o1, o2⟩ := hlv k g
          obtain ⟨ow, eo⟩ : ∃ ow : Nat, t_ow T k = ow := ⟨(t_ow T k).toNat, by omega⟩
          rw [eo] at e35
          subst e35
          refine ⟨fun c3 => ?_, fun c3 => q0 (fun hh => ?_)⟩
          · have nj := (b_shr hj (by omega)).mp c3
            exact next (x3 + 1) (by omega) (fun _ _ => by rw [eo, Int.toNat_natCast]; exact nj)
          · have := hh.1 k g hz
            rw [eo, Int.toNat_natCast] at this
            exact c3 ((b_shr hj (by omega)).mpr this)
theorem c_areJoinersRight {x2 : Int} {a : Nat} (hV : c_V H mk nn K tl cn cs) (ht : c_tr H mk r T) (hlv : ∀ l, t_is T l → 0 ≤ t_ow T l ∧ t_ow T l < 24) (hj : b_is x2 J) (hb : b_is (sw_iv H 44 11) R) (ha : sw_iv H 44 2 = (a : Nat)) (ha2 : a ≤ 32) (q1 : (∀ l, t_is T l → ¬ R l → ¬ J (t_ow T l).toNat) → (h_st T R 0 (2 ^ t_dp T)).length + a ≤ 16 → P 1 H) (q0 : ¬ ((∀ l, t_is T l → ¬ R l → ¬ J (t_ow T l).toNat) ∧ (h_st T R 0 (2 ^ t_dp T)).length + a ≤ 16) → P 0 H) : wm_357 44 r x2 H P := by
  unfold wm_357
  exact ⟨2 ^ t_dp T + 1, c_aj_4 hV ht hlv hj hb ha ha2 q1 q0 (2 ^ t_dp T) _ 0 0 (by omega) (by omega) (by omega) (fun l hl => by omega)⟩
theorem c_kb_2 (hci : c_ci H mk K ms L) (ht : c_tr H mk r T) {l : Nat} (hl : t_is T l) : ∀ (m n k : Nat), m + k = L.length → m < n → (∀ z, w_at mk z (h_kb T (L.drop k) l) → P z H) → wl_376_2 P n 44 r l k H
  | _, 0, _, _, h, _ => by omega
  | m, n + 1, k, hm, hn, q => by
    obtain ⟨c0, c3, c4, c5, c6, c7, c8, c9, c12, ct, c47, c51, c52, clf⟩ := hci.1
    have h32 := hci.2.2.1
    have d16 := t_d_16 ht.2.1.1
    have w31 := t_w_4 ht.2.1.1
    have hlw := (t_lf_w T l).mpr hl.1
    have hl1 := hl.1
    obtain ⟨_, _, _, r1, _, _, _, tya, _⟩ := ht.1
    have ta := tya 1 (by omega) (by omega)
    unfold wl_376_2
    intro v5 e5 _
    rw [hci.2.1] at e5
    subst e5
    refine ⟨fun c => ?_, fun c => ?_⟩
    · rw [r1, sw_2k (by omega)]
      refine ⟨ta.1, ?_⟩
      intro q8 e8
      rw [e8]
      refine ⟨by omega, by rw [ta.2]; omega, ?_⟩
      intro v11 e11 _
      rw [Int.toNat_natCast] at e11
      refine q v11 ?_
      rw [List.drop_eq_nil_of_le (by omega), e11]
      exact w_az_at (ht.2.2.2.1 (2 * l) hlw).1 hl.2
    · obtain ⟨m', rfl⟩ : ∃ m', m = m' + 1 := ⟨m - 1, by omega⟩
      obtain ⟨d, hd⟩ := h_get (L := L) (k := k) (by omega)
      obtain ⟨l45, l46, l49, lok, lfl, llf, _⟩ := hci.2.2.2 k d hd
      rw [h_drop hd] at q
      unfold h_kb at q
      have next : ¬ (d.1.1 = 2 ∧ h_go d = (l : Int)) → wb_376_24 P (wl_376_2 P n) 44 r l k H := fun hx => by
        unfold wb_376_24
        intro y ey
        rw [sw_s1 (by omega)] at ey
        subst ey
        rw [if_neg hx] at q
        exact c_kb_2 hci ht hl m' n (k + 1) (by omega) (by omega) q
      rw [c3]
      refine ⟨(ct 45 (by omega)).1, ?_⟩
      intro q14 e14
      rw [e14]
      refine ⟨by omega, by rw [(ct 45 (by omega)).2]; omega, ?_⟩
      intro v17 e17 _
      rw [Int.toNat_natCast, l45] at e17
      subst e17
      refine ⟨fun c2 => next (fun cc => c2 cc.1), fun c2 => ?_⟩
      rw [c7]
      refine ⟨(ct 49 (by omega)).1, ?_⟩
      intro q20 e20
      rw [e20]
      refine ⟨by omega, by rw [(ct 49 (by omega)).2]; omega, ?_⟩
      intro v23 e23 _
      rw [Int.toNat_natCast, l49] at e23
      subst e23
      refine ⟨fun c4 => next (fun cc => c4 cc.2), fun c4 => ?_⟩
      rw [c9]
      refine ⟨c51.1, ?_⟩
      intro q26 e26
      rw [e26]
      refine ⟨by omega, by rw [c51.2]; omega, ?_⟩
      rw [Int.toNat_natCast, (clf k (by omega)).1]
      refine ⟨(clf k (by omega)).2, ?_⟩
      intro q29 e29 v32 e32 _
      rw [if_pos ⟨c2, c4⟩] at q
      refine q v32 ?_
      rw [e32, e29]
      exact (llf (by omega)).1.2.1
theorem c_keyBehind (hci : c_ci H mk K ms L) (ht : c_tr H mk r T) {l : Nat} (hl : t_is T l) (q : ∀ z, w_at mk z (h_kb T L l) → P z H) : wm_376 44 r l H P := by
  unfold wm_376
  exact ⟨L.length + 1, c_kb_2 hci ht hl L.length _ 0 (by omega) (by omega) q⟩
/-- the keys so far -/
def c_ks (H : sw_H) (mk : List Wt) (ks : List Wt) : Prop := ks.length ≤ 16 ∧ ∀ (i : Nat) (w : Wt), ks[i]? = some w → w_at mk (sw_iv H 52 i) w
theorem c_ks_s {w : Wt} {z : Int} {ks : List Wt} (h : c_ks H mk ks) (hl : ks.length < 16) (hw : w_at mk z w) : c_ks (sw_si H 52 ks.length z) mk (ks ++ [w]) := by
  refine ⟨by simp; omega, fun i v hi => ?_⟩
  rw [List.getElem?_append] at hi
  by_cases c : i < ks.length
  · rw [if_pos c] at hi
    rw [c_si_f (by omega)]
    exact h.2 i v hi
  · rw [if_neg c] at hi
    have ei : i = ks.length := by
      rcases Nat.eq_or_lt_of_le (Nat.le_of_not_lt c) with e | e
      · exact e.symm
      · rw [List.getElem?_eq_none (by simp; omega)] at hi; cases hi
    subst ei
    rw [Nat.sub_self] at hi
    cases hi
    rw [c_si_eq]
    exact hw
theorem c_ko_64 {k59 : Nat → Int → Int → sw_H → Prop} {ks : List Wt} (nd : mk.Nodup) (hc : c_Ch H) (hk : c_ks H mk ks) {a : Nat} (ha : a < ks.length) (q1 : (∀ b, b < a → ks[a]? ≠ ks[b]?) → k59 44 (ks.length : Nat) ((a + 1 : Nat) : Int) H) (q0 : (¬ ∀ b, b < a → ks[a]? ≠ ks[b]?) → P 0 H) : ∀ (n b : Nat), b ≤ a → a - b < n → (∀ j, j < b → ks[a]? ≠ ks[j]?) → wl_358_64 P k59 n 44 (ks.length : Nat) a b H
  | 0, _, _, h, _ => by omega
  | n + 1, b, hb, hn, hp => by
    have c12 := hc.2.2.2.2.2.2.2.2.1
    have c52 := hc.2.2.2.2.2.2.2.2.2.2.2.2.1
    have h16 := hk.1
    unfold wl_358_64
    refine ⟨fun c => ?_, fun c => ?_⟩
    · intro y ey
      rw [sw_s1 (by omega)] at ey
      subst ey
      exact q1 (fun j hj => hp j (by omega))
    · rw [c12]
      refine ⟨c52.1, ?_⟩
      intro q5 e5
      rw [e5]
      refine ⟨by omega, by rw [c52.2]; omega, ?_⟩
      intro v8 e8 _
      refine ⟨c52.1, ?_⟩
      intro q11 e11
      rw [e11]
      refine ⟨by omega, by rw [c52.2]; omega, ?_⟩
      intro v14 e14 _
      rw [Int.toNat_natCast] at e8 e14
      have ga := List.getElem?_eq_getElem ha
      have gb := List.getElem?_eq_getElem (show b < ks.length by omega)
      have wa := hk.2 a _ ga
      have wb := hk.2 b _ gb
      rw [← e8] at wa
      rw [← e14] at wb
      refine ⟨fun c2 => ?_, fun c2 => q0 (fun hh => hh b (by omega) ?_)⟩
      · intro y ey
        rw [sw_s1 (by omega)] at ey
        subst ey
        exact c_ko_64 nd hc hk ha q1 q0 n (b + 1) (by omega) (by omega) (fun j hj => by
          rcases Nat.lt_or_ge j b with g | g
          · exact hp j g
          · rw [show j = b by omega, ga, gb]
            intro cc
            have cc := Option.some.inj cc
            rw [cc] at wa
            exact c2 (w_at_inj nd wa wb))
      · rw [ga, gb]
        rw [c2] at wa
        rw [w_at_fun wa wb]
theorem c_ko_59 {ks : List Wt} (nd : mk.Nodup) (hc : c_Ch H) (hk : c_ks H mk ks) (q1 : h_nd ks → P 1 H) (q0 : ¬ h_nd ks → P 0 H) : ∀ (n a : Nat), a ≤ ks.length → ks.length - a < n → (∀ i b, i < a → b < i → ks[i]? ≠ ks[b]?) → wl_358_59 P n 44 (ks.length : Nat) a H
  | 0, _, _, h, _ => by omega
  | n + 1, a, ha, hn, hp => by
    unfold wl_358_59
    refine ⟨fun c => q1 (fun i b hb hi => hp i b (by omega) hb), fun c => ?_⟩
    refine ⟨a + 1, c_ko_64 nd hc hk (a := a) (by omega) (fun h1 => ?_) (fun h1 => q0 (fun hh => h1 (fun b hb => hh a b hb (by omega)))) _ 0 (by omega) (by omega) (fun j hj => by omega)⟩
    exact c_ko_59 nd hc hk q1 q0 n (a + 1) (by omega) (by omega) (fun i b hi => by
      rcases Nat.lt_or_ge i a with g | g
      · exact hp i b g
      · rw [show i = a by omega]; exact h1 b)
theorem c_ko_32 (nd : mk.Nodup) : ∀ (m n k : Nat) {H : sw_H} {ks : List Wt}, c_ci H mk K ms L → c_ks H mk ks → m + k = L.length → m < n → ks.length + (h_ak (L.drop k)).length ≤ 16 → (∀ G, c_fr [52] H G → (h_nd (ks ++ h_ak (L.drop k)) → P 1 G) ∧ (¬ h_nd (ks ++ h_ak (L.drop k)) → P 0 G)) → wl_358_32 P n 44 (ks.length : Nat) k H
  | _, 0, _, _, _, _, _, _, h, _, _ => by omega
  | m, n + 1, k, H, ks, hci, hk, hm, hn, h16, q => by
    obtain ⟨c0, c3, c4, c5, c6, c7, c8, c9, c12, ct, c47, c51, c52, clf⟩ := hci.1
    have h32 := hci.2.2.1
    unfold wl_358_32
    intro v31 e31 _
    rw [hci.2.1] at e31
    subst e31
    refine ⟨fun c => ?_, fun c => ?_⟩
    · rw [List.drop_eq_nil_of_le (by omega)] at q
      have qq := q H (c_fr_refl _ _)
      have e0 : ks ++ h_ak [] = ks := List.append_nil _
      rw [e0] at qq
      exact ⟨ks.length + 1, c_ko_59 nd hci.1 hk qq.1 qq.2 _ 0 (by omega) (by omega) (fun i b hi => by omega)⟩
    · obtain ⟨m', rfl⟩ : ∃ m', m = m' + 1 := ⟨m - 1, by omega⟩
      obtain ⟨d, hd⟩ := h_get (L := L) (k := k) (by omega)
      obtain ⟨l45, l46, l49, lok, lfl, llf, _⟩ := hci.2.2.2 k d hd
      rw [h_drop hd] at q h16
      unfold h_ak at q h16
      rw [c3]
      refine ⟨(ct 45 (by omega)).1, ?_⟩
      intro q37 e37
      rw [e37]
      refine ⟨by omega, by rw [(ct 45 (by omega)).2]; omega, ?_⟩
      intro v40 e40 _
      rw [Int.toNat_natCast, l45] at e40
      subst e40
      refine ⟨fun c1 => ?_, fun c1 => ?_⟩
      · rw [if_neg c1] at q h16
        unfold wb_358_55
        intro y ey
        rw [sw_s1 (by omega)] at ey
        subst ey
        exact c_ko_32 nd m' n (k + 1) hci hk (by omega) (by omega) h16 q
      · rw [if_pos c1] at q h16
        rw [List.length_cons] at h16
        refine ⟨fun c2 => by omega, fun c2 => ?_⟩
        rw [c12]
        refine ⟨c52.1, ?_⟩
        intro q43 e43
        rw [c9]
        refine ⟨c51.1, ?_⟩
        intro q46 e46
        rw [e46]
        refine ⟨by omega, by rw [c51.2]; omega, ?_⟩
        rw [Int.toNat_natCast, (clf k (by omega)).1]
        refine ⟨(clf k (by omega)).2, ?_⟩
        intro q49 e49 v52 e52 _
        rw [e43]
        refine ⟨by omega, by rw [c52.2]; omega, ?_⟩
        intro H55 e55
        rw [Int.toNat_natCast] at e55
        have wv := (llf (by omega)).1.2.1
        rw [e49] at e52
        rw [← e52] at wv
        have k55 : c_ks H55 mk (ks ++ [(h_lf d).2.1]) := by rw [e55]; exact c_ks_s hk (by omega) wv
        have f55 : c_fr [52] H H55 := by rw [e55]; exact c_fr_si _ _ _ _
        intro y58 e58
        rw [sw_s1 (by omega)] at e58
        subst e58
        unfold wb_358_55
        intro y ey
        rw [sw_s1 (by omega)] at ey
        subst ey
        have el : ((ks.length + 1 : Nat) : Int) = (((ks ++ [(h_lf d).2.1]).length : Nat) : Int) := by simp
        rw [el]
        refine c_ko_32 nd m' n (k + 1) (c_ci_fr hci f55 (fun a ha => by simp at ha; omega)) k55 (by omega) (by omega) (by simp; omega) (fun G fG => ?_)
        have qq := q G (c_fr_t f55 fG)
        rw [List.append_assoc, List.singleton_append]
        exact qq
end
