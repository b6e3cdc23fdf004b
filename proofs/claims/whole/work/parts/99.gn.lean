/-! ===== the class: Path.plan, to its end ===== -/
noncomputable section
variable {H G Z X : sw_H} {mk mm tl : List Wt} {nn r k o h l x y g n : Nat} {K : Wt → Prop} {cn cs msk : Int} {T T' : w_T} {Q : sw_H → Prop} {P : Int → sw_H → Prop} {A : List Nat} {rs hs : List Nat}
theorem c_putSealed (hPa : c_Pa H) (hm : sw_c msk) (r31 : ∀ y ∈ rs, y < 32) (rl : rs.length ≤ 144) (hrz : c_rz H 93 rs) {p0 ln : Nat} (hp : p0 + rs.length ≤ 576) (hln : sw_iv H 85 0 = (ln : Nat)) (l4 : ln < 4) (h0 : sw_iv H 91 ln = (p0 : Nat))
    (q : ∀ G, c_fr [91, 92] H G → sw_iv G 91 (ln + 1) = ((p0 + (rs.filter (w_keep msk)).length : Nat) : Int) → (∀ i, i ≠ ln + 1 → sw_iv G 91 i = sw_iv H 91 i) → (∀ i, i < p0 → sw_iv G 92 i = sw_iv H 92 i) → (∀ i v, (rs.filter (w_keep msk))[i]? = some v → sw_iv G 92 (p0 + i) = (v : Nat)) → Q G) : wm_361 85 (rs.length : Nat) msk H Q := by
  have PH := hPa
  obtain ⟨h1, h2, h3, h4, h5, h6, h7, h8, h9⟩ := PH
  unfold wm_361
  rw [h3]
  refine ⟨h6.1, ?_⟩
  intro q47 e47 v50 e50 _
  rw [hln] at e50
  subst e50
  rw [e47]
  refine ⟨by omega, by rw [h6.2]; omega, ?_⟩
  intro v53 e53 _
  rw [Int.toNat_natCast, h0] at e53
  subst e53
  exact ⟨rs.length + 1, c_ps_8 hPa hm r31 rl hrz hp hln l4 q (rs.length + 1) 0 (c_fr_refl _ _) (fun _ _ => rfl) (fun i v hv => by simp at hv) (Nat.zero_le _) (by omega)⟩
theorem w_sq_s : w_sq T msk l (hs ++ [k]) = w_sq T msk l hs ++ w_rq T msk l k := by
  unfold w_sq
  rw [List.flatMap_append, List.flatMap_cons, List.flatMap_nil, List.append_nil]
theorem w_sq_len (ht : t_ok T) (hl : l < 2 ^ t_dp T) : ∀ hs : List Nat, (∀ k ∈ hs, k < t_dp T) → (w_sq T msk l hs).length ≤ 136 * hs.length
  | [], _ => Nat.le_refl _
  | k :: hs, h => by
    have ih := w_sq_len ht hl hs (fun j hj => h j (List.mem_cons_of_mem _ hj))
    have a := w_rq_len (msk := msk) ht hl (h k (List.mem_cons_self ..))
    have e : w_sq T msk l (k :: hs) = w_rq T msk l k ++ w_sq T msk l hs := List.flatMap_cons
    rw [e, List.length_append, List.length_cons]
    omega
theorem t_ab_2 : ∀ l : Fin 16, ∀ k : Fin 4, t_ab l.val k.val ≤ 2 * t_ab l.val (k.val + 1) ∧ t_ab l.val (k.val + 1) < 31 := by decide +kernel
/-- one more height -/
theorem c_pk2_s {hs : List Nat} (h : c_pk2 H T msk l hs) {z1 z2 : Int} (e1 : z1 = ((t_ab l (k + 1) : Nat) : Int)) (e2 : z2 = ((t_si l k : Nat) : Int))
    (g85 : sw_iv G 85 0 = ((hs.length + 1 : Nat) : Int)) (g86 : ∀ i, sw_iv G 86 i = if i = hs.length then z1 else sw_iv H 86 i) (g87 : ∀ i, sw_iv G 87 i = if i = hs.length then z2 else sw_iv H 87 i)
    (g91 : sw_iv G 91 (hs.length + 1) = (((w_sq T msk l hs).length + (w_rq T msk l k).length : Nat) : Int)) (g91' : ∀ i, i ≠ hs.length + 1 → sw_iv G 91 i = sw_iv H 91 i) (g92 : ∀ i, i < (w_sq T msk l hs).length → sw_iv G 92 i = sw_iv H 92 i) (g92' : ∀ i v, (w_rq T msk l k)[i]? = some v → sw_iv G 92 ((w_sq T msk l hs).length + i) = (v : Nat)) : c_pk2 G T msk l (hs ++ [k]) := by
  obtain ⟨h1, h2, h3, h4⟩ := h
  refine ⟨by rw [g85, List.length_append, List.length_singleton], fun i j hj => ?_, fun i hi => ?_, fun p v hv => ?_⟩
  · by_cases c : i < hs.length
    · rw [List.getElem?_append_left c] at hj
      rw [g86, g87, if_neg (by omega), if_neg (by omega)]
      exact h2 i j hj
    · rw [List.getElem?_append_right (by omega)] at hj
      have ei : i - hs.length = 0 := by
        rcases Nat.lt_or_ge (i - hs.length) 1 with g | g
        · omega
        · rw [List.getElem?_eq_none (by simp; omega)] at hj
          exact absurd hj (by simp)
      rw [ei] at hj
      injection hj with hj
      have ei2 : i = hs.length := by omega
      rw [g86, g87, if_pos ei2, if_pos ei2, ← hj]
      exact ⟨e1, e2⟩
  · rw [List.length_append, List.length_singleton] at hi
    by_cases c : i = hs.length + 1
    · rw [c, g91]
      have : (hs ++ [k]).take (hs.length + 1) = hs ++ [k] := List.take_of_length_le (by simp)
      rw [this, w_sq_s, List.length_append]
    · have : (hs ++ [k]).take i = hs.take i := List.take_append_of_le_length (by omega)
      rw [this, g91' i c]
      exact h3 i (by omega)
  · rw [w_sq_s] at hv
    by_cases c : p < (w_sq T msk l hs).length
    · rw [List.getElem?_append_left c] at hv
      rw [g92 p c]
      exact h4 p v hv
    · rw [List.getElem?_append_right (by omega)] at hv
      have := g92' _ v hv
      have e : (w_sq T msk l hs).length + (p - (w_sq T msk l hs).length) = p := by omega
      rw [e] at this
      exact this
theorem c_pn_5 (hl : l < 2 ^ t_dp T) (hr : 93 < r) (hm : sw_c msk) (q : ∀ G, c_pk2 G T msk l (t_wl T l (t_dp T)) → c_fr [85, 86, 87, 91, 92, 93] H G → (∀ f, f ≠ 0 → sw_iv G 85 f = sw_iv H 85 f) → Q G) : ∀ (n k : Nat) {G : sw_H}, c_V G mk nn K tl cn cs → c_tr G mk r T → c_Pa G → c_pk2 G T msk l (t_wl T l k) → c_fr [85, 86, 87, 91, 92, 93] H G → (∀ f, f ≠ 0 → sw_iv G 85 f = sw_iv H 85 f) → k ≤ t_dp T → t_dp T - k < n → wl_288_5 Q n 85 r l msk ((k + 1 : Nat) : Int) G
  | 0, _, _, _, _, _, _, _, _, _, h => by omega
  | n + 1, k, G, hV, ht, hPa, hp, fG, e6, hk, hn => by
    have d4 := ht.2.1.1
    have d16 := t_d_16 d4
    have r1 := ht.1.2.1
    unfold wl_288_5
    intro v5 e5 _
    rw [ht.2.2.1] at e5
    subst e5
    refine ⟨fun c => ?_, fun c => ?_⟩
    · have ek : k = t_dp T := by omega
      rw [ek] at hp
      exact q G hp fG e6
    · have hk2 : k < t_dp T := by omega
      obtain ⟨s1, s2, s3, s4, _, _⟩ := t_si_ok d4 hl hk2
      obtain ⟨b1, b2⟩ := t_ab_2 ⟨l, by omega⟩ ⟨k, by omega⟩
      have b1 : t_ab l k ≤ 2 * t_ab l (k + 1) := b1
      have b2 : t_ab l (k + 1) < 31 := b2
      have p2k : 0 < 2 ^ k := Nat.two_pow_pos _
      have w31 := t_w_4 d4
      refine c_above (f := l) (k := k + 1) (by omega) (by omega) ?_
      intro _ _
      have ek1 : sw_w (((k + 1 : Nat) : Int) - 1) = ((k : Nat) : Int) := by rw [sw_w_s (by omega) (by omega)]; omega
      rw [ek1]
      refine c_above (f := l) (k := k) (by omega) (by omega) ?_
      intro _ _ y21 e21
      have ey : y21 = ((t_si l k : Nat) : Int) := by
        rw [e21]
        show sw_w (sw_w (2 * ((t_ab l (k + 1) : Nat) : Int)) - ((t_ab l k : Nat) : Int)) = _
        rw [sw_w_s (z := 2 * ((t_ab l (k + 1) : Nat) : Int)) (by omega) (by omega), sw_w_s (by omega) (by omega)]
        unfold t_si
        omega
      clear e21
      subst ey
      have PG := hPa
      obtain ⟨p1, p2, p3, p4, p5, p6, p7, p8, p9⟩ := PG
      rw [p5]
      refine ⟨p8, ?_⟩
      intro q25 e25
      rw [e25]
      refine c_resolution (x := t_si l k) (by unfold c_fix; omega) (Or.inl hr) hV ht p9 (by omega) (fun Z rz fZ => ?_)
      rw [s1] at rz ⊢
      intro _ _
      have VZ := c_V_fr hV fZ (fun a ha => by simp at ha; unfold c_fix; omega)
      have tZ := c_tr_fr hV ht fZ (fun a ha => by simp at ha; unfold c_fix; omega)
      have PZ := c_Pa_fr hPa fZ
      have kZ := c_pk2_fr hp fZ (fun a ha => by simp at ha; omega)
      have e6Z : ∀ f, f ≠ 0 → sw_iv Z 85 f = sw_iv H 85 f := fun f hf => by rw [fZ.2.2.2.2.2 85 (by decide)]; exact e6 f hf
      have fZ2 : c_fr [85, 86, 87, 91, 92, 93] H Z := c_fr_t fG (c_fr_sub fZ (by simp))
      refine ⟨fun c2 => ?_, fun c2 => ?_⟩
      · have e0 : w_rs T k (t_si l k) = [] := List.length_eq_zero_iff.mp (by omega)
        have c0 : t_cb T l k = 0 := by unfold t_cb; rw [if_pos e0]
        unfold wb_288_53
        intro y1 ey1
        rw [sw_s1 (by omega)] at ey1
        subst ey1
        exact c_pn_5 hl hr hm q n (k + 1) VZ tZ PZ (by rw [t_wl_0 c0]; exact kZ) fZ2 e6Z (by omega) (by omega)
      · have e0 : w_rs T k (t_si l k) ≠ [] := fun c3 => by rw [c3] at c2; exact absurd c2 (by decide)
        have c0 : t_cb T l k ≠ 0 := by unfold t_cb; rw [if_neg e0]; decide
        have rs136 : (w_rs T k (t_si l k)).length ≤ 136 := by
          have := w_rs_136 ht.2.1 (x := t_si l k) (by rw [s1]; exact s3)
          rw [s1] at this
          exact this
        have r32 := w_rs_lt ht.2.1 k (t_si l k) s1 s3
        have wll := t_wl_len (T := T) (l := l) k
        have sql := w_sq_len (msk := msk) ht.2.1 hl (t_wl T l k) (fun j hj => by have := (t_wl_m k).mp hj; omega)
        obtain ⟨k1, k2, k3, k4⟩ := kZ
        obtain ⟨p1, p2, p3, p4, p5, p6, p7, p8, p9⟩ := PZ
        rw [(p2 1 (by decide) (by decide)).1]
        refine ⟨(p2 1 (by decide) (by decide)).2.1, ?_⟩
        intro q36 e36 v39 e39 _
        rw [k1] at e39
        subst e39
        rw [e36]
        refine ⟨by omega, by rw [(p2 1 (by decide) (by decide)).2.2]; omega, ?_⟩
        intro Y eY
        rw [Int.toNat_natCast] at eY
        have fY : c_fr [86] Z Y := by rw [eY]; exact c_fr_si _ _ _ _
        have PY := c_Pa_fr ⟨p1, p2, p3, p4, p5, p6, p7, p8, p9⟩ fY
        rw [(PY.2.1 2 (by decide) (by decide)).1]
        refine ⟨(PY.2.1 2 (by decide) (by decide)).2.1, ?_⟩
        intro q45 e45 v48 e48 _
        rw [fY.2.2.2.2.2 85 (by decide), k1] at e48
        subst e48
        rw [e45]
        refine ⟨by omega, by rw [(PY.2.1 2 (by decide) (by decide)).2.2]; omega, ?_⟩
        intro W eW
        rw [Int.toNat_natCast] at eW
        have fW : c_fr [87] Y W := by rw [eW]; exact c_fr_si _ _ _ _
        have PW := c_Pa_fr PY fW
        have w85 : sw_iv W 85 = sw_iv Z 85 := by rw [fW.2.2.2.2.2 85 (by decide), fY.2.2.2.2.2 85 (by decide)]
        have w91 : sw_iv W 91 = sw_iv Z 91 := by rw [fW.2.2.2.2.2 91 (by decide), fY.2.2.2.2.2 91 (by decide)]
        have w92 : sw_iv W 92 = sw_iv Z 92 := by rw [fW.2.2.2.2.2 92 (by decide), fY.2.2.2.2.2 92 (by decide)]
        have w93 : sw_iv W 93 = sw_iv Z 93 := by rw [fW.2.2.2.2.2 93 (by decide), fY.2.2.2.2.2 93 (by decide)]
        have w86 : ∀ i, sw_iv W 86 i = if i = (t_wl T l k).length then ((t_ab l (k + 1) : Nat) : Int) else sw_iv Z 86 i := fun i => by
          rw [fW.2.2.2.2.2 86 (by decide), eY]
          by_cases ci : i = (t_wl T l k).length
          · rw [if_pos ci, ci, c_si_eq]; rfl
          · rw [if_neg ci, c_si_f ci]
        have w87 : ∀ i, sw_iv W 87 i = if i = (t_wl T l k).length then ((t_si l k : Nat) : Int) else sw_iv Z 87 i := fun i => by
          rw [eW]
          by_cases ci : i = (t_wl T l k).length
          · rw [if_pos ci, ci, c_si_eq]
          · rw [if_neg ci, c_si_f ci, fY.2.2.2.2.2 87 (by decide)]
        clear eW eY
        have l91 : sw_iv W 91 (t_wl T l k).length = ((w_sq T msk l (t_wl T l k)).length : Nat) := by
          have := k3 (t_wl T l k).length (Nat.le_refl _)
          rw [List.take_length] at this
          rw [w91]; exact this
        refine c_putSealed (rs := w_rs T k (t_si l k)) (p0 := (w_sq T msk l (t_wl T l k)).length) (ln := (t_wl T l k).length) PW hm r32 (by omega) (fun i v hv => by rw [w93]; exact rz i v hv) (by omega) (by rw [w85]; exact k1) (by omega) l91 (fun B fB b1 b2 b3 b4 => ?_)
        intro _ v59 e59 _ C eC
        rw [fB.2.2.2.2.2 85 (by decide), w85, k1] at e59
        subst e59
        rw [sw_s1 (by omega)] at eC
        have fC : c_fr [85] B C := by rw [eC]; exact c_fr_si _ _ _ _
        have c6 : ∀ f, f ≠ 0 → sw_iv C 85 f = sw_iv H 85 f := fun f hf => by
          rw [eC, c_si_f hf, fB.2.2.2.2.2 85 (by decide), w85]
          exact e6Z f hf
        have c85 : sw_iv C 85 0 = (((t_wl T l k).length + 1 : Nat) : Int) := by rw [eC, c_si_eq]
        clear eC
        have nC : ∀ a, a ≠ 85 → sw_iv C a = sw_iv B a := fun a ha => fC.2.2.2.2.2 a (by simp; exact ha)
        have kC : c_pk2 C T msk l (t_wl T l k ++ [k]) := c_pk2_s (H := Z) (z1 := ((t_ab l (k + 1) : Nat) : Int)) (z2 := ((t_si l k : Nat) : Int)) ⟨k1, k2, k3, k4⟩ rfl rfl c85 (fun i => by rw [nC 86 (by decide), fB.2.2.2.2.2 86 (by decide)]; exact w86 i) (fun i => by rw [nC 87 (by decide), fB.2.2.2.2.2 87 (by decide)]; exact w87 i) (by rw [nC 91 (by decide)]; exact b1) (fun i hi => by rw [nC 91 (by decide), b2 i hi, w91]) (fun i hi => by rw [nC 92 (by decide), b3 i hi, w92]) (fun i v hv => by rw [nC 92 (by decide)]; exact b4 i v hv)
        have F : c_fr [85, 86, 87, 91, 92, 93] Z C := c_fr_t (c_fr_sub fY (by simp)) (c_fr_t (c_fr_sub fW (by simp)) (c_fr_t (c_fr_sub fB (by simp)) (c_fr_sub fC (by simp))))
        unfold wb_288_53
        intro y1 ey1
        rw [sw_s1 (by omega)] at ey1
        subst ey1
        exact c_pn_5 hl hr hm q n (k + 1) (c_V_fr VZ F (fun a ha => by simp at ha; unfold c_fix; omega)) (c_tr_fr VZ tZ F (fun a ha => by simp at ha; unfold c_fix; omega)) (c_Pa_fr ⟨p1, p2, p3, p4, p5, p6, p7, p8, p9⟩ F) (by rw [t_wl_1 c0]; exact kC) (c_fr_t fZ2 F) c6 (by omega) (by omega)
theorem c_plan (hV : c_V H mk nn K tl cn cs) (ht : c_tr H mk r T) (hr : 93 < r) (hPa : c_Pa H) (hm : sw_c msk) (hl : l < 2 ^ t_dp T) (h91 : sw_iv H 91 0 = 0) (q : ∀ G, c_pk2 G T msk l (t_wl T l (t_dp T)) → c_fr [85, 86, 87, 91, 92, 93] H G → (∀ f, f ≠ 0 → sw_iv G 85 f = sw_iv H 85 f) → Q G) : wm_288 85 r l msk H Q := by
  have r1 := ht.1.2.1
  unfold wm_288
  intro Z eZ
  have fZ : c_fr [85] H Z := by rw [eZ]; exact c_fr_si _ _ _ _
  have z0 : sw_iv Z 85 0 = 0 := by rw [eZ, c_si_eq]
  have z6 : ∀ f, f ≠ 0 → sw_iv Z 85 f = sw_iv H 85 f := fun f hf => by rw [eZ, c_si_f hf]
  clear eZ
  refine ⟨t_dp T + 1, c_pn_5 (H := H) hl hr hm q (t_dp T + 1) 0 (c_V_fr hV fZ (fun a ha => by simp at ha; unfold c_fix; omega)) (c_tr_fr hV ht fZ (fun a ha => by simp at ha; unfold c_fix; omega)) (c_Pa_fr hPa fZ) ⟨z0, fun i j hj => by simp [t_wl] at hj, fun i hi => ?_, fun p v hv => by simp [t_wl, w_sq] at hv⟩ (c_fr_sub fZ (by simp)) z6 (Nat.zero_le _) (by omega)⟩
  have : i = 0 := Nat.le_zero.mp hi
  rw [this, fZ.2.2.2.2.2 91 (by decide)]
  exact h91
end
