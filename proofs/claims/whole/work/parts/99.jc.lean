/-! ===== the class: simple calls, by the whole state ===== -/
noncomputable section
section
variable {H Z : sw_H} {nn : Nat} {K : Wt → Prop} {tl tp mk l : List Wt} {rd : Nat → Int} {ms : List (List Wt)} {cn cs : Int} {La : Nat → List (Wt × Nat)}
theorem c_KS_post (hV : c_V H mk nn K tl cn cs) (hX : c_X H mk tp rd ms) (hK : c_KS H mk ms La) (k : c_ch [2, 1416, 1417] H Z) (hnw : c_nwm H Z ms.length) : c_KS Z mk (ms ++ [l]) La := by
  have fl := hV.2.2.2.1
  have ad := hV.2.2.2.2
  obtain ⟨w1, w2, w3⟩ := hnw
  have memv : ∀ m, m < 24 → (∀ f, sw_iv Z (120 + 54 * m) f = sw_iv H (120 + 54 * m) f) ∧ ∀ f, sw_rv Z (120 + 54 * m) f = sw_rv H (120 + 54 * m) f := fun m hm => c_fx_iv fl ad k (by unfold c_fix; omega) (by simp; omega)
  have ka : ∀ m f, m < 24 → c_ka Z m f = c_ka H m f := fun m f hm => (memv m hm).2 f
  refine ⟨fun m hm => ?_, ?_, ?_⟩
  · obtain ⟨kp, p1, p2, p3⟩ := hK.1 m hm
    obtain ⟨⟨t7, t8⟩, e1, e2, e3, ⟨o7, o8⟩, l7, l8⟩ := kp
    have n7 : sw_ty H (c_ka H m 7) ≠ 0 := by rw [t7]; decide
    have n8 : sw_ty H (c_ka H m 8) ≠ 0 := by rw [t8]; decide
    have s7 := k.1.2 _ n7
    have s8 := k.1.2 _ n8
    have i7 := (k.2.1 _ n7 o7 (by simp; omega)).1
    have i8 := (k.2.1 _ n8 o8 (by simp; omega)).1
    refine ⟨?_, ?_⟩
    · unfold c_kp
      rw [ka m 7 hm, ka m 8 hm, s7.1, s7.2, s8.1, s8.2]
      exact ⟨⟨t7, t8⟩, e1, e2, e3, ⟨c_ch_no k n7 o7, c_ch_no k n8 o8⟩, l7, l8⟩
    · unfold c_pp
      rw [ka m 7 hm, ka m 8 hm, s8.2, (memv m hm).1 9]
      refine ⟨p1, p2, fun i kk h hi => ?_⟩
      rw [i7, i8]
      exact p3 i kk h hi
  · intro m m' f f' hm hm' hf hf' e
    rw [ka m f hm, ka m' f' hm'] at e
    exact hK.2.1 m m' f f' hm hm' hf hf' e
  · intro m f i hm hf hi
    rw [List.length_append] at hi
    simp at hi
    rw [ka m f hm]
    have ty : sw_ty H (c_ka H m f) ≠ 0 := by
      obtain ⟨kp, _⟩ := hK.1 m hm
      rcases hf with e | e
      · rw [e, kp.1.1]; decide
      · rw [e, kp.1.2]; decide
    by_cases ci : i = ms.length
    · subst ci
      intro e
      rw [e, w3] at ty
      exact ty rfl
    · rw [w1 i ci]
      obtain ⟨l, hl⟩ : ∃ l, ms[i]? = some l := ⟨ms[i]'(by omega), List.getElem?_eq_getElem (by omega)⟩
      obtain ⟨g1, g2, _, a, _, _, s, q, _⟩ := hX.2.2.2.2.2 i l hl
      have tr : sw_ty H (sw_rv H 1416 i) ≠ 0 := by rw [q.1]; decide
      rw [(k.2.1 _ tr g2 (by simp; omega)).2 0]
      exact hK.2.2 m f i hm hf (by omega)
end
section
variable {H G X : sw_H} {d e f : Nat → Wt} {nn nm m t : Nat} {K K' : Wt → Prop} {tl tl' tp tp' mk mm : List Wt} {rd rd' : Nat → Int} {ms ms' : List (List Wt)} {cn cs cn' cs' x y z N U M : Int} {A : List Nat} {B : Nat → v_M} {Q : sw_H → Prop} {P : Int → sw_H → Prop} {E : Nat → sw_H → Prop} {w : Wt}
theorem c_ZZ_I (h : c_ZZ H mk nn K tl cn cs tp rd ms B) : c_I H (w_d mk) nn K tl tp rd ms cn cs := ⟨h.1.1.1.1.1, h.1.1.1.2.1, h.1.1.1.2.2.1, h.1.1.1.2.2.2.1, h.1.1.1.2.2.2.2, h.1.2.1.1, h.1.2.1.2.1, h.1.2.1.2.2.1, h.1.2.1.2.2.2⟩
theorem c_ZZ_nu (h : c_ZZ H mk nn K tl cn cs tp rd ms B) (n : c_nu H G) : c_n G = mk.length ∧ sw_iv G 3 4 = w_tot mk := ⟨n.1.trans h.1.1.1.1.2.1, n.2.trans h.1.1.1.1.2.2⟩
/-- a cell of the object, of the messages, of the tape, of the bytes that are ready -/
def c_io (a : Nat) : Prop := a = 2 ∨ (1416 ≤ a ∧ a ≤ 1419)
theorem c_ZZ_K (h : c_ZZ H mk nn K tl cn cs tp rd ms B) (c : c_ch A H G) (hA : ∀ a ∈ A, c_io a ∧ a ≠ 1416) (hl : w_le mk mm) : c_KS G mm ms (fun m => v_La (B m)) := by
  obtain ⟨h1, h2, h3, h4⟩ := h.1
  have fl := h1.1.2.2.2.1
  have ad := h1.1.2.2.2.2
  refine c_KS_ch h1.1 h2 h4 c hl (fun cc => (hA _ cc).2 rfl) (fun m hm => ?_) (fun i hi cc => ?_)
  · obtain ⟨e1, e2⟩ := c_fx_iv fl ad c (q := 120 + 54 * m) (by unfold c_fix; omega) (fun cc => by have := (hA _ cc).1; unfold c_io at this; omega)
    obtain ⟨kp, _⟩ := h4.1 m hm
    have n7 : c_ka H m 7 ∉ A := fun c => by
      have := (hA _ c).1
      unfold c_io at this
      have := kp.2.2.2.2.2.1
      omega
    have n8 : c_ka H m 8 ∉ A := fun c => by
      have := (hA _ c).1
      unfold c_io at this
      have := kp.2.2.2.2.2.2
      omega
    exact ⟨e1 9, e2 7, e2 8, n7, n8⟩
  · obtain ⟨l, hl⟩ : ∃ l, ms[i]? = some l := ⟨ms[i]'hi, List.getElem?_eq_getElem hi⟩
    obtain ⟨g1, _⟩ := h2.2.2.2.2.2 i l hl
    have := (hA _ cc).1
    unfold c_io at this
    omega
theorem c_ZZ_io (h : c_ZZ H mk nn K tl cn cs tp rd ms B) (hI : c_I G (w_d mm) nm K' tl' tp' rd' ms' cn' cs') (hL : c_n G = mm.length ∧ sw_iv G 3 4 = w_tot mm) (c : c_ch A H G) (hA : ∀ a ∈ A, c_io a) (hl : w_le mk mm) (hs : w_msl ms ms') (hK : c_KS G mm ms' (fun m => v_La (B m))) : c_ZZ G mm nm K' tl' cn' cs' tp' rd' ms' B := by
  obtain ⟨h1, ⟨y1, y2, y3, y4, y5⟩, ⟨t1, t2, t3, t4⟩, h4, h5, h6, h7⟩ := h
  have fl := h1.1.1.2.2.2.1
  have ad := h1.1.1.2.2.2.2
  obtain ⟨i1, i2, i3, i4, i5, i6, i7, i8, i9⟩ := hI
  have VG : c_V G mm nm K' tl' cn' cs' := ⟨⟨i1, hL.1, hL.2⟩, i2, i3, i4, i5⟩
  have WG := c_W_chN h1.1 VG c (fun a ha => by have := hA a ha; unfold c_io at this; omega) hl
  have no : ∀ a, ¬ c_io a → a ∉ A := fun a hn cc => hn (hA a cc)
  have ty : ∀ a, c_fix a → sw_ty G a = sw_ty H a := fun a ha => (c_fx_ty fl c ha).1
  have vv : ∀ a, c_fix a → ¬ c_io a → (∀ f, sw_iv G a f = sw_iv H a f) ∧ ∀ f, sw_rv G a f = sw_rv H a f := fun a ha hn => c_fx_iv fl ad c ha (no a hn)
  have vm : ∀ m, m < 24 → ∀ f, sw_rv G (120 + 54 * m) f = sw_rv H (120 + 54 * m) f := fun m hm => (vv _ (by unfold c_fix; omega) (by unfold c_io; omega)).2
  have r94 := (vv 94 (by unfold c_fix; omega) (by unfold c_io; omega)).2
  have pe : ∀ k, k < 49 → c_plc G k = c_plc H k := fun k hk => by
    unfold c_plc
    by_cases c0 : k = 0
    · rw [if_pos c0, if_pos c0, r94]
    · rw [if_neg c0, if_neg c0, vm _ (by omega), vm _ (by omega)]
  refine ⟨⟨WG, ⟨i6, i7, i8, i9⟩, c_MS_ch h1.2.2.1 fl ad c (no _ (by unfold c_io; omega)) (fun m hm cc => absurd cc (no _ (by unfold c_io; omega))) hl, hK⟩, ⟨c_Ch_ch y1 fl ad c (no _ (by unfold c_io; omega)) (no _ (by unfold c_io; omega)), c_Pa_ch y2 fl ad c (fun cc => absurd cc (no _ (by unfold c_io; omega))), by rw [(vv 91 (by unfold c_fix; omega) (by unfold c_io; omega)).1]; exact y3, c_Ta_ch y4 fl ad c (fun cc => absurd cc (no _ (by unfold c_io; omega))), c_Re_ch y5 fl ad c (fun a ha => by have := hA a ha; unfold c_io at this; omega)⟩, ⟨by rw [ty 44 (by unfold c_fix; omega)]; exact t1, by rw [ty 18 (by unfold c_fix; omega)]; exact t2, by rw [(vv 18 (by unfold c_fix; omega) (by unfold c_io; omega)).2]; exact t3, by rw [ty 1422 (by unfold c_fix; omega)]; exact t4⟩, c_Out_ch h4 fl ad c (no _ (by unfold c_io; omega)) (no _ (by unfold c_io; omega)), w_le_at hl h5, c_PL_tr h6 id (fun k hk => ⟨hk, pe k hk⟩) (fun j k _ _ e => e) (fun k hk => ?_), fun m hm => ?_⟩
  · have b := c_pl_b (h6.1 k hk).1
    exact c_gs_ch (h6.1 k hk).2 fl ad c (fun a ha hn => by have := hA a ha; unfold c_io at this; omega) (fun cc => by have := hA _ cc; unfold c_io at this; omega)
  · have b4 := c_pl_b (c_PL_4 h6 hm).1
    have b5 := c_pl_b (c_PL_5 h6 hm).1
    exact c_zm_ch hm (h7 m hm) h6 fl ad c hl hs (fun a ha => by have := hA a ha; unfold c_io at this; omega)
/-- a call that changes no term and no message -/
theorem c_ZZ_st (h : c_ZZ H mk nn K tl cn cs tp rd ms B) (hI : c_I G (w_d mk) nn K tl' tp' rd' ms cn' cs') (nu : c_nu H G) (c : c_ch A H G) (hA : ∀ a ∈ A, c_io a ∧ a ≠ 1416) : c_ZZ G mk nn K tl' cn' cs' tp' rd' ms B := c_ZZ_io h hI (c_ZZ_nu h nu) c (fun a ha => (hA a ha).1) (w_le_refl _) (w_msl_refl _) (c_ZZ_K h c hA (w_le_refl _))
theorem c_ZZ_throw (h : c_ZZ H mk nn K tl cn cs tp rd ms B) (t : Nat) : c_ZZ (sw_nw H t 0 6) mk nn K tl (cn + 1) (cs + 6) tp rd ms B := by
  have k := c_I_throw (c_ZZ_I h) t
  exact c_ZZ_st h k.1 (c_nw_nu H h.1.1.1.2.1 h.1.1.1.2.2.2.1 t 0 6) k.2 (by simp)
theorem x_feed {a b c d' e' : Int} (h : c_ZZ H mk nn K tl cn cs tp rd ms B) (k : ∀ G, c_ZZ G mk nn K tl cn cs tp (w_rd a b c d' e') ms B → c_ch [1419] H G → Q G) : wm_3 2 a b c d' e' H Q := cc_feed (c_ZZ_I h) (fun G hG c nu => k G (c_ZZ_st h hG nu c (by simp [c_io])) c)
theorem x_end (h : c_ZZ H mk nn K tl cn cs tp rd ms B) (q0 : (x < 0 ∨ 20 < x ∨ 1200 < (tp.length : Int) + x) → P (-1) H) (q1 : ∀ G, 0 ≤ x → x ≤ 20 → (tp.length : Int) + x ≤ 1200 → c_ZZ G mk nn K tl cn cs (w_end tp rd x.toNat) (fun _ => 0) ms B → c_ch [1417, 1418, 1419] H G → P ((tp.length : Int) + x) G) : wm_5 2 x H P := cc_end (c_ZZ_I h) q0 (fun G a1 a2 a3 hG c nu => q1 G a1 a2 a3 (c_ZZ_st h hG nu c (by simp [c_io])) c)
theorem x_place (h : c_ZZ H mk nn K tl cn cs tp rd ms B) (m1 : sw_n H < sxlim.1) (m2 : sw_s H + 6 ≤ sxlim.2) (q0 : w_no tl x = none → c_ZZ (sw_nw H 112 0 6) mk nn K tl (cn + 1) (cs + 6) tp rd ms B → c_ch [] H (sw_nw H 112 0 6) → E (sw_n H + 2) (sw_nw H 112 0 6)) (q1 : ∀ w, w_no tl x = some w → tp.length = 1200 → P (-1) H) (q2 : ∀ w G, w_no tl x = some w → tp.length < 1200 → c_ZZ G mk nn K tl cn cs (tp ++ [w]) rd ms B → c_ch [1417, 1418] H G → P (tp.length + 1) G) : wm_60 2 x H P E := cc_place (c_ZZ_I h) m1 m2 (fun a _ c => q0 a (c_ZZ_throw h 112) c) q1 (fun w G a1 a2 hG c nu => q2 w G a1 a2 (c_ZZ_st h hG nu c (by simp [c_io])) c)
theorem x_copy (h : c_ZZ H mk nn K tl cn cs tp rd ms B) (hz : sw_c z) (q0 : (∀ l, ¬ (0 ≤ x ∧ ms[x.toNat]? = some l ∧ 0 ≤ y ∧ 0 ≤ z ∧ y ≤ l.length ∧ tp.length + (w_cpy l y z).length ≤ 1200)) → P (-1) H) (q1 : ∀ l G, 0 ≤ x → ms[x.toNat]? = some l → 0 ≤ y → 0 ≤ z → y ≤ l.length → tp.length + (w_cpy l y z).length ≤ 1200 → c_ZZ G mk nn K tl cn cs (tp ++ w_cpy l y z) rd ms B → c_ch [1417, 1418] H G → P ((tp ++ w_cpy l y z).length : Nat) G) : wm_10 2 x y z H P := cc_copy (c_ZZ_I h) hz q0 (fun l G a1 a2 a3 a4 a5 a6 hG c nu => q1 l G a1 a2 a3 a4 a5 a6 (c_ZZ_st h hG nu c (by simp [c_io])) c)
theorem x_post (h : c_ZZ H mk nn K tl cn cs tp rd ms B) (m1 : sw_n H + 2 ≤ sxlim.1) (m2 : sw_s H + 1202 ≤ sxlim.2) (q0 : ms.length = 300 → c_ZZ (sw_nw H 120 0 6) mk nn K tl (cn + 1) (cs + 6) tp rd ms B → c_ch [] H (sw_nw H 120 0 6) → E (sw_n H + 2) (sw_nw H 120 0 6)) (q1 : ∀ G, ms.length < 300 → c_ZZ G mk nn K tl (cn + 2) (cs + 2 + tp.length) [] rd (ms ++ [tp]) B → c_ch [2, 1416, 1417] H G → P ms.length G) : wm_112 2 H P E := by
  refine cc_post (c_ZZ_I h) m1 m2 (fun a _ c => q0 a (c_ZZ_throw h 120) c) (fun G a1 hG c nu nr na => q1 G a1 (c_ZZ_io h hG (c_ZZ_nu h nu) c (by simp [c_io]) (w_le_refl _) (w_msl_app _ _) (c_KS_post h.1.1.1 h.1.2.1 h.1.2.2.2 c (c_nwm_of h.1.1.1 h.1.1.1 (c_ch_refl [] H) nr na))) c)
theorem x_sign (h : c_ZZ H mk nn K tl cn cs tp rd ms B) (rm : c_rmN H) (q0 : (∀ l w, ¬ (0 ≤ x ∧ 0 ≤ y ∧ ms[x.toNat]? = some l ∧ l[y.toNat]? = some w)) → P (-1) H) (q1 : ∀ l w Y, 0 ≤ x → 0 ≤ y → ms[x.toNat]? = some l → l[y.toNat]? = some w → c_ZZ Y mk nn K (w_ts tl w).2 cn cs tp rd ms B → c_ch [] H Y → P (w_ts tl w).1 Y) : wm_36 2 x y H P := cc_sign (c_ZZ_I h) rm q0 (fun l w Y a1 a2 a3 a4 hG c nu => q1 l w Y a1 a2 a3 a4 (c_ZZ_st h hG nu c (by simp)) c)
/-- what term and ofTerm tell of a term -/
def w_srt (w : Wt) : Int := if w.head? = some 8 then 0 else ((w.headD 0 : Nat) : Int)
def w_prt (w : Wt) (i : Nat) : Wt := if w.head? = some 8 then [] else (w_pts w).getD i []
def w_lab (w : Wt) : Int := (((w_prt w 1).getD 0 0 : Nat) : Int)
theorem c_tv (T : c_T H d nn) (ht : c_R H t) (e : d t = w) : c_d H t 0 = w_srt w ∧ w_dz d (c_d H t 1) = w_prt w 0 ∧ (c_d H t 0 ≠ 3 → w_dz d (c_d H t 2) = w_prt w 1) ∧ (c_d H t 0 = 3 → c_d H t 2 = w_lab w) ∧ w_dz d (c_d H t 3) = w_prt w 2 ∧ c_d H t 5 = w_sz w ∧ (c_sn H t).map (w_sg d) = (w_pts w).drop 3 := by
  have r := T.2.2.2.2.2.2.2.2.2.1 t ht
  have v1 := r.1.1
  have v2 := r.1.2.1
  have vb := r.1.2.2.2.2.2.2.1
  have v0 := r.1.2.2.2.2.2.2.2.2.2.1
  have p5 := r.2.2.1
  have n1 := r.2.2.2.2.2.1
  have n2 := r.2.2.2.2.2.2
  clear r
  have dz : w_dz d 0 = [] := if_pos rfl
  have sl : c_d H t 5 = 0 → c_sn H t = [] := fun h => by
    unfold c_sn m_sl
    rw [h]
    rfl
  by_cases c0 : c_d H t 0 = 0
  · obtain ⟨z1, z2, z3⟩ := v0 (Or.inl c0)
    rw [z1, z2, z3, dz, c0]
    rcases n2 c0 with ⟨⟨_, h5⟩, q⟩ | ⟨⟨_, h5⟩, i, _, q⟩
    · rw [q] at e
      rw [sl h5, h5, ← e]
      unfold w_srt w_prt w_sz w_zero
      rw [w_pts_mk, w_mk_head]
      exact ⟨rfl, rfl, fun _ => rfl, fun h => absurd h (by decide), rfl, rfl, rfl⟩
    · rw [q] at e
      rw [sl h5, h5, ← e]
      unfold w_srt w_prt w_sz w_nm
      rw [w_pts_mk, w_mk_head]
      exact ⟨rfl, rfl, fun _ => rfl, fun h => absurd h (by decide), rfl, rfl, rfl⟩
  · have q := (n1 c0).1
    rw [e] at q
    have ln : (c_sn H t).length = (c_d H t 5).toNat := by
      unfold c_sn m_sl
      simp
    have hh : ¬ (some (c_d H t 0).toNat = some 8) := fun h => by
      have := Option.some.inj h
      omega
    rw [q]
    unfold w_lab w_srt w_prt w_sz w_tm
    rw [w_pts_mk, w_mk_head, if_neg hh, if_neg hh, if_neg hh, if_neg hh]
    refine ⟨?_, rfl, fun h => ?_, fun h => ?_, rfl, ?_, rfl⟩
    · show c_d H t 0 = (((c_d H t 0).toNat : Nat) : Int)
      omega
    · show _ = (if c_d H t 0 = 3 then _ else _)
      rw [if_neg h]
    · show c_d H t 2 = ((((if c_d H t 0 = 3 then [(c_d H t 2).toNat] else w_dz d (c_d H t 2)) : Wt).getD 0 0 : Nat) : Int)
      rw [if_pos h]
      show c_d H t 2 = (((c_d H t 2).toNat : Nat) : Int)
      omega
    · simp only [List.length_cons, List.length_map]
      omega
theorem x_ofTerm (h : c_ZZ H mk nn K tl cn cs tp rd ms B) (rm : c_rmN H) (q0 : (∀ w u, w_no tl x = some w → ¬ (0 ≤ y ∧ ((w_pts w).drop 3)[y.toNat]? = some u)) → P (-1) H) (q1 : ∀ w u Y, w_no tl x = some w → 0 ≤ y → ((w_pts w).drop 3)[y.toNat]? = some u → c_ZZ Y mk nn K (w_ts tl u).2 cn cs tp rd ms B → c_ch [] H Y → P (w_ts tl u).1 Y) : wm_32 2 x y H P := by
  have I := c_ZZ_I h
  have T := I.1.1
  refine cc_ofTerm I rm (fun hq => q0 (fun w u hw ⟨y0, hu⟩ => ?_)) (fun w t s Y hw ht hd y0 y1 hs hG c nu => ?_)
  · have i := I.1.2.2.2.2.2.2.1.2.2.1
    have hw' : tl[(x - 1).toNat]? = some w := by
      unfold w_no at hw
      split at hw
      · exact hw
      · cases hw
    obtain ⟨t, t1, t2, t3⟩ := i _ _ hw'
    obtain ⟨a1, a2, a3, a4, a5, a6, a7⟩ := c_tv T t1 t3
    refine hq w t hw t1 t3 ⟨y0, ?_⟩
    have := (List.getElem?_eq_some_iff.mp hu).1
    rw [List.length_drop] at this
    rw [a6]
    unfold w_sz
    omega
  · obtain ⟨a1, a2, a3, a4, a5, a6, a7⟩ := c_tv T ht hd
    have hu : ((w_pts w).drop 3)[y.toNat]? = some (w_sg (w_d mk) s) := by
      rw [← a7, List.getElem?_map, hs]
      rfl
    exact q1 w _ Y hw y0 hu (c_ZZ_st h hG nu c (by simp)) c
theorem x_term (h : c_ZZ H mk nn K tl cn cs tp rd ms B) (rm : c_rmN H) (q0 : (w_no tl x = none ∨ y < 0 ∨ 4 < y) → P (-1) H) (qs : ∀ w, w_no tl x = some w → y = 0 → P (w_srt w) H) (q1 : ∀ w Y, w_no tl x = some w → y = 1 → c_ZZ Y mk nn K (w_tp tl (w_prt w 0)).2 cn cs tp rd ms B → c_ch [] H Y → P (w_tp tl (w_prt w 0)).1 Y) (q2l : ∀ w, w_no tl x = some w → y = 2 → w_srt w = 3 → P (w_lab w) H) (q2 : ∀ w Y, w_no tl x = some w → y = 2 → w_srt w ≠ 3 → c_ZZ Y mk nn K (w_tp tl (w_prt w 1)).2 cn cs tp rd ms B → c_ch [] H Y → P (w_tp tl (w_prt w 1)).1 Y) (q3 : ∀ w Y, w_no tl x = some w → y = 3 → c_ZZ Y mk nn K (w_tp tl (w_prt w 2)).2 cn cs tp rd ms B → c_ch [] H Y → P (w_tp tl (w_prt w 2)).1 Y) (q4 : ∀ w, w_no tl x = some w → y = 4 → P (w_sz w) H) : wm_30 2 x y H P := by
  have I := c_ZZ_I h
  have T := I.1.1
  refine cc_term I rm q0 (fun w t hw ht hd hy => ?_) (fun w t Y hw ht hd hy hG c nu => ?_) (fun w t hw ht hd hy h3 => ?_) (fun w t Y hw ht hd hy h3 hG c nu => ?_) (fun w t Y hw ht hd hy hG c nu => ?_) (fun w t hw ht hd hy => ?_)
  · rw [(c_tv T ht hd).1]; exact qs w hw hy
  · rw [(c_tv T ht hd).2.1] at hG ⊢
    exact q1 w Y hw hy (c_ZZ_st h hG nu c (by simp)) c
  · have v := c_tv T ht hd
    rw [v.2.2.2.1 h3]
    exact q2l w hw hy (by rw [← v.1]; exact h3)
  · have v := c_tv T ht hd
    rw [v.2.2.1 h3] at hG ⊢
    exact q2 w Y hw hy (by rw [← v.1]; exact h3) (c_ZZ_st h hG nu c (by simp)) c
  · rw [(c_tv T ht hd).2.2.2.2.1] at hG ⊢
    exact q3 w Y hw hy (c_ZZ_st h hG nu c (by simp)) c
  · rw [(c_tv T ht hd).2.2.2.2.2.1]; exact q4 w hw hy
end
end
