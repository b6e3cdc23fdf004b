/-! ===== what a COMMIT is answered with; the reference: isPending ===== -/
noncomputable section
/-- the secret of a PUBLIC key -/
def d_own (T : w_T) (x : Nat) : Wt := @dite _ (∃ a, t_ky T x = w_p5 a) (Classical.propDecidable _) (fun h => Classical.choose h) (fun _ => [])
theorem w_p5_inj {a b : Wt} (h : w_p5 a = w_p5 b) : a = b := (w_t_inj h).2.1
theorem d_own_eq {T : w_T} {x : Nat} {a : Wt} (h : t_ky T x = w_p5 a) : d_own T x = a := by
  have ex : ∃ a, t_ky T x = w_p5 a := ⟨a, h⟩
  unfold d_own
  rw [dif_pos ex]
  exact w_p5_inj ((Classical.choose_spec ex).symm.trans h)
/-- a COMMIT without a path whose changes are right: its answer, and what becomes of the group -/
def d_fn (G : w_G) (T : w_T) (L : List w_Ch) (lm : List Wt) (cf : Wt) (z : Int) (o : Option (Option w_G)) : Prop := (h_rm L (gg_lf G) ∧ z = 0 ∧ o = some none) ∨ (¬ h_rm L (gg_lf G) ∧ ((d_cm G T w_z lm = cf ∧ z = 0 ∧ o = some (some (d_G G T w_z lm (d_h0 G T (d_own T (2 * gg_lf G)))))) ∨ (d_cm G T w_z lm ≠ cf ∧ z = 12 ∧ o = none)))
/-- and with a path -/
def d_fp (G : w_G) (T : w_T) (L : List w_Ch) (msk : Int) (l : Nat) (f : p_L) (ns : List p_N) (lm : List Wt) (cf : Wt) (z : Int) (o : Option (Option w_G)) : Prop := (¬ (d_lr T l f ∧ d_ph T l ns = f.2.2.2.2.1) ∧ z = 9 ∧ o = none) ∨ ((d_lr T l f ∧ d_ph T l ns = f.2.2.2.2.1) ∧ ((h_rm L (gg_lf G) ∧ z = 0 ∧ o = some none) ∨ (¬ h_rm L (gg_lf G) ∧ ((d_p G T l msk f ns (d_own T (2 * gg_lf G)) = [] ∧ z = 10 ∧ o = none) ∨ (d_p G T l msk f ns (d_own T (2 * gg_lf G)) ≠ [] ∧ ((¬ d_cok T l (d_p G T l msk f ns (d_own T (2 * gg_lf G))) (d_k G T l) (d_kf T l ns) ∧ z = 11 ∧ o = none) ∨ (d_cok T l (d_p G T l msk f ns (d_own T (2 * gg_lf G))) (d_k G T l) (d_kf T l ns) ∧ ((d_cm G (d_T2 T l f ns) (d_cs G T l msk f ns (d_own T (2 * gg_lf G))) lm = cf ∧ z = 0 ∧ o = some (some (d_Gp G T l msk f ns (d_own T (2 * gg_lf G)) lm))) ∨ (d_cm G (d_T2 T l f ns) (d_cs G T l msk f ns (d_own T (2 * gg_lf G))) lm ≠ cf ∧ z = 12 ∧ o = none)))))))))
def d_fin (G : w_G) (L : List w_Ch) (l : Nat) (pt : Option p_P) (lm : List Wt) (cf : Wt) (z : Int) (o : Option (Option w_G)) : Prop := match pt with
  | none => d_fn G (h_ap (gg_T G) L) L lm cf z o
  | some (f, ns) => d_fp G (h_ap (gg_T G) L) L (k_ms G L) l f ns lm cf z o
/-- a COMMIT of another whose text is right -/
def d_chg (G : w_G) (C : List w_Ch) (l : Nat) (es : List p_E) (pt : Option p_P) (lm : List Wt) (cf : Wt) (z : Int) (o : Option (Option w_G)) : Prop := (d_un C es ∧ z = 6 ∧ o = none) ∨ (¬ d_un C es ∧ ((¬ h_done (gg_T G) (d_L C l es) l ∧ z = 7 ∧ o = none) ∨ (h_done (gg_T G) (d_L C l es) l ∧ ((¬ d_shp (h_ap (gg_T G) (d_L C l es)) (k_ms G (d_L C l es)) l (d_L C l es) pt ∧ z = 8 ∧ o = none) ∨ (d_shp (h_ap (gg_T G) (d_L C l es)) (k_ms G (d_L C l es)) l (d_L C l es) pt ∧ d_fin G (d_L C l es) l pt lm cf z o)))))
/-- a COMMIT of this epoch -/
def d_ep (G : w_G) (C : List w_Ch) (pd : Option (List Wt × w_G)) (sd : Int) (es : List p_E) (pt : Option p_P) (lm : List Wt) (sg cf tg : Wt) (z : Int) (o : Option (Option w_G)) : Prop := (sd = gg_lf G ∧ ((∃ G', pd = some (lm, G') ∧ z = 0 ∧ o = some (some G')) ∨ ((∀ G', pd ≠ some (lm, G')) ∧ z = 3 ∧ o = none))) ∨ (sd ≠ gg_lf G ∧ ((¬ w_sd G sd ∧ z = 3 ∧ o = none) ∨ (w_sd G sd ∧ ((¬ w_sok (t_ow (gg_T G) sd.toNat) (t_sk (gg_T G) sd.toNat) sg (w_sli lm 0 (lm.length - 3) ++ w_cx G) ∧ z = 4 ∧ o = none) ∨ (w_sok (t_ow (gg_T G) sd.toNat) (t_sk (gg_T G) sd.toNat) sg (w_sli lm 0 (lm.length - 3) ++ w_cx G) ∧ ((tg ≠ w_t 2 (w_mem G) [] [] (w_sli lm 0 (lm.length - 1)) ∧ z = 5 ∧ o = none) ∨ (tg = w_t 2 (w_mem G) [] [] (w_sli lm 0 (lm.length - 1)) ∧ d_chg G C sd.toNat es pt lm cf z o)))))))
/-- what a COMMIT is answered with -/
def d_dcR (K : Wt → Prop) (inn : Prop) (G : w_G) (C : List w_Ch) (pd : Option (List Wt × w_G)) (lm : List Wt) (z : Int) (o : Option (Option w_G)) : Prop := ((∀ ep sd b e1 es pt sg cf tg, ¬ p_cm K lm ep sd b e1 es pt sg cf tg) ∧ z = 1 ∧ o = none) ∨ ∃ ep sd b e1 es pt sg cf tg, p_cm K lm ep sd b e1 es pt sg cf tg ∧ (((¬ inn ∨ ep ≠ gg_ep G) ∧ z = 2 ∧ o = none) ∨ (inn ∧ ep = gg_ep G ∧ d_ep G C pd sd es pt lm sg cf tg z o))
variable {I J X : sr_V} {nn us fr fp : Nat} {K K' : Wt → Prop} {tl mk lm lp l : List Wt} {Q : Int → sr_V → Prop} {R : sr_V → Prop} {m mi pn i e : Nat} {ms : List (List Wt)} {S b : Int} {s : Nat × Nat}
theorem r_ip_25 (hL : m_L I mk nn K tl) (hM : m_M I (w_d mk) ms) (hmi : ms[mi]? = some lm) (hpn : ms[pn]? = some lp) (hln : lp.length = lm.length) (q1 : lp = lm → Q 1 I) (q0 : lp ≠ lm → Q 0 I) : ∀ (n i : Nat), i ≤ lm.length → lm.length - i < n → (∀ j, j < i → lp[j]? = lm[j]?) → rl_222_25 Q n mi pn i I
  | 0, _, _, h, _ => by omega
  | n + 1, i, hi, hn, inv => by
    obtain ⟨m1, m2, m3, m4, m5⟩ := hM
    obtain ⟨a1, a2, a3, a4, a5⟩ := m5 mi lm hmi
    obtain ⟨b1, b2, b3, b4, b5⟩ := m5 pn lp hpn
    have ml : mi < ms.length := (List.getElem?_eq_some_iff.mp hmi).1
    have pl : pn < ms.length := (List.getElem?_eq_some_iff.mp hpn).1
    unfold rl_222_25
    refine ⟨by omega, by omega, ?_⟩
    intro v1 e1 _
    rw [Int.toNat_natCast, a2] at e1
    refine ⟨fun c => q1 (List.ext_getElem? (fun j => ?_)), fun c => ⟨by omega, by omega, ?_⟩⟩
    · rcases Nat.lt_or_ge j i with g | g
      · exact inv j g
      · rw [List.getElem?_eq_none (by omega), List.getElem?_eq_none (by omega)]
    obtain ⟨fr, efr⟩ : ∃ fr : Nat, I 24 mi = fr := ⟨(I 24 mi).toNat, by omega⟩
    obtain ⟨fp, efp⟩ : ∃ fp : Nat, I 24 pn = fp := ⟨(I 24 pn).toNat, by omega⟩
    rw [efr, Int.toNat_natCast] at a5
    rw [efp, Int.toNat_natCast] at b5
    obtain ⟨w, ew⟩ : ∃ w, lm[i]? = some w := ⟨_, List.getElem?_eq_getElem (by omega)⟩
    obtain ⟨u, eu⟩ : ∃ u, lp[i]? = some u := ⟨_, List.getElem?_eq_getElem (by omega)⟩
    obtain ⟨x1, x2⟩ := a5 i w ew
    obtain ⟨y1, y2⟩ := b5 i u eu
    intro v4 e4 _
    rw [Int.toNat_natCast, efp] at e4
    have i1 : sw_w (v4 + i) = ((fp + i : Nat) : Int) := by rw [e4, sw_w_s (by omega) (by omega)]; omega
    rw [i1]
    clear i1
    refine ⟨by omega, by omega, ?_⟩
    intro v7 e7 _
    refine ⟨by omega, by omega, ?_⟩
    intro v10 e10 _
    rw [Int.toNat_natCast, efr] at e10
    have i2 : sw_w (v10 + i) = ((fr + i : Nat) : Int) := by rw [e10, sw_w_s (by omega) (by omega)]; omega
    rw [i2]
    clear i2
    refine ⟨by omega, by omega, ?_⟩
    intro v13 e13 _
    rw [Int.toNat_natCast] at e7 e13
    refine ⟨fun c1 => ?_, fun c1 => q0 (fun e => c1 ?_)⟩
    · intro y16 e16
      rw [sw_s1 (by omega)] at e16
      rw [e16]
      refine r_ip_25 hL ⟨m1, m2, m3, m4, m5⟩ hmi hpn hln q1 q0 n (i + 1) (by omega) (by omega) (fun j hj => ?_)
      by_cases ej : j = i
      · rw [ej, eu, ew, ← x2, ← y2, ← e7, ← e13, c1]
      · exact inv j (by omega)
    · rw [e, ew] at eu
      have eu := Option.some.inj eu
      rw [e7, e13]
      exact m_sg_inj hL.1 y1 x1 (by rw [x2, y2, eu])
theorem r_isPending (hm : m < 24) (hL : m_L I mk nn K tl) (hM : m_M I (w_d mk) ms) (hmi : ms[mi]? = some lm) (hp : I 28 m ≠ 0 → ∃ pn : Nat, I 35 m = pn ∧ ms[pn]? = some lp) (q1 : I 28 m ≠ 0 → lp = lm → Q 1 I) (q0 : ¬ (I 28 m ≠ 0 ∧ lp = lm) → Q 0 I) : rm_222 mi m I Q := by
  have ml : mi < ms.length := (List.getElem?_eq_some_iff.mp hmi).1
  have m2 := hM.2.1
  unfold rm_222
  refine ⟨by omega, by omega, ?_⟩
  intro v22 e22 _
  rw [Int.toNat_natCast] at e22
  refine ⟨fun c => ⟨by omega, by omega, ?_⟩, fun c => q0 (fun h => h.1 (by rw [← e22]; exact c))⟩
  rw [e22] at c
  obtain ⟨pn, p1, p2⟩ := hp c
  have pl : pn < ms.length := (List.getElem?_eq_some_iff.mp p2).1
  intro v25 e25 _
  rw [Int.toNat_natCast, p1] at e25
  subst e25
  refine ⟨by omega, by omega, ?_⟩
  intro v31 e31 _
  refine ⟨by omega, by omega, ?_⟩
  intro v34 e34 _
  rw [Int.toNat_natCast, (hM.2.2.2.2 pn lp p2).2.1] at e31
  rw [Int.toNat_natCast, (hM.2.2.2.2 mi lm hmi).2.1] at e34
  refine ⟨fun c1 => ⟨lm.length + 1, r_ip_25 hL hM hmi p2 (by omega) (q1 c) (fun h => q0 (fun g => h g.2)) _ 0 (by omega) (by omega) (fun j hj => absurd hj (Nat.not_lt_zero _))⟩, fun c1 => q0 (fun h => c1 (by rw [e31, e34, h.2]))⟩
end
