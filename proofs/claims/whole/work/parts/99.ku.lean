/-! ===== how many terms a COMMIT makes who makes it ===== -/
noncomputable section
section
variable {T : w_T} {x y k l m nn : Nat} {z : Int} {S : Wt → Prop}
theorem b_uml_g {z : Int} {g : Nat → Nat} : ∀ k, (∀ b, b < k → w_bit z b = 1 → 1 ≤ g b) → (w_uml z k).length ≤ ((List.range k).map g).sum
  | 0, _ => Nat.le_refl _
  | k + 1, h => by
    have ih := b_uml_g k (fun b hb => h b (by omega))
    rw [w_uml_s, List.length_append, List.range_succ, List.map_append, List.sum_append, List.map_cons, List.map_nil, List.sum_cons, List.sum_nil, Nat.add_zero]
    have : ((if w_bit z k = 1 then [2 * k] else []) : List Nat).length ≤ g k := by
      split
      · rename_i c
        exact h k (by omega) c
      · exact Nat.zero_le _
    omega
theorem b_ab_1 : ∀ y : Fin 31, ((List.range 16).map (fun b => if t_ab b (w_h y.val) = y.val then 1 else 0)).sum ≤ 2 ^ w_h y.val := by decide +kernel
theorem b_uml_i (hi : t_inv T) (h4 : t_dp T ≤ 4) (hy : y < t_w T) (hk : t_ky T y ≠ []) : (w_uml (t_um T y) 16).length ≤ 2 ^ w_h y := by
  have w31 := t_w_4 h4
  have a := b_uml_g (z := t_um T y) (g := fun b => if t_ab b (w_h y) = y then 1 else 0) 16 (fun b hb hbit => by
    show 1 ≤ if t_ab b (w_h y) = y then 1 else 0
    rw [if_pos ((hi y hy hk b hb hbit).2.symm)]
    exact Nat.le_refl _)
  have b := b_ab_1 ⟨y, by omega⟩
  have b : ((List.range 16).map (fun b => if t_ab b (w_h y) = y then 1 else 0)).sum ≤ 2 ^ w_h y := b
  omega
theorem b_rs (hi : t_inv T) (ok : t_ok T) : ∀ (h x : Nat), w_h x = h → x + 2 ^ h ≤ t_w T → (w_rs T h x).length ≤ (if h = 0 then 1 else 3 * 2 ^ (h - 1))
  | 0, x, e, hx => by
    have a := w_rs_len ok 0 x e hx
    rw [if_pos rfl] at a ⊢
    exact a
  | h + 1, x, e, hx => by
    have w31 := t_w_4 ok.1
    have p2 : 2 ^ (h + 1) = 2 * 2 ^ h := by rw [Nat.pow_succ]; omega
    have p0 : 0 < 2 ^ h := Nat.two_pow_pos _
    obtain ⟨k1, k2, k3⟩ := w_h_kid (y := x) (h := h) (by omega) e
    rw [if_neg (by omega), Nat.add_sub_cancel]
    show (if t_ky T x = [] then w_rs T h (x - 2 ^ h) ++ w_rs T h (x + 2 ^ h) else x :: w_uml (t_um T x) 16).length ≤ _
    split
    · have a := b_rs hi ok h (x - 2 ^ h) k2 (by omega)
      have b := b_rs hi ok h (x + 2 ^ h) k3 (by omega)
      rw [List.length_append]
      cases h with
      | zero =>
        rw [if_pos rfl] at a b
        show _ ≤ 3 * 1
        omega
      | succ h =>
        rw [if_neg (by omega), Nat.add_sub_cancel] at a b
        have : 2 ^ (h + 1) = 2 * 2 ^ h := by rw [Nat.pow_succ]; omega
        omega
    · rename_i c
      have := b_uml_i (y := x) hi ok.1 (by omega) c
      rw [e] at this
      rw [List.length_cons]
      omega
theorem b_cv_sm {F : Nat → Wt → Prop} {g : Nat → Nat} : ∀ k, (∀ j, j < k → b_cv (F j) (g j) 0) → b_cv (fun v => ∃ j, j < k ∧ F j v) (((List.range k).map g).sum) 0
  | 0, _ => b_cv_no (fun v h => by obtain ⟨j, hj, _⟩ := h; omega)
  | k + 1, h => by
    have a := b_cv_sm k (fun j hj => h j (by omega))
    have b := h k (by omega)
    rw [List.range_succ, List.map_append, List.sum_append, List.map_cons, List.map_nil, List.sum_cons, List.sum_nil, Nat.add_zero]
    refine b_cv_or a b (fun v hv => ?_)
    obtain ⟨j, hj, hf⟩ := hv
    by_cases e : j = k
    · subst e; exact Or.inr hf
    · exact Or.inl ⟨j, by omega, hf⟩
theorem b_R4 : ∀ d : Fin 5, ((List.range d.val).map (fun h => if h = 0 then 1 else 3 * 2 ^ (h - 1))).sum ≤ 22 := by decide +kernel
/-- what is sealed for the others -/
theorem b_cv_sea (hi : t_inv T) (ok : t_ok T) {d : Nat} (hd : d = t_dp T) (hl : l < 2 ^ t_dp T) {msk : Int} {q : Nat → Prop} {f : Nat → Wt} : b_cv (fun v => ∃ k, k < d ∧ q k ∧ ∃ y ∈ w_rq T msk l k, v = w_sea T (f k) y) 22 0 := by
  subst hd
  have h4 := ok.1
  refine b_cv_le (b_cv_sm (F := fun k v => q k ∧ ∃ y ∈ w_rq T msk l k, v = w_sea T (f k) y) (g := fun h => if h = 0 then 1 else 3 * 2 ^ (h - 1)) (t_dp T) (fun k hk => ?_)) (b_R4 ⟨t_dp T, by omega⟩) (Nat.le_refl _)
  obtain ⟨s1, s2, s3, s4, _⟩ := t_si_ok h4 hl hk
  have a := b_rs hi ok k (t_si l k) s1 s3
  have b := b_cv_map (S := fun v => q k ∧ ∃ y ∈ w_rq T msk l k, v = w_sea T (f k) y) (f := fun y => w_sea T (f k) y) (g := fun _ => 0) (w_rq T msk l k) (fun y _ => by show w_sz (w_t 6 _ _ _ _) ≤ 0; rw [b_sz]; exact Nat.le_refl _) (fun v hv => hv.2)
  refine b_cv_le b (Nat.le_trans (List.length_filter_le _ _) a) (Nat.le_of_eq ?_)
  generalize w_rq T msk l k = M
  induction M with
  | nil => rfl
  | cons a M ih => rw [List.map_cons, List.sum_cons, ih]
end
section
variable {G : w_G} {m nn : Nat} {wp : Int} {L : List w_Ch} {S : Wt → Prop} {T : w_T} {l : Nat}
theorem w_sz_nil : w_sz [] = 0 := by
  unfold w_sz w_pts
  rw [dif_neg (fun h => by
    obtain ⟨s, l, e⟩ := h
    unfold w_mk at e
    cases e)]
  rfl
theorem b_cv_t {s : Nat} {a b c : Wt} {M : List Wt} (h : ∀ v, S v → v = w_t s a b c M) : b_cv S 1 M.length := by
  have := b_cv_1 h
  rw [b_sz] at this
  exact this
theorem b_cv_mp {n0 : Wt} (hn : w_sz n0 = 0) (h4 : t_dp T ≤ 4) : b_cv (t_mp T l n0 (t_dp T)) 12 0 := by
  have ls : ∀ k, w_sz (t_ls T l n0 k) = 0 := fun k => by
    induction k with
    | zero => exact w_sz_nil
    | succ k ih =>
      unfold t_ls
      split
      · exact ih
      · split
        · exact hn
        · exact b_sz 3 _ _ _ _
  refine b_cv_le (b_cv_lt (F := fun j v => t_cb T l j ≠ 0 ∧ (v = t_ls T l n0 (j + 1) ∨ v = w_dr (t_ls T l n0 (j + 1)) 5 ∨ v = w_p5 (w_dr (t_ls T l n0 (j + 1)) 5))) (n := 3) (u := 0) (t_dp T) (fun j hj => ?_)) (by omega) (by omega)
  have a := b_cv_1 (S := fun v => v = t_ls T l n0 (j + 1)) (fun v h => h)
  rw [ls] at a
  have b := b_cv_t (S := fun v => v = w_dr (t_ls T l n0 (j + 1)) 5) (fun v h => h)
  have c := b_cv_t (S := fun v => v = w_p5 (w_dr (t_ls T l n0 (j + 1)) 5)) (fun v h => h)
  exact b_cv_or a (b_cv_or b c (fun v h => h)) (fun v h => h.2)
theorem b_nk {T0 T : w_T} {msk : Int} {n0 : Wt} (hi : t_inv T) (ok : t_ok T) (hl : l < 2 ^ t_dp T) : ∀ k, k ≤ t_dp T → (w_nk T0 T msk l n0 k).length ≤ 3 * k + ((List.range k).map (fun h => if h = 0 then 1 else 3 * 2 ^ (h - 1))).sum
  | 0, _ => Nat.le_refl _
  | k + 1, hk => by
    have ih := b_nk (T0 := T0) (msk := msk) (n0 := n0) hi ok hl k (by omega)
    obtain ⟨s1, s2, s3, s4, _⟩ := t_si_ok ok.1 hl (show k < t_dp T by omega)
    have a := b_rs hi ok k (t_si l k) s1 s3
    have f : (w_rq T msk l k).length ≤ (w_rs T k (t_si l k)).length := List.length_filter_le _ _
    rw [List.range_succ, List.map_append, List.sum_append, List.map_cons, List.map_nil, List.sum_cons, List.sum_nil, Nat.add_zero]
    by_cases c : t_cb T0 l k = 0
    · rw [w_nk_0 c]
      omega
    · rw [w_nk_1 c, List.length_append, List.length_append, List.length_map, List.length_cons]
      have : (w_b16 ((w_rq T msk l k).length : Nat)).length = 2 := rfl
      omega
theorem b_ltn (hi : t_inv (k_T2 G m nn wp L)) (ok : t_ok (k_T2 G m nn wp L)) (hl : gg_lf G < 2 ^ t_dp (k_T2 G m nn wp L)) (hu : ∀ c ∈ L, c.1.1 = 2 → c.2.1 ≠ (gg_lf G : Int)) : (k_lt G m nn wp L).length ≤ 4 * L.length + 10 * h_nad L + 53 := by
  have a := b_pps (lf := (gg_lf G : Int)) L hu
  have c0 : (w_ch0 G L).length = 9 + (w_pps (gg_lf G) L).length := by
    unfold w_ch0
    rw [List.length_append, List.length_append, List.length_cons, List.length_append]
    have e1 : (w_b32 (gg_ep G)).length = 4 := rfl
    have e2 : ∀ z, (w_b16 z).length = 2 := fun _ => rfl
    rw [e1, e2, e2]
    omega
  unfold k_lt
  by_cases c : wp = 0
  · rw [if_pos c, List.length_append, c0, List.length_singleton]
    omega
  · rw [if_neg c, List.length_append, List.length_append, c0, List.length_singleton]
    unfold k_T2 at hi ok hl
    rw [if_neg c] at hi ok hl
    have dp : t_dp (w_pT2 (k_T1 G L) (gg_lf G) m nn) = t_dp (k_T1 G L) := t_pth_dp
    have h4 := ok.1
    have b := b_nk (T0 := k_T1 G L) (msk := k_ms G L) (n0 := w_nm (nn + 1)) hi ok hl (t_dp (k_T1 G L)) (by omega)
    have r := b_R4 ⟨t_dp (k_T1 G L), by omega⟩
    have r : ((List.range (t_dp (k_T1 G L))).map (fun h => if h = 0 then 1 else 3 * 2 ^ (h - 1))).sum ≤ 22 := r
    have f := b_lfw (w_plf (k_T1 G L) (gg_lf G) m nn)
    unfold w_ptx
    rw [List.length_append, List.length_append]
    have e2 : ∀ z, (w_b16 z).length = 2 := fun _ => rfl
    rw [e2]
    omega
/-- what a COMMIT may make of who makes it -/
theorem b_kS (hm : m < 24) (hg : gg_ok G) (hi : g_iv m G) (hok : ∀ c ∈ L, p_cok c.1) (h5 : h_p5 L) (hd : L = [] ∨ h_done (gg_T G) L (gg_lf G)) : (k_lt G m nn wp L).length ≤ 181 + 10 * (k_ad G L).length ∧ b_cv (k_S G m nn wp L) (84 + 2 * (k_ad G L).length) (1348 + 40 * (k_ad G L).length) := by
  obtain ⟨g1, g2⟩ := k_iv (nn := nn) (wp := wp) hm hg hi hok h5 hd
  have i2 : t_inv (k_T2 G m nn wp L) := g2.1
  have o2 : t_ok (k_T2 G m nn wp L) := g2.2.2.2.2.2
  have lw : 2 * gg_lf G < t_w (k_T2 G m nn wp L) := g1.2.1
  have hl := (t_lf_w _ _).mp lw
  have h4 := o2.1
  have ln : L.length ≤ 32 := by
    rcases hd with e | h
    · rw [e]; exact Nat.zero_le _
    · exact h_len hi.2.2.2.2.2.1 hok h
  have na : (k_ad G L).length = h_nad L := k_ad_nad
  have hu : ∀ c ∈ L, c.1.1 = 2 → c.2.1 ≠ (gg_lf G : Int) := fun c hc c2 e => by
    rcases hd with g | g
    · rw [g] at hc; cases hc
    · obtain ⟨j, hj⟩ := List.mem_iff_getElem?.mp hc
      refine ((g.1 j c hj).2 (by rw [c2]; decide)).1 ?_
      unfold h_go
      rw [if_neg (by rw [c2]; decide), if_pos c2]
      exact e
  have lt := b_ltn (nn := nn) (wp := wp) (m := m) i2 o2 hl hu
  refine ⟨by omega, ?_⟩
  have ltn : (k_lt G m nn wp L).length ≤ 181 + 10 * (k_ad G L).length := by omega
  -- the path
  have c1 : b_cv (fun v => wp ≠ 0 ∧ w_ptS (k_T1 G L) (gg_lf G) m nn (k_ms G L) v ∧ ¬ ∃ y ∈ b_all (k_T2 G m nn wp L), v = w_th (k_T2 G m nn wp L) 0 y) 42 20 := by
    by_cases c : wp = 0
    · exact b_cv_le (b_cv_no (fun v h => h.1 c)) (Nat.zero_le _) (Nat.zero_le _)
    · unfold k_T2 at i2 o2 hl ⊢
      rw [if_neg c] at i2 o2 hl ⊢
      have dp : t_dp (w_pT2 (k_T1 G L) (gg_lf G) m nn) = t_dp (k_T1 G L) := t_pth_dp
      have h41 : t_dp (k_T1 G L) ≤ 4 := by rw [← dp]; exact o2.1
      have kd : t_dp (t_kpn (t_cb (k_T1 G L) (gg_lf G)) (k_T1 G L) (gg_lf G) (w_pkf (k_T1 G L) (gg_lf G) nn) (t_dp (k_T1 G L))) = t_dp (k_T1 G L) := t_kpn_dp _
      have a1 := b_cv_1 (S := fun v => v = w_nm nn) (fun v h => h)
      rw [w_sz_nm] at a1
      have a2 := b_cv_t (S := fun v => v = w_p5 (w_nm nn)) (fun v h => h)
      have a3 := b_cv_mp (T := k_T1 G L) (l := gg_lf G) (n0 := w_nm (nn + 1)) (w_sz_nm _) h41
      have a4 := b_cv_t (S := fun v => v = w_pcs (k_T1 G L) (gg_lf G) nn) (fun v h => h)
      have a5 := t_mw_cv (C := t_cb (k_T1 G L) (gg_lf G)) (l := gg_lf G) (T := t_kpn (t_cb (k_T1 G L) (gg_lf G)) (k_T1 G L) (gg_lf G) (w_pkf (k_T1 G L) (gg_lf G) nn) (t_dp (k_T1 G L))) (by rw [kd]; exact h41)
      have a6 := b_cv_t (S := fun v => v = w_lsg m (w_p5 (w_nm nn)) 3 (w_pth (k_T1 G L) (gg_lf G) nn).2 (gg_lf G)) (fun v h => h)
      have a7 := b_cv_sea (T := w_pT2 (k_T1 G L) (gg_lf G) m nn) (l := gg_lf G) (d := t_dp (k_T1 G L)) (msk := k_ms G L) (q := fun k => t_cb (k_T1 G L) (gg_lf G) k ≠ 0) (f := fun k => t_ls (k_T1 G L) (gg_lf G) (w_nm (nn + 1)) (k + 1)) i2 o2 dp.symm hl
      refine b_cv_le (b_cv_or a1 (b_cv_or a2 (b_cv_or a3 (b_cv_or a4 (b_cv_or a5 (b_cv_or a6 a7 (fun v h => h)) (fun v h => h)) (fun v h => h)) (fun v h => h)) (fun v h => h)) (fun v h => ?_)) (by decide) ?_
      · obtain ⟨_, hp, hn⟩ := h
        rcases hp with e | e | e | e | e | e | e
        · exact Or.inl e
        · exact Or.inr (Or.inl e)
        · exact Or.inr (Or.inr (Or.inl e))
        · exact Or.inr (Or.inr (Or.inr (Or.inl e)))
        · have k := t_mw_in (f := w_plf (k_T1 G L) (gg_lf G) m nn) (by rw [kd]; exact h41) (by rw [kd, ← dp]; exact hl) e
          rcases k with k | k
          · exact Or.inr (Or.inr (Or.inr (Or.inr (Or.inl k))))
          · rw [kd] at k
            exact absurd k hn
        · exact Or.inr (Or.inr (Or.inr (Or.inr (Or.inr (Or.inl e)))))
        · exact Or.inr (Or.inr (Or.inr (Or.inr (Or.inr (Or.inr e)))))
      · show 0 + (0 + (0 + (0 + (12 + ((w_lh _ _ _ _ _ ++ _).length + 0))))) ≤ 20
        exact (by decide : (20 : Nat) ≤ 20)
  -- the message
  have c2 : b_cv (w_cmS G (k_T2 G m nn wp L) m (k_cs G nn wp L) (k_lt G m nn wp L)) 41 (443 + 3 * (k_lt G m nn wp L).length) := by
    have a1 := b_cv_t (S := fun v => v = w_cS G m (k_lt G m nn wp L)) (fun v h => h)
    rw [List.length_append, w_cx_len] at a1
    have a2 := b_cv_t (S := fun v => v = w_ini G) (fun v h => h)
    have a3 := b_cv_t (S := fun v => v = w_jnr G (k_cs G nn wp L)) (fun v h => h)
    have a4 := b_cv_t (S := fun v => v = w_cf2 G m (k_lt G m nn wp L)) (fun v h => h)
    rw [List.length_cons, List.length_append, List.length_singleton] at a4
    have a5 := b_cv_t (S := fun v => v = w_es2 G (k_T2 G m nn wp L) m (k_cs G nn wp L) (k_lt G m nn wp L)) (fun v h => h)
    have a6 := b_cv_t (S := fun v => v = w_dr (w_es2 G (k_T2 G m nn wp L) m (k_cs G nn wp L) (k_lt G m nn wp L)) 2) (fun v h => h)
    have a7 := b_cv_t (S := fun v => v = w_cm2 G (k_T2 G m nn wp L) m (k_cs G nn wp L) (k_lt G m nn wp L)) (fun v h => h)
    have a8 := b_cv_t (S := fun v => v = w_mem G) (fun v h => h)
    have a9 := b_cv_t (S := fun v => v = w_cT G (k_T2 G m nn wp L) m (k_cs G nn wp L) (k_lt G m nn wp L)) (fun v h => h)
    rw [List.length_append, List.length_append, List.length_singleton, List.length_singleton] at a9
    have a10 := b_cv_t (S := fun v => v = w_int (w_cf2 G m (k_lt G m nn wp L)) (w_cm2 G (k_T2 G m nn wp L) m (k_cs G nn wp L) (k_lt G m nn wp L))) (fun v h => h)
    have a11 := b_cv_inv (S := fun v => ∃ y ∈ b_all (k_T2 G m nn wp L), v = w_th (k_T2 G m nn wp L) 0 y) i2 o2 (fun v h => h)
    refine b_cv_le (b_cv_or a1 (b_cv_or a2 (b_cv_or a3 (b_cv_or a4 (b_cv_or a5 (b_cv_or a6 (b_cv_or a7 (b_cv_or a8 (b_cv_or a9 (b_cv_or a10 a11 (fun v h => h)) (fun v h => h)) (fun v h => h)) (fun v h => h)) (fun v h => h)) (fun v h => h)) (fun v h => h)) (fun v h => h)) (fun v h => h)) (fun v h => h)) (by decide) ?_
    have e5 : (w_ctx (k_T2 G m nn wp L) (w_epn G) (w_cfn G (k_lt G m nn wp L ++ [w_cS G m (k_lt G m nn wp L)]))).length = 6 := rfl
    rw [e5]
    simp only [List.length_cons, List.length_nil]
    omega
  -- who is welcomed
  have c3 : b_cv (fun v => ∃ (p j : Nat) (c : w_Ch), (p, j) ∈ k_ad G L ∧ L[j]? = some c ∧ v ∈ w_w1 (k_T1 G L) (gg_lf G) (w_nm (nn + 1)) wp (w_jnr G (k_cs G nn wp L)) p c) (2 * (k_ad G L).length) (10 * (k_ad G L).length) := by
    have key : ∀ A : List (Nat × Nat), b_cv (fun v => ∃ (p j : Nat) (c : w_Ch), (p, j) ∈ A ∧ L[j]? = some c ∧ v ∈ w_w1 (k_T1 G L) (gg_lf G) (w_nm (nn + 1)) wp (w_jnr G (k_cs G nn wp L)) p c) (2 * A.length) (10 * A.length) := fun A => by
      induction A with
      | nil => exact b_cv_no (fun v h => by obtain ⟨_, _, _, h, _⟩ := h; cases h)
      | cons a A ih =>
        obtain ⟨p0, j0⟩ := a
        have one : b_cv (fun v => ∃ c : w_Ch, L[j0]? = some c ∧ v ∈ w_w1 (k_T1 G L) (gg_lf G) (w_nm (nn + 1)) wp (w_jnr G (k_cs G nn wp L)) p0 c) 2 10 := by
          cases e : L[j0]? with
          | none => exact b_cv_le (b_cv_no (fun v h => by obtain ⟨_, h, _⟩ := h; cases h)) (Nat.zero_le _) (Nat.zero_le _)
          | some c0 =>
            have b1 := b_cv_t (S := fun v => v = w_t 1 [] [] [] (w_pkw c0.1.2.1)) (fun v h => h)
            have b2 := b_cv_t (S := fun v => v = w_t 6 c0.1.2.1.1 (w_jnr G (k_cs G nn wp L)) (w_wsec (k_T1 G L) (gg_lf G) (w_nm (nn + 1)) wp p0) []) (fun v h => h)
            have k := b_pkw c0.1.2.1
            refine b_cv_le (b_cv_or b1 b2 (fun v h => ?_)) (Nat.le_refl _) (by rw [List.length_nil]; omega)
            obtain ⟨c, ec, hv⟩ := h
            have ec := Option.some.inj ec
            subst ec
            unfold w_w1 at hv
            rcases List.mem_cons.mp hv with g | g
            · exact Or.inl g
            · exact Or.inr (List.mem_singleton.mp g)
        rw [List.length_cons]
        refine b_cv_le (b_cv_or one ih (fun v h => ?_)) (by omega) (by omega)
        obtain ⟨p, j, c, h1, h2, h3⟩ := h
        rcases List.mem_cons.mp h1 with g | g
        · rw [Prod.mk.injEq] at g
          obtain ⟨g1, g2⟩ := g
          subst g1; subst g2
          exact Or.inl ⟨c, h2, h3⟩
        · exact Or.inr ⟨p, j, c, g, h2, h3⟩
    exact key _
  have c4 := b_cv_t (S := fun v => v = w_t 7 (w_nm m) [] [] (w_inf (k_G G m nn wp L) (k_cm G m nn wp L))) (fun v h => h)
  have inf := b_inf (G := k_G G m nn wp L) (cm := k_cm G m nn wp L) i2 o2
  refine b_cv_le (b_cv_or c1 (b_cv_or c2 (b_cv_or c3 c4 (fun v h => h)) (fun v h => h)) (fun v h => ?_)) (by omega) (by omega)
  rcases h with h | h | h | h
  · by_cases c : ∃ y ∈ b_all (k_T2 G m nn wp L), v = w_th (k_T2 G m nn wp L) 0 y
    · exact Or.inr (Or.inl (Or.inr (Or.inr (Or.inr (Or.inr (Or.inr (Or.inr (Or.inr (Or.inr (Or.inr (Or.inr c)))))))))))
    · exact Or.inl ⟨h.1, h.2, c⟩
  · exact Or.inr (Or.inl h)
  · exact Or.inr (Or.inr (Or.inl h))
  · exact Or.inr (Or.inr (Or.inr h))
end
end
