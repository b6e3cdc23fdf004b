/-! ===== the reference: a COMMIT whose changes are right ===== -/
noncomputable section
/-- all that taking a COMMIT may touch, but the member's own state -/
def m_pD (us f k : Nat) : Prop := m_p2 f k ∨ (f = 26 ∧ us ≤ k) ∨ m_pl 48 f k ∨ (55 ≤ f ∧ f ≤ 111) ∨ (f = 1000 ∧ 56 ≤ k ∧ k ≤ 111)
/-- what becomes of the member's state -/
def d_aft (I : sr_V) (us m : Nat) (J : sr_V) (mm : List Wt) : Option (Option w_G) → Prop
  | none => m_gp (m_pD us) I J
  | some none => J 27 m = 0 ∧ J 46 m = 0 ∧ J 47 m = 0 ∧ J 28 m = 0 ∧ m_gp (fun f k => m_pD us f k ∨ m_plv m f k) I J
  | some (some G') => m_st J mm m G' ∧ J 46 m = 0 ∧ J 47 m = 0 ∧ J 28 m = 0 ∧ m_gp (fun f k => m_pD us f k ∨ m_pl m f k ∨ ((f = 46 ∨ f = 47 ∨ f = 28) ∧ k = m)) I J
/-- what it makes behind the changes -/
def d_mS (G : w_G) (L : List w_Ch) (l : Nat) (lm : List Wt) (pt : Option p_P) (v : Wt) : Prop := match pt with
  | none => d_eS G (h_ap (gg_T G) L) w_z lm v
  | some (f, ns) => t_mw (t_cb (h_ap (gg_T G) L) l) (t_kpn (t_cb (h_ap (gg_T G) L) l) (h_ap (gg_T G) L) l (d_kf (h_ap (gg_T G) L) l ns) (t_dp (h_ap (gg_T G) L))) l v ∨ d_clS (h_ap (gg_T G) L) l (d_p G (h_ap (gg_T G) L) l (k_ms G L) f ns (d_own (h_ap (gg_T G) L) (2 * gg_lf G))) (d_k G (h_ap (gg_T G) L) l) v ∨ d_eS G (d_T2 (h_ap (gg_T G) L) l f ns) (d_cs G (h_ap (gg_T G) L) l (k_ms G L) f ns (d_own (h_ap (gg_T G) L) (2 * gg_lf G))) lm v
variable {I J X : sr_V} {nn us fr : Nat} {K : Wt → Prop} {tl mk mm lm : List Wt} {Q : Int → sr_V → Prop} {m mi l : Nat} {sg cf tg : Wt} {G : w_G} {S : Wt → Prop} {L : List w_Ch} {ep sd com : Int} {b e1 : Nat} {es : List p_E} {pt : Option p_P} {ms : List (List Wt)} {U : List (Wt × Wt)} {T : w_T} {c : w_Ch} {lf : Nat}
theorem h_up_rm (h : h_all T L com) (hc : c ∈ L) (h2 : c.1.1 = 2) (hg : h_go c = (lf : Int)) : ¬ h_rm L (lf : Int) := by
  rintro ⟨d, hd, h3, hg3⟩
  obtain ⟨j, hj⟩ := List.mem_iff_getElem?.mp hc
  obtain ⟨i, hi⟩ := List.mem_iff_getElem?.mp hd
  have mt : ∀ {a b : Nat} {x : w_Ch}, a < b → L[a]? = some x → x ∈ L.take b := fun {a b x} hab hx => List.mem_of_getElem? (i := a) (by rw [List.getElem?_take, if_pos hab]; exact hx)
  rcases Nat.lt_trichotomy i j with g | g | g
  · exact ((h j c hj).2 (by omega)).2.2.1 d (mt g hi) (by omega) (by rw [hg3, hg])
  · rw [g, hj] at hi
    cases hi
    omega
  · exact ((h i d hi).2 (by omega)).2.2.1 c (mt g hj) (by omega) (by rw [hg3, hg])
/-- the own leaf's key behind the changes, and its secret -/
theorem d_own_ok (hg : gg_ok G) (hi : g_iv m G) (hok : ∀ c ∈ L, p_cok c.1) (ha : h_all (gg_T G) L com) (hr : h_room (h_0 (gg_T G) L) L) (hLU : ∀ c ∈ L, c.1.1 = 2 → h_go c = (gg_lf G : Int) → (∃ v, (c.2.2, v) ∈ U) ∧ ∀ v, (c.2.2, v) ∈ U → (h_lf c).2.1 = w_p5 v) (hn : ¬ h_rm L (gg_lf G)) : t_is (h_ap (gg_T G) L) (gg_lf G) ∧ t_ow (h_ap (gg_T G) L) (gg_lf G) = (m : Int) ∧ t_ky (h_ap (gg_T G) L) (2 * gg_lf G) = w_p5 (d_own (h_ap (gg_T G) L) (2 * gg_lf G)) ∧ ((∀ c ∈ L, ¬ (c.1.1 = 2 ∧ h_go c = (gg_lf G : Int))) → w_hcy G (h_ap (gg_T G) L) (2 * gg_lf G) = d_own (h_ap (gg_T G) L) (2 * gg_lf G)) := by
  obtain ⟨k1, k2, k3, k4⟩ := h_ap_oth hi.2.2.2.2.2.1 hok (g_is hg) ha hn hr
  refine ⟨k3, k2.trans hi.2.1, ?_, fun no => ?_⟩
  · by_cases ex : ∃ c ∈ L, c.1.1 = 2 ∧ h_go c = (gg_lf G : Int)
    · obtain ⟨c, hc, c2, cg⟩ := ex
      obtain ⟨⟨v, hv⟩, hall⟩ := hLU c hc c2 cg
      have e : t_ky (h_ap (gg_T G) L) (2 * gg_lf G) = w_p5 v := by rw [k1, h_kb_c ha hc c2 cg]; exact hall v hv
      rw [d_own_eq e]
      exact e
    · have e : t_ky (h_ap (gg_T G) L) (2 * gg_lf G) = w_p5 (gg_hd G (2 * gg_lf G)) := by
        rw [k1, h_kb_no L (fun d hd h => ex ⟨d, hd, h⟩)]
        exact hi.2.2.2.2.1
      rw [d_own_eq e]
      exact e
  · have e0 : t_ky (h_ap (gg_T G) L) (2 * gg_lf G) = t_ky (gg_T G) (2 * gg_lf G) := by rw [k1, h_kb_no L no]
    have e : t_ky (h_ap (gg_T G) L) (2 * gg_lf G) = w_p5 (gg_hd G (2 * gg_lf G)) := by rw [e0]; exact hi.2.2.2.2.1
    rw [d_own_eq e]
    unfold w_hcy
    rw [if_pos ⟨hg.2.1, k3.2, e0⟩]
theorem m_pD_44 (g : m_gp m_p44 I J) : m_gp (m_pD us) I J := m_gp_sub g (fun f k p => Or.inr (Or.inr (Or.inl (Or.inr (by unfold m_p44 at p; omega)))))
theorem m_pD_sh (g : m_gp m_psh I J) : m_gp (m_pD us) I J := m_gp_sub g (fun f k p => by unfold m_psh m_pwy m_prs at p; unfold m_pD; omega)
theorem m_pD_qr {l : Nat} (hl : l < 16) (g : m_gp (m_pqr l) I J) : m_gp (m_pD us) I J := m_gp_sub g (fun f k p => by
  unfold m_pqr m_pql at p
  rcases p with (p | p | p) | p
  · rcases p with p | ⟨p1, p2, j, p3, p4⟩
    · exact Or.inl p
    · have := (w_h_ab ⟨l, hl⟩ ⟨j + 1, by omega⟩).2
      have : t_ab l (j + 1) < 31 := (t_ab_2 ⟨l, hl⟩ ⟨j, p3⟩).2
      exact Or.inr (Or.inr (Or.inl (Or.inr (by omega))))
  · unfold m_psp at p; unfold m_pD; omega
  · exact Or.inr (Or.inr (Or.inl (Or.inr (by omega))))
  · unfold m_pd at p; unfold m_pD; omega)
theorem m_pD_cl1 {k f j : Nat} (hl : l < 16) (h4 : t_dp T ≤ 4) (p : m_pcl T l k f j ∨ m_prs f j) : m_pD us f j := by
  rcases p with (p | p | ⟨p1, i, i1, i2, i3, p2⟩) | p
  · exact Or.inl p
  · unfold m_pD; omega
  · have : t_ab l (i + 1) < 31 := (t_ab_2 ⟨l, hl⟩ ⟨i, by omega⟩).2
    exact Or.inr (Or.inr (Or.inl (Or.inr (by omega))))
  · unfold m_prs at p; unfold m_pD; omega
theorem m_pD_cl {k : Nat} (hl : l < 16) (h4 : t_dp T ≤ 4) (g : m_gp (fun f j => m_pcl T l k f j ∨ m_prs f j) I J) : m_gp (m_pD us) I J := m_gp_sub g (fun f j p => m_pD_cl1 hl h4 p)
theorem m_pD_dc1 {f k : Nat} (p : m_pdc m f k) : m_pD us f k ∨ m_pl m f k ∨ ((f = 46 ∨ f = 47 ∨ f = 28) ∧ k = m) := by
  rcases p with p | p | p | p
  · exact Or.inl (Or.inl p)
  · exact Or.inl (Or.inr (Or.inr (Or.inl p)))
  · exact Or.inr (Or.inl p)
  · exact Or.inr (Or.inr p)
theorem m_pD_dc (g : m_gp (m_pdc m) I J) : m_gp (fun f k => m_pD us f k ∨ m_pl m f k ∨ ((f = 46 ∨ f = 47 ∨ f = 28) ∧ k = m)) I J := m_gp_sub g (fun f k p => m_pD_dc1 p)
/-- a PUBLIC key is of something -/
theorem m_p5_part {t : Int} (hL : m_L I mk nn K tl) (ht : w_at mk t (w_p5 [])) : False := by
  obtain ⟨t1, t2, t3, rw', eg, _⟩ := m_L_rw hL ht
  obtain ⟨va, f0, f1, f2, hsn, hd, hn⟩ := rw'
  have e4 := hL.2.2.2.1
  have c8 : I 6 t.toNat ≠ 8 := fun c => by
    obtain ⟨i, _, hi⟩ := hn c
    rw [eg] at hi
    have := (w_mk_inj hi).1
    cases this
  have hd := hd c8
  rw [eg] at hd
  clear hn hsn
  obtain ⟨v0, v1, v2, v3, v4, v5, v6, _, v7, _, v8, _⟩ := va
  obtain ⟨h1, h2⟩ := w_mk_inj hd
  have c5 : I 6 t.toNat = 5 := by omega
  have v8 := v8 (by omega)
  simp only [List.cons.injEq] at h2
  have z7 := w_at_of (mk := mk) (x := I 7 t.toNat) (by omega) (by omega)
  have d7 : w_dz (w_d mk) (I 7 t.toNat) = w_d mk (I 7 t.toNat).toNat := by unfold w_dz; rw [if_neg (by omega)]
  exact w_at_ne hL z7 (by rw [← d7]; exact h2.1.symm)
theorem m_li_up' {K' : Wt → Prop} (h : m_li I mk K' L) (hJ : m_L J mm nn K tl) (hl : w_le mk mm) (n3 : ∀ f k, (18 ≤ f ∧ f ≤ 35) ∨ (36 ≤ f ∧ f ≤ 44 ∧ k < 1488) ∨ (45 ≤ f ∧ f ≤ 54) ∨ f = 16 ∨ (77 ≤ f ∧ f ≤ 82) ∨ (90 ≤ f ∧ f ≤ 94) ∨ (f = 1000 ∧ (k = 22 ∨ k = 23 ∨ k = 76 ∨ k = 83 ∨ k = 93 ∨ (100 ≤ k ∧ k ≤ 111))) → J f k = I f k) : m_li J mm K' L := by
  obtain ⟨h1, h2, h3, h4⟩ := h
  refine ⟨by rw [n3 1000 76 (by omega)]; exact h1, h2, by rw [n3 1000 23 (by omega)]; exact h3, fun k c hk => ?_⟩
  obtain ⟨⟨fr, l, i, e, s, x1, x2, x3, x4, x5⟩, y1, y2, y3, y4, y5, y6, y7⟩ := h4 k c hk
  refine ⟨⟨fr, l, i, e, s, m_tk_up x1 hJ hl (fun i _ => n3 26 _ (by omega)) (funext (fun k => n3 16 k (by omega))), by rw [n3 1000 23 (by omega)]; exact x2, x3, x4, by rw [n3 77 k (by omega)]; exact x5⟩, ?_⟩
  rw [n3 78 k (by omega), n3 79 k (by omega), n3 80 k (by omega), n3 81 k (by omega), n3 82 k (by omega)]
  exact ⟨y1, y2, y3, y4, y5, w_le_az hl y6, y7⟩
end
