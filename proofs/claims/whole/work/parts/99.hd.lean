/-! ===== the class: commit, behind the gathering ===== -/
noncomputable section
variable {H G Z X Y : sw_H} {mk mm tl tp lt l0 l1 : List Wt} {ms : List (List Wt)} {rd : Nat → Int} {nn nm r k o h l x y g g1 g2 n m p : Nat} {K K' K2 Kr S : Wt → Prop} {cn cs cn' cs' msk N U M z wp x2 : Int} {T T1 T2 T0 : w_T} {Q : sw_H → Prop} {P : Int → sw_H → Prop} {A : List Nat} {w s n0 cm jn sc : Wt} {G' : w_G} {L : List w_Ch} {f : p_L} {d : w_Ch} {La : Nat → List (Wt × Nat)} {C : List w_Ch} {hd : Nat → Wt} {Ul : List (Wt × Wt)}
theorem w_hcy_eq (h : t_ky T2 x = t_ky T1 x) : w_hcy G' T2 x = w_hcy G' T1 x := by unfold w_hcy; rw [h]
theorem c_Out_ch (h : c_Out H) (fl : c_full H) (ad : c_ads H) (c : c_ch A H G) (h1 : 1420 ∉ A) (h2 : 1421 ∉ A) : c_Out G := by
  obtain ⟨e1, s, r1, r2, r3, r4, r5, r6, r7⟩ := h
  have t1 := c_fx_ty fl c (q := 1420) (by unfold c_fix; omega)
  have t2 := c_fx_ty fl c (q := 1421) (by unfold c_fix; omega)
  have i1 := c_fx_iv fl ad c (q := 1420) (by unfold c_fix; omega) h1
  have i2 := c_fx_iv fl ad c (q := 1421) (by unfold c_fix; omega) h2
  have e : sw_iv G 1421 = sw_iv H 1421 := funext i2.1
  exact ⟨by rw [t2.2]; exact e1, s, by rw [t1.1]; exact r1, by rw [i1.2]; exact r2, by rw [t2.1]; exact r3, by rw [i1.1]; exact r4, by rw [t2.2]; exact r5, by rw [t2.2]; exact r6, by rw [e]; exact r7⟩
/-- what a commit changes -/
def c_Acm (m g2 : Nat) : List Nat := [2, 1416, 14, 15, 16, 1420, 1421, 1422, 120 + 54 * m] ++ c_Ag ++ [50] ++ (List.range 9).map (fun i => 85 + i) ++ (List.range 23).map (fun i => g2 + i)
theorem c_Acm_m {a : Nat} : a ∈ c_Acm m g2 ↔ a = 2 ∨ a = 1416 ∨ a = 14 ∨ a = 15 ∨ a = 16 ∨ (1420 ≤ a ∧ a ≤ 1422) ∨ a = 120 + 54 * m ∨ (44 ≤ a ∧ a ≤ 93 ∧ a ≠ 51) ∨ (g2 ≤ a ∧ a ≤ g2 + 22) := by
  unfold c_Acm
  rw [List.mem_append, List.mem_append, List.mem_append, List.mem_append, c_Ag_m]
  have e : a ∈ (List.range 9).map (fun i => 85 + i) ↔ 85 ≤ a ∧ a ≤ 93 := by
    rw [List.mem_map]
    refine ⟨fun h => ?_, fun h => ⟨a - 85, by rw [List.mem_range]; omega, by omega⟩⟩
    obtain ⟨i, h1, h2⟩ := h
    rw [List.mem_range] at h1
    omega
  have e2 : a ∈ (List.range 23).map (fun i => g2 + i) ↔ g2 ≤ a ∧ a ≤ g2 + 22 := by
    rw [List.mem_map]
    refine ⟨fun h => ?_, fun h => ⟨a - g2, by rw [List.mem_range]; omega, by omega⟩⟩
    obtain ⟨i, h1, h2⟩ := h
    rw [List.mem_range] at h1
    omega
  rw [e, e2]
  simp
  omega
theorem c_Acm_of (h : c_ch A H G) (hA : ∀ a ∈ A, a ∈ c_Acm m g2) : c_ch (c_Acm m g2) H G := c_ch_sub h hA
/-- the end, from the state behind the secrets -/
theorem c_cm_fin {x7 : Int} (hm : m < 24) (lm : c_lm (cn + 4) (cs + 2400) N U M) (p1 : c_pl g1) (p2 : c_pl g2) (hne : g1 ≠ g2) (hg : gg_ok G') (hi : g_iv m G') (hdn : L = [] ∨ h_done (gg_T G') L (gg_lf G')) (hok : ∀ c ∈ L, p_cok c.1) (h5 : h_p5 L) (hwp : wp = 0 ∨ wp = 1) (h300 : ms.length < 300) (h299 : k_ad G' L ≠ [] → ms.length < 299)
    (h7 : c_e7 H mk (k_nn G' nn wp L) K tl cn cs tp rd ms La g1 g2 G' (k_T2 G' m nn wp L) (k_hd G' nn wp L)) (hq : c_wq H mk (k_nn G' nn wp L) K tl cn cs tp rd ms Kr L (h_0 (gg_T G') L) (k_T1 G' L) (k_ms G' L) (gg_lf G') (w_nm (nn + 1)) wp) (hrr : c_rr H mk 1420 1421 (k_lt G' m nn wp L)) (hlt : (k_lt G' m nn wp L).length ≤ 1100) (hx : w_at mk x7 (k_cs G' nn wp L)) (hadds : sw_iv H 44 2 = (h_nad L : Nat)) (hb : c_bS (k_S G' m nn wp L) mk tl N U M)
    (q : ∀ J mm cn' cs', w_mo (k_S G' m nn wp L) mk mm → c_BS J mm (k_nn G' nn wp L) (k_K K G' m nn wp L) tl cn' cs' tp rd (ms ++ k_ms2 G' m nn wp L) La → c_gp J mm g2 (k_G G' m nn wp L) → (∀ f, sw_iv J (120 + 54 * m) f = if f = 6 then (ms.length : Int) else sw_iv H (120 + 54 * m) f) → (∀ f, sw_rv J (120 + 54 * m) f = sw_rv H (120 + 54 * m) f) → (cn' = cn + 2 * (k_ms2 G' m nn wp L).length ∧ cs' = cs + (((k_ms2 G' m nn wp L).map (fun l => 2 + l.length)).sum : Nat)) → c_Out J → c_ch (c_A87 m g2) H J → P ms.length J) : ∀ E : Nat → sw_H → Prop, wb_93_87 P E 2 (120 + 54 * m) g1 g2 wp x7 H := by
  obtain ⟨a1, a2, a3, a4, a5⟩ := k_T1_ok hg hi hok h5 hdn
  obtain ⟨c1, c2, c3⟩ := k_ad_ok hg hi hok h5 hdn
  have iv := k_iv (wp := wp) (nn := nn) hm hg hi hok h5 hdn
  have ead : h_ads (h_0 (gg_T G') L) L L.length = k_ad G' L := rfl
  refine c_cm_87 (S := k_S G' m nn wp L) hm lm p1 p2 hne h7 hq hrr hlt hx iv.1 (by rw [ead, k_ad_nad]; exact hadds) hb (fun v hv => Or.inr (Or.inl hv)) h300 a1.1 a5.1 hwp c1 (fun p j hp => ?_) (fun p j c hp hc v hv => Or.inr (Or.inr (Or.inl ⟨p, j, c, hp, hc, hv⟩))) (Or.inr (Or.inr (Or.inr rfl))) h299 (fun J mm ms' Ke cn' cs' m1 BJ gJ iJ rJ k1 k2 oJ cJ => ?_)
  · obtain ⟨i, hi'⟩ := List.getElem?_of_mem hp
    exact ⟨(c3 i p j hi').1, (c3 i p j hi').2.1⟩
  · rw [ead] at k1 k2
    have e : ms' = ms ++ k_ms2 G' m nn wp L ∧ Ke = k_K K G' m nn wp L ∧ cn' = cn + 2 * (k_ms2 G' m nn wp L).length ∧ cs' = cs + (((k_ms2 G' m nn wp L).map (fun l => 2 + l.length)).sum : Nat) := by
      unfold k_K k_ms2
      by_cases ea : k_ad G' L = []
      · rw [if_pos ea]
        obtain ⟨y1, y2, y3, y4⟩ := k1 ea
        refine ⟨y1, y2, y3, ?_⟩
        rw [y4]
        show _ = cs + ((2 + (w_cM G' (k_T2 G' m nn wp L) m (k_cs G' nn wp L) (k_lt G' m nn wp L)).length + 0 : Nat) : Int)
        omega
      · rw [if_neg ea]
        obtain ⟨y1, y2, y3, y4⟩ := k2 ea
        refine ⟨by rw [y1, List.append_assoc]; rfl, y2, by rw [y3]; show _ = cn + 2 * 2; omega, ?_⟩
        rw [y4]
        show _ = cs + ((2 + (k_M G' m nn wp L).length + (2 + (k_W G' m nn wp L).length + 0) : Nat) : Int)
        show cs + 2 + ((k_M G' m nn wp L).length : Int) + 2 + ((k_W G' m nn wp L).length : Int) = _
        omega
    rw [e.1, e.2.1] at BJ
    exact q J mm cn' cs' m1 BJ gJ iJ rJ ⟨e.2.2.1, e.2.2.2⟩ oJ cJ
end
