/-! ===== the class: Path.plan ===== -/
noncomputable section
/-- the heights below n that count -/
def t_wl (T : w_T) (l : Nat) : Nat → List Nat
  | 0 => []
  | n + 1 => if t_cb T l n = 0 then t_wl T l n else t_wl T l n ++ [n]
/-- for whom secrets are sealed -/
def w_sq (T : w_T) (msk : Int) (l : Nat) (hs : List Nat) : List Nat := hs.flatMap (w_rq T msk l)
variable {H G Z X : sw_H} {mk mm tl : List Wt} {nn r k o h l x y g n : Nat} {K : Wt → Prop} {cn cs msk : Int} {T T' : w_T} {Q : sw_H → Prop} {P : Int → sw_H → Prop} {A : List Nat} {rs hs : List Nat}
theorem t_wl_0 (c : t_cb T l n = 0) : t_wl T l (n + 1) = t_wl T l n := if_pos c
theorem t_wl_1 (c : t_cb T l n ≠ 0) : t_wl T l (n + 1) = t_wl T l n ++ [n] := if_neg c
theorem t_wl_len : ∀ n, (t_wl T l n).length ≤ n
  | 0 => Nat.le_refl _
  | n + 1 => by
    have ih := t_wl_len n
    by_cases c : t_cb T l n = 0
    · rw [t_wl_0 c]; omega
    · rw [t_wl_1 c, List.length_append, List.length_singleton]; omega
theorem t_wl_m {j : Nat} : ∀ n, j ∈ t_wl T l n ↔ j < n ∧ t_cb T l j ≠ 0
  | 0 => ⟨fun h => (by cases h), fun h => absurd h.1 (Nat.not_lt_zero _)⟩
  | n + 1 => by
    have ih := t_wl_m (j := j) n
    by_cases c : t_cb T l n = 0
    · rw [t_wl_0 c, ih]
      refine ⟨fun h => ⟨by omega, h.2⟩, fun h => ⟨?_, h.2⟩⟩
      have : j ≠ n := fun e => h.2 (by rw [e]; exact c)
      omega
    · rw [t_wl_1 c, List.mem_append, List.mem_singleton, ih]
      refine ⟨fun h => ?_, fun h => ?_⟩
      · rcases h with h | h
        · exact ⟨by omega, h.2⟩
        · rw [h]; exact ⟨by omega, c⟩
      · by_cases e : j = n
        · exact Or.inr e
        · exact Or.inl ⟨by omega, h.2⟩
/-- what the plan says, below height n -/
def c_pk2 (H : sw_H) (T : w_T) (msk : Int) (l : Nat) (hs : List Nat) : Prop := sw_iv H 85 0 = (hs.length : Nat) ∧ (∀ i j, hs[i]? = some j → sw_iv H 86 i = ((t_ab l (j + 1) : Nat) : Int) ∧ sw_iv H 87 i = ((t_si l j : Nat) : Int)) ∧ (∀ i, i ≤ hs.length → sw_iv H 91 i = ((w_sq T msk l (hs.take i)).length : Nat)) ∧ ∀ p v, (w_sq T msk l hs)[p]? = some v → sw_iv H 92 p = (v : Nat)
theorem c_pk2_fr (h : c_pk2 H T msk l hs) (f : c_fr A H G) (hA : ∀ a ∈ A, a ≠ 85 ∧ a ≠ 86 ∧ a ≠ 87 ∧ a ≠ 91 ∧ a ≠ 92) : c_pk2 G T msk l hs := by
  have na : ∀ a, a = 85 ∨ a = 86 ∨ a = 87 ∨ a = 91 ∨ a = 92 → sw_iv G a = sw_iv H a := fun a ha => f.2.2.2.2.2 a (fun c => by have := hA a c; omega)
  refine ⟨by rw [na 85 (by omega)]; exact h.1, fun i j hj => by rw [na 86 (by omega), na 87 (by omega)]; exact h.2.1 i j hj, fun i hi => by rw [na 91 (by omega)]; exact h.2.2.1 i hi, fun p v hv => by rw [na 92 (by omega)]; exact h.2.2.2 p v hv⟩
theorem c_Pa_fr (h : c_Pa H) (f : c_fr A H G) : c_Pa G := by
  obtain ⟨h1, h2, h3, h4, h5, h6, h7, h8, h9⟩ := h
  have t := f.2.2.1
  have n := f.2.2.2.1
  have v := f.2.2.2.2.1
  refine ⟨by rw [t]; exact h1, fun i i1 i2 => by rw [v, t, n]; exact h2 i i1 i2, by rw [v]; exact h3, by rw [v]; exact h4, by rw [v]; exact h5, by rw [t, n]; exact h6, by rw [t, n]; exact h7, by rw [t]; exact h8, by rw [n]; exact h9⟩
theorem sw_y1 : ∀ y : Fin 32, sw_and (y.val : Int) 1 = ((y.val % 2 : Nat) : Int) ∧ sw_shr (y.val : Int) 1 = ((y.val / 2 : Nat) : Int) := by decide +kernel
theorem w_keep_t {y : Nat} : w_keep msk y = true ↔ ¬ (y % 2 = 0 ∧ w_bit msk (y / 2) = 1) := by unfold w_keep; rw [decide_eq_true_iff]
/-- the loop of putSealed -/
theorem c_ps_8 (hPa : c_Pa H) (hm : sw_c msk) (r31 : ∀ y ∈ rs, y < 32) (rl : rs.length ≤ 144) (hrz : c_rz H 93 rs) {p0 ln : Nat} (hp : p0 + rs.length ≤ 576) (hln : sw_iv H 85 0 = (ln : Nat)) (l4 : ln < 4)
    (q : ∀ G, c_fr [91, 92] H G → sw_iv G 91 (ln + 1) = ((p0 + (rs.filter (w_keep msk)).length : Nat) : Int) → (∀ i, i ≠ ln + 1 → sw_iv G 91 i = sw_iv H 91 i) → (∀ i, i < p0 → sw_iv G 92 i = sw_iv H 92 i) → (∀ i v, (rs.filter (w_keep msk))[i]? = some v → sw_iv G 92 (p0 + i) = (v : Nat)) → Q G) :
    ∀ (n k : Nat) {G : sw_H}, c_fr [92] H G → (∀ i, i < p0 → sw_iv G 92 i = sw_iv H 92 i) → (∀ i v, ((rs.take k).filter (w_keep msk))[i]? = some v → sw_iv G 92 (p0 + i) = (v : Nat)) → k ≤ rs.length → rs.length - k < n → wl_361_8 Q n 85 (rs.length : Nat) msk ((p0 + ((rs.take k).filter (w_keep msk)).length : Nat) : Int) k G
  | 0, _, _, _, _, _, _, h => by omega
  | n + 1, k, G, f, e1, e2, hk, hn => by
    have PG := c_Pa_fr hPa f
    obtain ⟨h1, h2, h3, h4, h5, h6, h7, h8, h9⟩ := PG
    have fl : ((rs.take k).filter (w_keep msk)).length ≤ k := Nat.le_trans (List.length_filter_le _ _) (by rw [List.length_take]; omega)
    unfold wl_361_8
    refine ⟨fun c => ?_, fun c => ?_⟩
    · have ek : k = rs.length := by omega
      rw [h3]
      refine ⟨h6.1, ?_⟩
      intro q26 e26 v29 e29 _
      rw [f.2.2.2.2.2 85 (by decide), hln] at e29
      subst e29
      rw [e26, sw_s1 (by omega)]
      refine ⟨by omega, by rw [h6.2]; omega, ?_⟩
      intro Z eZ
      have fZ : c_fr [91] G Z := by rw [eZ]; exact c_fr_si _ _ _ _
      rw [Int.toNat_natCast] at eZ
      have tk : rs.take k = rs := by rw [ek]; exact List.take_length
      rw [tk] at e2 eZ
      refine q Z (c_fr_t (c_fr_sub f (by simp)) (c_fr_sub fZ (by simp))) (by rw [eZ, c_si_eq]) (fun i hi => ?_) (fun i hi => ?_) (fun i v hv => ?_)
      · rw [eZ, c_si_f hi, f.2.2.2.2.2 91 (by decide)]
      · rw [fZ.2.2.2.2.2 92 (by decide)]; exact e1 i hi
      · rw [fZ.2.2.2.2.2 92 (by decide)]; exact e2 i v hv
    · obtain ⟨y, hy⟩ : ∃ y, rs[k]? = some y := ⟨_, List.getElem?_eq_getElem (by omega)⟩
      have y32 := r31 y (List.mem_of_getElem? hy)
      have ts : rs.take (k + 1) = rs.take k ++ [y] := by rw [List.take_add_one, hy]; rfl
      have fs : (rs.take (k + 1)).filter (w_keep msk) = (rs.take k).filter (w_keep msk) ++ (if w_keep msk y = true then [y] else []) := by
        rw [ts, List.filter_append]
        by_cases c : w_keep msk y = true
        · rw [if_pos c, List.filter_cons_of_pos c, List.filter_nil]
        · rw [if_neg c, List.filter_cons_of_neg c, List.filter_nil]
      rw [h5]
      refine ⟨h8, ?_⟩
      intro q35 e35
      rw [e35]
      refine ⟨by omega, by rw [h9]; omega, ?_⟩
      intro v38 e38 _
      rw [Int.toNat_natCast, f.2.2.2.2.2 93 (by decide), hrz k y hy] at e38
      subst e38
      obtain ⟨y1, y2⟩ := sw_y1 ⟨y, y32⟩
      have y1 : sw_and (y : Int) 1 = ((y % 2 : Nat) : Int) := y1
      have y2 : sw_shr (y : Int) 1 = ((y / 2 : Nat) : Int) := y2
      have yb : sw_and (sw_shr msk ((y / 2 : Nat) : Int)) 1 = w_bit msk (y / 2) := sw_bit hm (by omega)
      rw [y1, y2, yb]
      have bits := w_bit_01 msk (y / 2)
      have keep : w_keep msk y = true → wb_361_31 Q (wl_361_8 Q n) 85 (rs.length : Nat) msk ((p0 + ((rs.take k).filter (w_keep msk)).length : Nat) : Int) k y 0 G := fun ck => by
        unfold wb_361_31
        refine ⟨fun c => absurd rfl c, fun _ => ?_⟩
        rw [h4]
        refine ⟨h7.1, ?_⟩
        intro q8 e8 v11 e11 _
        rw [e8, h7.2] at e11
        refine ⟨fun c2 => absurd c2 (by omega), fun c2 => ⟨h7.1, ?_⟩⟩
        intro q14 e14
        rw [e14]
        refine ⟨by omega, by rw [h7.2]; omega, ?_⟩
        intro Z eZ
        have fZ : c_fr [92] G Z := by rw [eZ]; exact c_fr_si _ _ _ _
        rw [Int.toNat_natCast] at eZ
        intro y20 e20
        rw [sw_s1 (by omega)] at e20
        subst e20
        unfold wb_361_45
        intro yk eyk
        rw [sw_s1 (by omega)] at eyk
        subst eyk
        rw [if_pos ck] at fs
        have el : ((p0 + ((rs.take k).filter (w_keep msk)).length + 1 : Nat) : Int) = ((p0 + ((rs.take (k + 1)).filter (w_keep msk)).length : Nat) : Int) := by rw [fs, List.length_append, List.length_singleton]; omega
        rw [el]
        refine c_ps_8 hPa hm r31 rl hrz hp hln l4 q n (k + 1) (c_fr_t f fZ) (fun i hi => ?_) (fun i v hv => ?_) (by omega) (by omega)
        · rw [eZ, c_si_f (by omega)]; exact e1 i hi
        · rw [fs] at hv
          by_cases ci : i < ((rs.take k).filter (w_keep msk)).length
          · rw [List.getElem?_append_left ci] at hv
            rw [eZ, c_si_f (by omega)]
            exact e2 i v hv
          · rw [List.getElem?_append_right (by omega)] at hv
            have ei : i - ((rs.take k).filter (w_keep msk)).length = 0 := by
              rcases Nat.lt_or_ge (i - ((rs.take k).filter (w_keep msk)).length) 1 with g | g
              · omega
              · rw [List.getElem?_eq_none (by simp; omega)] at hv
                exact absurd hv (by simp)
            rw [ei] at hv
            injection hv with hv
            have ei2 : i = ((rs.take k).filter (w_keep msk)).length := by omega
            rw [eZ, ei2, c_si_eq, hv]
      have skip : ¬ w_keep msk y = true → wb_361_31 Q (wl_361_8 Q n) 85 (rs.length : Nat) msk ((p0 + ((rs.take k).filter (w_keep msk)).length : Nat) : Int) k y 1 G := fun ck => by
        unfold wb_361_31
        refine ⟨fun _ => ?_, fun c => absurd c (by decide)⟩
        unfold wb_361_45
        intro yk eyk
        rw [sw_s1 (by omega)] at eyk
        subst eyk
        rw [if_neg ck, List.append_nil] at fs
        rw [← fs]
        exact c_ps_8 hPa hm r31 rl hrz hp hln l4 q n (k + 1) f e1 (by rw [fs]; exact e2) (by omega) (by omega)
      refine ⟨fun c3 => keep (w_keep_t.mpr (fun h => by omega)), fun c3 => ⟨fun c4 => keep (w_keep_t.mpr (fun h => by omega)), fun c4 => skip (fun h => (w_keep_t.mp h) ⟨by omega, by omega⟩)⟩⟩
end
