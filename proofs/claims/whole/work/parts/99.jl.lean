/-! ===== the reference: propose, by the whole state ===== -/
noncomputable section
section
variable {I J : sr_V} {nn nm us m : Nat} {K K' : Wt → Prop} {tl tp mk mm : List Wt} {rd : Nat → Int} {ms ms' : List (List Wt)} {x kd of : Int} {B : Nat → v_M} {v : v_M} {P : Nat → Nat → Prop} {R : Int → sr_V → Prop} {La : List (Wt × Nat)} {Ul : List (Wt × Wt)}
/-- a member whose kept proposals and own UPDATEs alone are others -/
def v_ok2 (v : v_M) (La : List (Wt × Nat)) (U : List (Wt × Wt)) : v_M := (v_in v, v_G v, v_pd v, La, U, v_Lk v)
theorem m_zm_pu (h : m_zm I mk ms m v) (g : m_gp P I J) (hl : w_le mk mm) (hs : w_msl ms ms') (p : ∀ f k, P f k → ¬ ((f = 27 ∨ f = 28 ∨ f = 35 ∨ f = 45) ∧ k = m) ∧ ¬ m_pl m f k ∧ ¬ m_pl (24 + m) f k ∧ ¬ ((f = 48 ∨ f = 49 ∨ f = 50) ∧ 8 * m ≤ k ∧ k < 8 * m + 8)) (hp : m_pp J mm ms' m La) (hu : m_up J mm m Ul) : m_zm J mm ms' m (v_ok2 v La Ul) := by
  obtain ⟨h1, h2, h3, h4, h5, h6⟩ := h
  have e : ∀ f, f = 27 ∨ f = 28 ∨ f = 35 → J f m = I f m := fun f hf => g f m (fun q => by have := (p f m q).1; omega)
  refine ⟨?_, fun hin => ?_, ?_, hp, hu, ?_⟩
  · rw [e 27 (by omega)]; exact h1
  · exact m_st_le (m_st_gp (h2 hin) g (fun f k a b => (p f k b).2.1 a)) hl
  · show d_pend J mm m ms' (v_pd v)
    obtain ⟨o, eo⟩ : ∃ o, v_pd v = o := ⟨_, rfl⟩
    rw [eo] at h3 ⊢
    cases o with
    | none => exact (e 28 (by omega)).trans h3
    | some pp =>
      obtain ⟨lp, G'⟩ := pp
      obtain ⟨a1, ⟨pn, a2, a3⟩, a4⟩ := h3
      exact ⟨(e 28 (by omega)).trans a1, ⟨pn, (e 35 (by omega)).trans a2, hs pn lp a3⟩, m_st_le (m_st_gp a4 g (fun f k a b => (p f k b).2.2.1 a)) hl⟩
  · exact m_pk_gp h6 g (fun f k q => ⟨fun a => (p f k q).1 (by omega), (p f k q).2.2.2⟩) hl
theorem m_pv_no {f k : Nat} (h : m_pv m us f k) : ¬ (f = 1 ∨ f = 2 ∨ f = 20 ∨ f = 21) ∧ ¬ (f = 1000 ∧ k = 3) ∧ ((m_kq m f k ∨ (f = 47 ∧ k = m) ∨ ((f = 53 ∨ f = 54) ∧ 40 * m ≤ k ∧ k < 40 * m + 40)) ∨ (f < 27 ∨ 54 < f)) := by
  unfold m_pv m_pw m_p2 at h
  rcases h with ((h | h | h | h | h | ⟨h1, h2⟩) | h | h | ⟨h1, h2⟩) | h | h | h | h | h | h | ⟨h1, h2⟩
  · refine ⟨by omega, by omega, Or.inr (by omega)⟩
  · refine ⟨by omega, by omega, Or.inr (by omega)⟩
  · refine ⟨by omega, by omega, Or.inr (by omega)⟩
  · refine ⟨by omega, by omega, Or.inr (by omega)⟩
  · refine ⟨by omega, by omega, Or.inr (by omega)⟩
  · refine ⟨by omega, by omega, Or.inr (by omega)⟩
  · refine ⟨by omega, by omega, Or.inr (by omega)⟩
  · refine ⟨by omega, by omega, Or.inr (by omega)⟩
  · refine ⟨by omega, by omega, Or.inr (by omega)⟩
  · refine ⟨by omega, by omega, Or.inr (by omega)⟩
  · refine ⟨by omega, by omega, Or.inr (by omega)⟩
  · refine ⟨by omega, by omega, Or.inr (by omega)⟩
  · have h' := h
    unfold m_kq at h'
    exact ⟨by omega, by omega, Or.inl (Or.inl h)⟩
  · exact ⟨by omega, by omega, Or.inl (Or.inr (Or.inl h))⟩
  · exact ⟨by omega, by omega, Or.inl (Or.inr (Or.inr h))⟩
  · refine ⟨by omega, by omega, Or.inr (by omega)⟩
theorem z_pr_go {J : sr_V} (hm : m < 24) (h : m_ZZ I mk us nn K tl tp rd ms B) (hle : w_le mk mm) (hs : w_msl ms ms') (hL : m_L J mm nm K' tl) (hM : m_M J (w_d mm) ms') (hp : m_pp J mm ms' m La) (hu : m_up J mm m Ul) (g : m_gp (m_pv m us) I J) : m_ZZ J mm (J 1000 23).toNat nm K' tl tp rd ms' (v_up B m (v_ok2 (B m) La Ul)) := by
  have ll := w_le_len hle
  have i4 := h.1.1.2.2.2.1
  have j4 := hL.2.2.2.1
  have le4 : I 1000 4 ≤ J 1000 4 := by omega
  have he : ∀ u : Nat, (u : Int) ≤ I 1000 4 → w_d mm u = w_d mk u := fun u hu => w_le_d hle (by omega)
  have g0 := hM.2.2.1
  have hme : m_me J mm := m_me_le (m_me_gp h.1.2.1 g (fun f k c => by have := (m_pv_no c).1; omega)) hle
  have hP : m_P J (w_d mm) tp := m_P_e (funext (fun k => g 2 k (fun q => by have := (m_pv_no q).1; omega))) (g 1000 3 (fun q => by have := (m_pv_no q).2.1; omega)) le4 he h.2.1
  have hY : m_Y J rd := fun k hk => by
    rw [g 1 k (fun q => by have := (m_pv_no q).1; omega)]
    exact h.2.2.1 k hk
  refine m_ZZ_up h ⟨hL, hme, hM, by omega⟩ hP hY hle hs g (fun f k c j hj cj => ?_) (m_zm_pu (h.2.2.2.2 m hm) g hle hs (fun f k c => ?_) hp hu)
  · rcases (m_pv_no c).2.2 with c | c
    · refine m_zp_ne hm hj cj ?_
      rcases c with c | c | c
      · exact Or.inr (Or.inr (Or.inr (Or.inl c)))
      · exact Or.inl ⟨by omega, c.2⟩
      · exact Or.inr (Or.inr (Or.inr (Or.inr (Or.inl c))))
    · exact m_zp_hi c
  · have q := (m_pv_no c).2.2
    unfold m_pl
    rcases q with (q | ⟨q, _⟩ | ⟨q, _⟩) | q
    · unfold m_kq at q
      refine ⟨by omega, by omega, by omega, by omega⟩
    · refine ⟨by omega, by omega, by omega, by omega⟩
    · refine ⟨by omega, by omega, by omega, by omega⟩
    · refine ⟨by omega, by omega, by omega, by omega⟩
end
end
