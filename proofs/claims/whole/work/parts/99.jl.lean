/-! ===== the reference: propose, by the whole state ===== -/
noncomputable section
section
variable {I J : sr_V} {nn nm us m : Nat} {K K' : Wt → Prop} {tl tp mk mm : List Wt} {rd : Nat → Int} {ms ms' : List (List Wt)} {x kd of : Int} {B : Nat → v_M} {v : v_M} {P : Nat → Nat → Prop} {R : Int → sr_V → Prop} {La : List (Wt × Nat)} {Ul : List (Wt × Wt)}
/-- a member whose kept proposals and own UPDATEs alone are others -/
def v_ok2 (v : v_M) (La : List (Wt × Nat)) (U : List (Wt × Wt)) : v_M := (v_in v, v_G v, v_pd v, La, U, v_Lk v)
theorem m_zm_pu (h : m_zm I mk ms m v) (g : m_gp P I J) (hl : w_le mk mm) (hs : w_msl ms ms') (p : ∀ f k, P f k → ¬ ((f = 27 ∨ f = 28 ∨ f = 35 ∨ f = 45) ∧ k = m) ∧ ¬ m_pl m f k ∧ ¬ m_pl (24 + m) f k ∧ ¬ ((f = 48 ∨ f = 49 ∨ f = 50) ∧ 8 * m ≤ k ∧ k < 8 * m + 8)) (hp : m_pp J mm ms' m La) (hu : m_up J mm m Ul) : m_zm J mm ms' m (v_ok2 v La Ul) := by
  obtain ⟨h1, h2, h3, h4, h5, h6⟩ := h
  have e : ∀ f, f = 27 ∨ f = 28 ∨ f = 35 → J f m = I f m := fun f hf => g f m (fun q => by have := (p f m q).1; omega)
  refine ⟨?_, fun hin => ?_, ?_, hp, hu, ?_⟩
  · rw [e 27 (by omega)]; exact h1
  · exact m_st_le (m_st_gp (h2 hin) g (fun f k a b => (p f k b).2.1 a)) hl
  · show d_pend J mm m ms' (v_pd v)
    obtain ⟨o, eo⟩ : ∃ o, v_pd v = o := ⟨_, rfl⟩
    rw [eo] at h3 ⊢
    cases o with
    | none => exact (e 28 (by omega)).trans h3
    | some pp =>
      obtain ⟨lp, G'⟩ := pp
      obtain ⟨a1, ⟨pn, a2, a3⟩, a4⟩ := h3
      exact ⟨(e 28 (by omega)).trans a1, ⟨pn, (e 35 (by omega)).trans a2, hs pn lp a3⟩, m_st_le (m_st_gp a4 g (fun f k a b => (p f k b).2.2.1 a)) hl⟩
  · exact m_pk_gp h6 g (fun f k q => ⟨fun a => (p f k q).1 (by omega), (p f k q).2.2.2⟩) hl
end
end
